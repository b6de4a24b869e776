/-! CALLS 9: would, wouldName -/
section K9
variable {fa fb ga gb : Nat → Nat} {n k m r u v b t l kd : Nat} {X Y : SBS} {M x y q : MdS} {P : List (Nat × Nat)}
/-- the blocks that would be one -/
def wS (n : Nat) (fa fb : Nat → Nat) (m u v j : Nat) : Bool := if ld fa fb m u = ld fa fb m v then (nds u (pa fa fb m u v)).any (fun y => N_of (hB n fa fb m) y == j) else j == bnm n fa fb m u
theorem wS_ex {j : Nat} (hV : Vd fa fb n m) (hu : u < n) (h : wS n fa fb m u v j = true) : ∃ y, y < n ∧ bnm n fa fb m y = j := by
  unfold wS at h
  by_cases q : ld fa fb m u = ld fa fb m v
  · rw [if_pos q, List.any_eq_true] at h
    obtain ⟨y, hy, he⟩ := h
    exact ⟨y, nds_lt (pa_W q) (fun l hl => hV l hl.1) hu y hy, beq_iff_eq.mp he⟩
  · rw [if_neg q] at h
    exact ⟨u, hu, by have := beq_iff_eq.mp h; exact this.symm⟩
theorem blk_size (hV : Vd fa fb n m) (hv : v < n) : N_mx (hB n fa fb m) (bnm n fa fb m v) = cnt (fun x => bnm n fa fb m x = bnm n fa fb m v) n := by
  have h := NI_B (n := n) (k := m) hV
  have h1 := h.1 v hv
  show N_mx (hB n fa fb m) (N_of (hB n fa fb m) v) = _
  rw [(h.2.2.1 _ h1.1 h1.2).1, cntN_cnt]
  rfl
theorem endedIf_ok (hv : HV n m fa fb) (h : RY n m fa fb y) {w1 w2 : Int32} (h1 : w1.toInt = (u : Int)) (h2 : w2.toInt = (v : Int)) (hu : u < n) (hw : v < n) : Ok (Md_m_endedIf y w1 w2) (fun r => r.toInt = ((if ld fa fb m u = ld fa fb m v then (fw fa fb (qb fa fb m) m u v).length else 0 : Nat) : Int)) := by
  have hn := hv.2.1
  have hV := hv.2.2.2.1
  have hl := land_same (n := n) (k := m) hV hu hw
  have bu := bnm_lt (k := m) hV hu
  have bv := bnm_lt (k := m) hV hw
  unfold Md_m_endedIf
  refine Ok_then (ry_la h hn h1 hu) (fun a ha => Ok_then (ry_la h hn h2 hw) (fun c hc => Ok_ieq ha hc (fun z => ?_) (fun z => ?_)))
  · have hld := hl.mp (Int.natCast_inj.mp z)
    rw [if_pos hld]
    have e1 := (bnm_same (k := m) hV hu).1
    have e2 := (bnm_same (k := m) hV hw).1
    refine Ok_then (ry_ba h hn h1 hu) (fun a ha => Ok_then (ry_ba h hn h2 hw) (fun c hc => Ok_then (apart_ok' hV hn h.2.2.2.2.2.1 ha hc bu.1 bu.2 bv.1 bv.2 (e1.trans (hld.trans e2.symm))) (fun g hg => Ok_some ?_)))
    rw [hg, fw_bb hV hu hw hld]
  · rw [if_neg (fun q => z (by
      have := hl.mpr q
      show ((lnm n fa fb m u : Nat) : Int) = _
      unfold lnm
      rw [this]))]
    exact Ok_some i32_0
theorem blocksIf_ok (hv : HV n m fa fb) (h : RY n m fa fb y) {w1 w2 : Int32} (h1 : w1.toInt = (u : Int)) (h2 : w2.toInt = (v : Int)) (hu : u < n) (hw : v < n) : Ok (Md_m_blocksIf y w1 w2) (fun r => ∀ j, j < 32 → (bt r j = true ↔ wS n fa fb m u v j = true)) := by
  have hn := hv.2.1
  have hV := hv.2.2.2.1
  have hl := land_same (n := n) (k := m) hV hu hw
  have bu := bnm_lt (k := m) hV hu
  have bv := bnm_lt (k := m) hV hw
  unfold Md_m_blocksIf
  refine Ok_then (ry_la h hn h1 hu) (fun a ha => Ok_then (ry_la h hn h2 hw) (fun c hc => Ok_ieq ha hc (fun z => ?_) (fun z => ?_)))
  · have hld := hl.mp (Int.natCast_inj.mp z)
    have e1 := (bnm_same (k := m) hV hu).1
    have e2 := (bnm_same (k := m) hV hw).1
    refine Ok_then (ry_ba h hn h1 hu) (fun a ha => Ok_then (ry_ba h hn h2 hw) (fun c hc => Ok_then (onWay_ok hV hn h.2.2.2.2.2.1 ha hc bu.1 bu.2 bv.1 bv.2 (e1.trans (hld.trans e2.symm))) (fun g hg => Ok_some (fun j hj => ?_))))
    rw [hg j hj]
    unfold wS
    rw [if_pos hld]
    exact (way_set hV hu hw hld).symm
  · have hld : ¬ ld fa fb m u = ld fa fb m v := fun q => z (by
      have := hl.mpr q
      show ((lnm n fa fb m u : Nat) : Int) = _
      unfold lnm
      rw [this])
    refine Ok_then (ry_ba h hn h1 hu) (fun a ha => Ok_some (fun j hj => ?_))
    rw [bt_one ha (by have := bu.1; omega) j hj]
    unfold wS
    rw [if_neg hld, beq_iff_eq]
theorem wouldBeOne_ok (hv : HV n m fa fb) {gt : Int32 × WbS} (hgt : TrX n m fa fb u v X gt) {w1 : Int32} (h1 : w1.toInt = (u : Int)) (hu : u < n) : Ok (SB_m_wouldBeOne (SB_set_now X gt.2) w1 gt.1) (fun q => ∀ j, j < 64 → bt64 q j = wS n fa fb m u v j) := by
  have hn := hv.2.1
  have hV := hv.2.2.2.1
  obtain ⟨hXd, hW, hgt⟩ := hgt
  have hn1 : SB_now (SB_set_now X gt.2) = gt.2 := rfl
  have bu := bnm_lt (k := m) hV hu
  unfold SB_m_wouldBeOne
  rw [hn1]
  rcases hgt with ⟨hld, e⟩ | ⟨hld, e, hlen, hway⟩
  · refine Ok_ite (fun _ => Ok_rdb h1 (by omega) ?_) (fun q => absurd e q)
    have hb := hW.2.2.2.2.1.2.2.1.2.1 u hu
    have hb' : (Nm_of (Wb_blocks gt.2) u).toInt = (bnm n fa fb m u : Int) := hb
    refine Ok_then (bit_ok (v := Nm_of (Wb_blocks gt.2) u) (by omega) (by have := bu.1; omega)) (fun g hg => Ok_some (fun j hj => ?_))
    rw [hg j hj]
    unfold wS
    rw [if_neg hld]
    have e2 : (Nm_of (Wb_blocks gt.2) u).toInt.toNat = bnm n fa fb m u := by omega
    rw [e2]
    by_cases q : j = bnm n fa fb m u
    · rw [decide_eq_true q, beq_iff_eq.mpr q]
    · rw [decide_eq_false q]
      exact (beq_eq_false_iff_ne.mpr q).symm
  · refine Ok_ite (fun q => by rw [q, i32_m1] at e; omega) (fun _ => ?_)
    refine Ok_then (blocksOnWay_ok hW.2.2.2.2.1 hway (by omega) (nds_lt (pa_W hld) (fun l hl => hV l hl.1) hu) (fun y hy => (bnm_lt (k := m) hV hy).1) e) (fun g hg => Ok_some (fun j hj => ?_))
    rw [hg j hj]
    unfold wS
    rw [if_pos hld]
theorem sumS_s {S : Nat → Bool} {g : Nat → Nat} : sumS (k + 1) S g = sumS k S g + (if S k = true then g k else 0) := rfl
theorem pc_would : PC_would Inv := by
  intro X M ⟨n, m, fa, fb, hv, hc, hr, hd⟩ v1 v2 v3
  apply pcX
  have hT : Rd n m fa fb M (Md_set_told M 0) := Rd_told hr
  have hn := hv.2.1
  have hm := hv.2.2.1
  have hV := hv.2.2.2.1
  have hA := areTwoC_ok (w1 := v1) (w2 := v2) hc
  have hBx := areTwoR_ok (x := Md_set_told M 0) (w1 := v1) (w2 := v2) hr.1
  have hin := isInt_ok (x := Md_set_told M 0) (w := v3) i64_0 i64_1
  unfold SB_m_would Md_m_would
  by_cases h2 : (0 ≤ v1.toInt ∧ v1.toInt < n) ∧ (0 ≤ v2.toInt ∧ v2.toInt < n) ∧ v1.toInt ≠ v2.toInt
  · refine T2_t1 hA h2 (T2_t2 hBx h2 ?_)
    have hu : v1.toInt = (v1.toInt.toNat : Int) := by omega
    have hw : v2.toInt = (v2.toInt.toNat : Int) := by omega
    have hun : v1.toInt.toNat < n := by omega
    have hwn : v2.toInt.toNat < n := by omega
    generalize v1.toInt.toNat = u at *
    generalize v2.toInt.toNat = v at *
    refine T2_b1 (traceX_ok hv hc hu hw hun hwn) (fun gt hgt => ?_)
    have hgt0 := hgt
    obtain ⟨hXd, hW, hgt⟩ := hgt
    have hn1 : SB_now (SB_set_now X gt.2) = gt.2 := rfl
    by_cases q0 : v3 = 0
    · refine T2_p1 q0 (T2_t2 hin (by rw [q0]; decide) (T2_b2 (runsAll_ok hv hT) (fun g hg => T2_p2 q0 ?_)))
      have hR := endedIf_ok hv (Rt_y hg) hu hw hun hwn
      rcases hgt with ⟨hld, e⟩ | ⟨hld, e, hlen, hway⟩
      · rw [if_neg hld] at hR
        exact T2_p1 e (ansX hv hd (E := 0) (Ok_some ⟨i32_0, hXd⟩) (Ok_then hR (fun a ha => Ok_some ⟨ha, Rt_d hg⟩)))
      · rw [if_pos hld] at hR
        refine T2_n1 (fun z => by rw [z, i32_m1] at e; omega) (ansX hv hd (E := ((fw fa fb (qb fa fb m) m u v).length : Int)) (Ok_then (bridgesOnWayC_ok hW.2.2.1 hm hway (by omega) pa_red.2 e) (fun a ha => Ok_some ⟨?_, hXd⟩)) (Ok_then hR (fun a ha => Ok_some ⟨ha, Rt_d hg⟩)))
        show a.toInt = _
        rw [ha, brs_pa hld, lks_len]
    · refine T2_n1 q0 ?_
      by_cases q1 : v3 = 1
      · refine T2_p1 q1 (T2_t2 hin (by rw [q1]; decide) (T2_b2 (runsAll_ok hv hT) (fun g hg => T2_n2 q0 ?_)))
        have hy := Rt_y hg
        refine ansX hv hd (E := (sumS n (wS n fa fb m u v) (N_mx (hB n fa fb m)) : Int)) (Ok_then (wouldBeOne_ok hv hgt0 hu hun) (fun a ha => Ok_then (sizeOf_ok hW.2.2.2.2.1 (fun j hj => ha j (by omega))) (fun c hcc => Ok_some ⟨hcc, hXd⟩))) ?_
        have hsz : sumS n (wS n fa fb m u v) (N_mx (hB n fa fb m)) = sumS n (wS n fa fb m u v) (fun k => cnt (fun x => bnm n fa fb m x = k) n) := by
          refine sumS_congr (fun b hb hS => ?_)
          obtain ⟨z, hz1, hz2⟩ := wS_ex hV hun hS
          rw [← hz2]
          exact blk_size hV hz1
        rw [hsz]
        have hbd : ∀ j, j ≤ n → sumS j (wS n fa fb m u v) (fun k => cnt (fun x => bnm n fa fb m x = k) n) ≤ 32 * 32 := fun j hj => Nat.le_trans (sumS_le (c := 32) (fun i hi => Nat.le_trans cnt_le hn)) (Nat.mul_le_mul (by omega) (Nat.le_refl _))
        refine Ok_for n (fun j s => s.toInt = (sumS j (wS n fa fb m u v) (fun k => cnt (fun x => bnm n fa fb m x = k) n) : Int)) (by omega) i32_0 i32_0 ?_ ?_
        · intro j s i hj hi hI
          dsimp only [Md_m_would_s48]
          have hnn := hy.1
          have hb1 := hbd j (by omega)
          have hcl := cnt_le (P := fun x => bnm n fa fb m x = j) (n := n)
          refine Ok_ite (fun q => by rw [i32_le] at q; omega) (fun _ => Ok_then (blocksIf_ok hv hy hu hw hun hwn) (fun a ha => Ok_eqb (has_ok hi (by omega)) (Ok_ite (fun q => ?_) (fun q => ?_))))
          · refine Ok_then (sizeOfR_ok (kd := 0) hy.1 hn i32_0 (by omega) hi (ry_blk hy)) (fun c hcc => Ok_some ⟨nx_s hi (by omega), ?_⟩)
            show (s + c).toInt = _
            rw [sumS_s, if_pos ((ha j (by omega)).mp q), i32_add (by omega) (by omega), hI, hcc]
            rfl
          · refine Ok_some ⟨nx_s hi (by omega), ?_⟩
            rw [sumS_s, if_neg (fun z => q ((ha j (by omega)).mpr z)), Nat.add_zero]
            exact hI
        · intro s i hi hI
          dsimp only [Md_m_would_s48]
          have hnn := hy.1
          exact Ok_ite (fun _ => Ok_omap (Ok_some ⟨hI, Rt_d hg⟩)) (fun q => by rw [i32_le] at q; omega)
      · refine T2_n1 q1 (T2_f2 hin (fun z => ?_) (T2_some ⟨rfl, Inv_ofX hv hXd hd hT⟩))
        have z0 : v3.toInt ≠ 0 := fun e => q0 (i32_ext (by rw [e]; rfl))
        have z1 : v3.toInt ≠ 1 := fun e => q1 (i32_ext (by rw [e]; rfl))
        omega
  · exact T2_f1 hA h2 (T2_f2 hBx h2 (T2_some ⟨rfl, Inv_of hv hc hd hT⟩))
theorem nameIf_ok {w w2 : Int32} {f : Nat → Nat} {S : Nat → Bool} (hn : n ≤ 32) (hnn : (Md_n y).toInt = (n : Int)) (h1 : w.toInt = (kd : Int)) (hkd : kd ≤ 1) (hf : ∀ j, j < n → (Md_nameOf y (32 * kd + j)).toInt = (f j : Int)) (hS : ∀ j, j < n → (bt w2 j = true ↔ S j = true)) : Ok (Md_m_nameIf y w w2) (fun r => r.toInt = kv (kpr (fun b => cnt (fun x => f x = b) n) S n)) := by
  unfold Md_m_nameIf
  refine Ok_for n (fun j c => c.toInt = kv (kpr (fun b => cnt (fun x => f x = b) n) S j)) (by omega) i32_0 i32_m1 ?_ ?_
  · intro j c i hj hi hI
    dsimp only [Md_m_nameIf_s5]
    refine Ok_ite (fun q => by rw [i32_le] at q; omega) (fun _ => Ok_eqb (has_ok hi (by omega)) (Ok_ite (fun q => ?_) (fun q => ?_)))
    · have hSj := (hS j hj).mp q
      cases hk : kpr (fun b => cnt (fun x => f x = b) n) S j with
      | none =>
        rw [hk] at hI
        refine Ok_ite (fun _ => Ok_some ⟨nx_s hi (by omega), ?_⟩) (fun z => absurd (i32_ext (by rw [hI, i32_m1]; rfl)) z)
        rw [kpr_s, hk]
        dsimp only
        rw [if_pos hSj]
        exact hi
      | some K =>
        rw [hk] at hI
        have hI' : c.toInt = (K : Int) := hI
        have hKj := (kpr_mem hk).1
        refine Ok_ite (fun z => by rw [i32_eq, hI', i32_m1] at z; omega) (fun _ => Ok_then (sizeOfR_ok hnn hn h1 hkd hi hf) (fun a ha => Ok_then (sizeOfR_ok hnn hn h1 hkd hI' hf) (fun d hd => Ok_ile ha hd (fun z => ?_) (fun z => ?_))))
        · refine Ok_some ⟨nx_s hi (by omega), ?_⟩
          rw [kpr_s, hk]
          dsimp only
          rw [if_neg (fun z2 => by omega)]
          exact hI'
        · refine Ok_some ⟨nx_s hi (by omega), ?_⟩
          rw [kpr_s, hk]
          dsimp only
          rw [if_pos ⟨hSj, by omega⟩]
          exact hi
    · have hSj : ¬ S j = true := fun z => q ((hS j hj).mpr z)
      refine Ok_some ⟨nx_s hi (by omega), ?_⟩
      cases hk : kpr (fun b => cnt (fun x => f x = b) n) S j with
      | none =>
        rw [hk] at hI
        rw [kpr_s, hk]
        dsimp only
        rw [if_neg hSj]
        exact hI
      | some K =>
        rw [hk] at hI
        rw [kpr_s, hk]
        dsimp only
        rw [if_neg (fun z => hSj z.1)]
        exact hI
  · intro c i hi hI
    dsimp only [Md_m_nameIf_s5]
    exact Ok_ite (fun _ => Ok_omap (Ok_some hI)) (fun q => by rw [i32_le] at q; omega)
theorem pc_wouldName : PC_wouldName Inv := by
  intro X M ⟨n, m, fa, fb, hv, hc, hr, hd⟩ v1 v2 v3
  apply pcX
  have hT : Rd n m fa fb M (Md_set_told M 0) := Rd_told hr
  have hn := hv.2.1
  have hm := hv.2.2.1
  have hV := hv.2.2.2.1
  have hA := areTwoC_ok (w1 := v1) (w2 := v2) hc
  have hBx := areTwoR_ok (x := Md_set_told M 0) (w1 := v1) (w2 := v2) hr.1
  have hin := isInt_ok (x := Md_set_told M 0) (w := v3) i64_0 i64_1
  unfold SB_m_wouldName Md_m_wouldName
  by_cases h2 : (0 ≤ v1.toInt ∧ v1.toInt < n) ∧ (0 ≤ v2.toInt ∧ v2.toInt < n) ∧ v1.toInt ≠ v2.toInt
  · refine T2_t1 hA h2 (T2_t2 hBx h2 ?_)
    have hu : v1.toInt = (v1.toInt.toNat : Int) := by omega
    have hw : v2.toInt = (v2.toInt.toNat : Int) := by omega
    have hun : v1.toInt.toNat < n := by omega
    have hwn : v2.toInt.toNat < n := by omega
    generalize v1.toInt.toNat = u at *
    generalize v2.toInt.toNat = v at *
    by_cases q0 : v3 = 0
    · refine T2_p1 q0 (T2_t2 hin (by rw [q0]; decide) (T2_b2 (runsAll_ok hv hT) (fun g hg => T2_p2 q0 ?_)))
      have hy := Rt_y hg
      have hk : kpr (N_mx (hB n fa fb m)) (wS n fa fb m u v) n = kpr (fun k => cnt (fun x => bnm n fa fb m x = k) n) (wS n fa fb m u v) n := by
        refine kpr_congr (fun b hb hS => ?_)
        obtain ⟨z, hz1, hz2⟩ := wS_ex hV hun hS
        rw [← hz2]
        exact blk_size hV hz1
      refine ansX hv hd (E := kv (kpr (N_mx (hB n fa fb m)) (wS n fa fb m u v) n)) ?_ ?_
      · refine Ok_then (traceX_ok hv hc hu hw hun hwn) (fun gt hgt => Ok_then (wouldBeOne_ok hv hgt hu hun) (fun a ha => ?_))
        have hn1 : SB_now (SB_set_now X gt.2) = gt.2 := rfl
        rw [hn1]
        exact Ok_then (keeper_ok hgt.2.1.2.2.2.2.1 (fun j hj => ha j (by omega))) (fun c hcc => Ok_some ⟨hcc, hgt.1⟩)
      · rw [hk]
        refine Ok_then (blocksIf_ok hv hy hu hw hun hwn) (fun a ha => Ok_then (nameIf_ok (kd := 0) hn hy.1 i32_0 (by omega) (ry_blk hy) (fun j hj => ha j (by omega))) (fun c hcc => Ok_some ⟨hcc, Rt_d hg⟩))
    · refine T2_n1 q0 ?_
      by_cases q1 : v3 = 1
      · refine T2_p1 q1 (T2_t2 hin (by rw [q1]; decide) (T2_b2 (runsAll_ok hv hT) (fun g hg => T2_n2 q0 ?_)))
        have hy := Rt_y hg
        have lu := (NI_L (n := n) (k := m) hV).1 u hun
        have lv := (NI_L (n := n) (k := m) hV).1 v hwn
        have lu1 : lnm n fa fb m u < n := lu.1
        have lv1 : lnm n fa fb m v < n := lv.1
        have hk : kpr (N_mx (hL n fa fb m)) (fun j => j == lnm n fa fb m u || j == lnm n fa fb m v) n = kpr (fun k => cnt (fun x => lnm n fa fb m x = k) n) (fun j => j == lnm n fa fb m u || j == lnm n fa fb m v) n := by
          refine kpr_congr (fun b hb hS => ?_)
          rw [Bool.or_eq_true, beq_iff_eq, beq_iff_eq] at hS
          rcases hS with e | e
          · rw [e]; exact land_size hV hun
          · rw [e]; exact land_size hV hwn
        have cu : (Nm_of (Wb_lands (SB_now X)) u).toInt = (lnm n fa fb m u : Int) := hc.1.1.2.2.2.2.2.1.2.2.1.2.1 u hun
        have cv : (Nm_of (Wb_lands (SB_now X)) v).toInt = (lnm n fa fb m v : Int) := hc.1.1.2.2.2.2.2.1.2.2.1.2.1 v hwn
        refine ansX hv hd (E := kv (kpr (N_mx (hL n fa fb m)) (fun j => j == lnm n fa fb m u || j == lnm n fa fb m v) n)) ?_ ?_
        · refine Ok_rdb hu (by omega) (Ok_then (bit_ok (by omega) (by omega)) (fun a ha => Ok_rdb hw (by omega) (Ok_then (bit_ok (by omega) (by omega)) (fun c hcc => Ok_then (keeper_ok (S := fun j => j == lnm n fa fb m u || j == lnm n fa fb m v) hc.1.1.2.2.2.2.2.1 (fun j hj => ?_)) (fun d hdd => Ok_some ⟨hdd, hc, rfl⟩)))))
          rw [bt64_or, ha j (by omega), hcc j (by omega)]
          have e1 : (Nm_of (Wb_lands (SB_now X)) u).toInt.toNat = lnm n fa fb m u := by omega
          have e2 : (Nm_of (Wb_lands (SB_now X)) v).toInt.toNat = lnm n fa fb m v := by omega
          rw [e1, e2]
          rfl
        · rw [hk]
          refine Ok_then (ry_la hy hn hu hun) (fun a ha => Ok_then (ry_la hy hn hw hwn) (fun c hcc => Ok_then (nameIf_ok (kd := 1) (S := fun j => j == lnm n fa fb m u || j == lnm n fa fb m v) hn hy.1 i32_1 (by omega) (ry_lnd hy) (fun j hj => ?_)) (fun d hdd => Ok_some ⟨hdd, Rt_d hg⟩)))
          rw [bt_two ha (by omega) hcc (by omega) (by omega), Bool.or_eq_true, beq_iff_eq, beq_iff_eq]
      · refine T2_n1 q1 (T2_f2 hin (fun z => ?_) (T2_some ⟨rfl, Inv_of hv hc hd hT⟩))
        have z0 : v3.toInt ≠ 0 := fun e => q0 (i32_ext (by rw [e]; rfl))
        have z1 : v3.toInt ≠ 1 := fun e => q1 (i32_ext (by rw [e]; rfl))
        omega
  · exact T2_f1 hA h2 (T2_f2 hBx h2 (T2_some ⟨rfl, Inv_of hv hc hd hT⟩))
end K9
