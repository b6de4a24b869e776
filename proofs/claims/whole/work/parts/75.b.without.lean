/-! CALLS 15: without -/
section K15
variable {fa fb : Nat → Nat} {n k m u v a b t l i j c : Nat} {K : Nat → Prop} {X Y : SBS} {M x y q : MdS} {lk nd : Int32}
theorem landsW_ok (hv : HV n m fa fb) (h : Rd n m fa fb M x) (hK : ∀ l, K l ↔ ¬ Out fa fb lk.toInt nd.toInt l) : Ok (Md_m_landsWithout x lk nd) (fun r => r.toInt = (cnt (liv (hL n (sfa fa K m) (sfa fb K m) (cnt K m))) n : Int)) := by
  have hn := hv.2.1
  have hV := hv.2.2.2.1
  rw [lands_first (Vd_sel hV)]
  have hR : ∀ u v, Rch (sfa fa K m) (sfa fb K m) (fun l => l < cnt K m) u v ↔ Rch fa fb (fun l => l < m ∧ ¬ Out fa fb lk.toInt nd.toInt l) u v := fun u v => (Rch_sel (K := K) (Z2 := fun l => l < cnt K m) (fun l hl => ⟨hl.1, (hK l).mpr hl.2⟩) (fun i hi => by
    have hs := sel_ok hi
    exact ⟨fun _ => ⟨hs.1, (hK _).mp hs.2.1⟩, fun _ => hi⟩) (fun i hi => hi)).symm
  have hc : cnt (fun v => ∀ u, u < v → ¬ Rch (sfa fa K m) (sfa fb K m) (fun l => l < cnt K m) u v) n = cnt (fun v => ∀ u, u < v → ¬ Rch fa fb (fun l => l < m ∧ ¬ Out fa fb lk.toInt nd.toInt l) u v) n := cnt_congr (fun v _ => ⟨fun z u hu q => z u hu ((hR u v).mpr q), fun z u hu q => z u hu ((hR u v).mp q)⟩)
  rw [hc]
  unfold Md_m_landsWithout
  have hxn := h.1.1
  have hxm := h.1.2.1
  refine Ok_for3 n (fun j s c => (∀ i, i < 32 → (bt s i = true ↔ ∃ u, u < j ∧ Rch fa fb (fun l => l < m ∧ ¬ Out fa fb lk.toInt nd.toInt l) u i)) ∧ c.toInt = (cnt (fun v => ∀ u, u < v → ¬ Rch fa fb (fun l => l < m ∧ ¬ Out fa fb lk.toInt nd.toInt l) u v) j : Int)) (by omega) i32_0 ⟨fun i _ => by rw [b_0]; exact ⟨fun z => absurd z Bool.false_ne_true, fun ⟨u, hu, _⟩ => absurd hu (Nat.not_lt_zero u)⟩, i32_0⟩ ?_ ?_
  · intro j s c i hj hi ⟨hs, hcc⟩
    dsimp only [Md_m_landsWithout_s8]
    have hcl := cnt_le (P := fun v => ∀ u, u < v → ¬ Rch fa fb (fun l => l < m ∧ ¬ Out fa fb lk.toInt nd.toInt l) u v) (n := j)
    refine Ok_ite (fun q => by rw [i32_le] at q; omega) (fun _ => Ok_eqb (has_ok hi (by omega)) (Ok_ite (fun q => Ok_some ⟨nx_s hi (by omega), fun i2 hi2 => ?_, ?_⟩) (fun q => Ok_then (reached_ok (x := x) hV hn hv.2.2.1 hj h.1.2.2.1 hi hxm) (fun g hg => Ok_some ⟨nx_s hi (by omega), fun i2 hi2 => ?_, ?_⟩))))
    · obtain ⟨u, hu, hru⟩ := (hs j (by omega)).mp q
      rw [hs i2 hi2]
      constructor
      · intro ⟨u2, hu2, z⟩; exact ⟨u2, by omega, z⟩
      · intro ⟨u2, hu2, z⟩
        by_cases e : u2 = j
        · rw [e] at z; exact ⟨u, hu, hru.trans z⟩
        · exact ⟨u2, by omega, z⟩
    · obtain ⟨u, hu, hru⟩ := (hs j (by omega)).mp q
      rw [cnt_f (fun z => z u hu hru)]
      exact hcc
    · show bt (s ||| g) i2 = true ↔ _
      rw [b_or, Bool.or_eq_true, hs i2 hi2, hg i2 hi2]
      constructor
      · intro z
        rcases z with ⟨u2, hu2, z⟩ | z
        · exact ⟨u2, by omega, z⟩
        · exact ⟨j, Nat.lt_succ_self j, z⟩
      · intro ⟨u2, hu2, z⟩
        by_cases e : u2 = j
        · rw [e] at z; exact Or.inr z
        · exact Or.inl ⟨u2, by omega, z⟩
    · rw [cnt_t (P := fun v => ∀ u, u < v → ¬ Rch fa fb (fun l => l < m ∧ ¬ Out fa fb lk.toInt nd.toInt l) u v) (fun u hu z => q ((hs j (by omega)).mpr ⟨u, hu, z⟩))]
      exact nx_s hcc (by omega)
  · intro s c i hi ⟨hs, hcc⟩
    dsimp only [Md_m_landsWithout_s8]
    exact Ok_ite (fun _ => Ok_omap (Ok_some hcc)) (fun q => by rw [i32_le] at q; omega)
theorem brgW_ok (hv : HV n m fa fb) (h : Rd n m fa fb M x) (hK : ∀ l, K l ↔ ¬ Out fa fb lk.toInt nd.toInt l) : Ok (Md_m_bridgesWithout x lk nd) (fun r => r.toInt = (cnt (brg (sfa fa K m) (sfa fb K m) (cnt K m)) (cnt K m) : Int)) := by
  have hn := hv.2.1
  have hV := hv.2.2.2.1
  have hm := hv.2.2.1
  have hc : cnt (brg (sfa fa K m) (sfa fb K m) (cnt K m)) (cnt K m) = cnt (fun l => K l ∧ ¬ Rch fa fb (fun l' => l' < m ∧ (l' ≠ l ∧ ¬ Out fa fb lk.toInt nd.toInt l')) (fa l) (fb l)) m := by
    rw [cnt_sel (Nat.le_refl m)]
    refine cnt_congr (fun i hi => ?_)
    rw [brg_rch hi]
    have hs := sel_ok hi
    have e := Rch_sel (fa := fa) (fb := fb) (u := fa (sel K m i)) (v := fb (sel K m i)) (K := K) (m := m) (Z := fun l' => l' < m ∧ (l' ≠ sel K m i ∧ ¬ Out fa fb lk.toInt nd.toInt l')) (Z2 := fun l => l < cnt K m ∧ l ≠ i) (fun l hl => ⟨hl.1, (hK l).mpr hl.2.2⟩) (fun i2 hi2 => by
      have hs2 := sel_ok hi2
      exact ⟨fun z => ⟨hs2.1, fun q => z.2 (by rw [← hs2.2.2, ← hs.2.2, q]), (hK _).mp hs2.2.1⟩, fun z => ⟨hi2, fun q => z.2.1 (by rw [q])⟩⟩) (fun i hi => hi.1)
    exact ⟨fun z q => z (e.mp q), fun z q => z (e.mpr q)⟩
  rw [hc]
  unfold Md_m_bridgesWithout
  have hxm := h.1.2.1
  refine Ok_cntw (N := m) (Q := fun l => K l ∧ ¬ Rch fa fb (fun l' => l' < m ∧ (l' ≠ l ∧ ¬ Out fa fb lk.toInt nd.toInt l')) (fa l) (fb l)) (by omega) hxm (fun c i => rfl) (fun j c i hj hi => ?_)
  have hf := h.1.2.2.1 j hj
  have hvj := hV j hj
  refine Ok_tf (isOut_ok (x := x) (wl := lk) (wn := nd) hi (by omega) hf) (fun q => Cs_f (fun z => (hK j).mp z.1 q)) (fun q => Ok_rdb hi (by omega) (Ok_then (reachedBut_ok (x := x) hV hn hm hvj.1 h.1.2.2.1 hf.1 hxm) (fun g hg => Ok_rdb hi (by omega) (Ok_eqb (has_ok hf.2 (by omega)) ?_))))
  have hg2 := hg (fb j) (by omega)
  rw [hi] at hg2
  have hR : Rch fa fb (fun l => l < m ∧ ((l : Int) ≠ (j : Int) ∧ ¬ Out fa fb lk.toInt nd.toInt l)) (fa j) (fb j) ↔ Rch fa fb (fun l' => l' < m ∧ (l' ≠ j ∧ ¬ Out fa fb lk.toInt nd.toInt l')) (fa j) (fb j) := ⟨fun z => z.mono (fun l hl => ⟨hl.1, fun q => hl.2.1 (by rw [q]), hl.2.2⟩), fun z => z.mono (fun l hl => ⟨hl.1, fun q => hl.2.1 (Int.natCast_inj.mp q), hl.2.2⟩)⟩
  exact Ok_ite (fun z => Cs_f (fun z2 => z2.2 (hR.mp (hg2.mp z)))) (fun z => Cs_t ⟨(hK j).mpr q, fun z2 => z (hg2.mpr (hR.mpr z2))⟩)
/-- what the reference answers -/
noncomputable def woE (n : Nat) (fa fb : Nat → Nat) (K : Nat → Prop) (m : Nat) (w : Int32) : Int :=
  if w = 0 then (cnt (liv (hL n (sfa fa K m) (sfa fb K m) (cnt K m))) n : Int) else if w = 1 then (cnt (liv (hB n (sfa fa K m) (sfa fb K m) (cnt K m))) n : Int) else if w = 2 then (cnt (brg (sfa fa K m) (sfa fb K m) (cnt K m)) (cnt K m) : Int) else (cnt (liv (hP (sfa fa K m) (sfa fb K m) (cnt K m))) (cnt K m) : Int)
theorem withoutR_ok (hv : HV n m fa fb) (h : Rd n m fa fb M x) (hK : ∀ l, K l ↔ ¬ Out fa fb lk.toInt nd.toInt l) {w : Int32} : Ok (Md_m_without_j75 x w lk nd) (fun q => q.1.toInt = woE n fa fb K m w ∧ Rd n m fa fb M q.2) := by
  have hn := hv.2.1
  have hV := hv.2.2.2.1
  have hm := hv.2.2.1
  have hM : cnt K m ≤ m := cnt_le
  have hbl := blocks_count (n := n) (Vd_sel (K := K) hV)
  have c1 : cnt (liv (hL n (sfa fa K m) (sfa fb K m) (cnt K m))) n ≤ n := cnt_le
  have c2 : cnt (brg (sfa fa K m) (sfa fb K m) (cnt K m)) (cnt K m) ≤ cnt K m := cnt_le
  unfold Md_m_without_j75 woE
  by_cases q0 : w = 0
  · rw [if_pos q0, if_pos q0]
    exact Ok_then (landsW_ok hv h hK) (fun g hg => Ok_some ⟨hg, h⟩)
  · rw [if_neg q0, if_neg q0]
    by_cases q2 : w = 2
    · rw [if_pos q2, if_neg (by rw [q2]; decide), if_pos q2]
      exact Ok_then (brgW_ok hv h hK) (fun g hg => Ok_some ⟨hg, h⟩)
    · rw [if_neg q2]
      by_cases q1 : w = 1
      · rw [if_pos q1, if_pos q1]
        refine Ok_then (landsW_ok hv h hK) (fun g hg => Ok_then (brgW_ok hv h hK) (fun g2 hg2 => Ok_some ⟨?_, h⟩))
        show (g + g2).toInt = _
        rw [i32_add (by omega) (by omega), hg, hg2, hbl]
        omega
      · rw [if_neg q1, if_neg q1, if_neg q2]
        refine Ok_then (laysParts_ok (lk := lk) (nd := nd) hV hn hm hv.2.2.2.2 h.1.2.2.1 h.1.1 h.1.2.1) (fun g hg => ?_)
        obtain ⟨f, P, w2, e, hPI, hS, hfP, hw⟩ := hg
        subst e
        refine Ok_some ⟨?_, Rd_Fz Fz_lay h⟩
        show w2.toInt = _
        rw [hw, parts_sel hV hm hv.2.2.2.2 hK hPI hS, parts_liv]
/-- the trial web -/
theorem withoutC_ok (hv : HV n m fa fb) (hc : CI n m fa fb X) {w2 w3 w4 : Int32} (h3 : 0 ≤ w3.toInt ∧ w3.toInt ≤ 3) (hK : ∀ l, l < m → (K l ↔ ((w4 = 0 → ¬ (((fa l : Nat) : Int) = w2.toInt ∨ ((fb l : Nat) : Int) = w2.toInt)) ∧ (w4 ≠ 0 → (l : Int) ≠ w2.toInt)))) (hw2 : 0 ≤ w2.toInt) : Ok (SB_m_without_j49 X w2 w3 w4) (fun r => r.1.toInt = woE n fa fb K m w3 ∧ Xd n m fa fb X r.2) := by
  have hn := hv.2.1
  have hV := hv.2.2.2.1
  have hm := hv.2.2.1
  have hW := hc.1.1
  have hlk := hW.1
  have hnn := hW.2.2.2.1.1
  have hM : cnt K m ≤ m := cnt_le
  have hw2n : w2.toInt = (w2.toInt.toNat : Int) := by omega
  unfold SB_m_without_j49
  refine Ok_ite (fun q => by rw [i32_lt, i32_0] at q; omega) (fun _ => Ok_ite (fun _ => ?_) (fun q => by rw [i32_le, i32_3] at q; omega))
  refine Ok_then (clearW_ok (n := n) (fa := sfa fa K m) (fb := sfa fb K m) hnn hn) (fun g hg => ?_)
  refine Ok_for m (fun j Y => (SB_now Y = SB_now X ∧ SB_forest Y = SB_forest X ∧ SB_book Y = SB_book X ∧ SB_drawn Y = SB_drawn X) ∧ WbOK n (cnt K j) (sfa fa K m) (sfa fb K m) (SB_trial Y)) (by omega) i32_0 ⟨⟨rfl, rfl, rfl, rfl⟩, hg.1⟩ ?_ ?_
  · intro j Y i hj hi ⟨⟨y1, y2, y3, y4⟩, hY⟩
    dsimp only [SB_m_without_s77]
    rw [y1]
    have hfj := hW.2.1 j hj
    have skip : ¬ K j → Ok (some (Sum.inl (Y, i + 1)) : Option ((SBS × Int32) ⊕ (Int32 × SBS))) (LR (fun p => p.2.toInt = ((j + 1 : Nat) : Int) ∧ (SB_now p.1 = SB_now X ∧ SB_forest p.1 = SB_forest X ∧ SB_book p.1 = SB_book X ∧ SB_drawn p.1 = SB_drawn X) ∧ WbOK n (cnt K (j + 1)) (sfa fa K m) (sfa fb K m) (SB_trial p.1)) (fun r : Int32 × SBS => r.1.toInt = woE n fa fb K m w3 ∧ Xd n m fa fb X r.2)) := by
      intro hk
      refine Ok_some ⟨nx_s hi (by omega), ⟨y1, y2, y3, y4⟩, ?_⟩
      rw [cnt_f hk]; exact hY
    have add : K j → Ok (SB_m_without_j116 Y w2 w3 w4 i) (LR (fun p => p.2.toInt = ((j + 1 : Nat) : Int) ∧ (SB_now p.1 = SB_now X ∧ SB_forest p.1 = SB_forest X ∧ SB_book p.1 = SB_book X ∧ SB_drawn p.1 = SB_drawn X) ∧ WbOK n (cnt K (j + 1)) (sfa fa K m) (sfa fb K m) (SB_trial p.1)) (fun r : Int32 × SBS => r.1.toInt = woE n fa fb K m w3 ∧ Xd n m fa fb X r.2)) := by
      intro hk
      have hcj := cnt_in hj hk
      have hs := sel_cnt hj hk
      unfold SB_m_without_j116
      rw [y1]
      refine Ok_rdb hi (by omega) (Ok_rdb hi (by omega) (Ok_then (add_ok (fa := sfa fa K m) (fb := sfa fb K m) (k := cnt K j) (Vd_le (Vd_sel hV) hcj) hn (by omega) hY ?_ ?_) (fun g2 hg2 => Ok_some ⟨nx_s hi (by omega), ⟨y1, y2, y3, y4⟩, ?_⟩)))
      · unfold sfa; rw [hs]; exact hfj.1
      · unfold sfa; rw [hs]; exact hfj.2
      · rw [cnt_t hk]; exact hg2.1
    refine Ok_ite (fun q => by rw [i32_le] at q; omega) (fun _ => ?_)
    by_cases q4 : w4 = 0
    · rw [if_pos q4]
      refine Ok_tf (isAtC_ok hW.2.1 hm hi hj hw2n) (fun q => skip (fun z => ?_)) (fun q => add ((hK j hj).mpr ⟨fun _ z => q ?_, fun z => absurd q4 z⟩))
      · refine ((hK j hj).mp z).1 q4 ?_
        rcases q with q | q
        · left; rw [q]; exact hw2n.symm
        · right; rw [q]; exact hw2n.symm
      · rcases z with z | z
        · left; omega
        · right; omega
    · rw [if_neg q4]
      exact Ok_ieq hi rfl (fun e => skip (fun z => ((hK j hj).mp z).2 q4 e)) (fun e => add ((hK j hj).mpr ⟨fun z => absurd z q4, fun _ => e⟩))
  · intro Y i hi ⟨⟨y1, y2, y3, y4⟩, hY⟩
    dsimp only [SB_m_without_s77]
    rw [y1]
    have hXd : Xd n m fa fb X Y := ⟨by unfold CI; rw [y1, y2, y3]; exact hc, y4⟩
    refine Ok_ite (fun _ => Ok_omap ?_) (fun q => by rw [i32_le] at q; omega)
    unfold woE
    by_cases q0 : w3 = 0
    · rw [if_pos q0, if_pos q0]
      exact Ok_some ⟨hY.2.2.2.2.2.1.2.2.1.2.2.2.2.2, hXd⟩
    · rw [if_neg q0, if_neg q0]
      by_cases q1 : w3 = 1
      · rw [if_pos q1, if_pos q1]
        exact Ok_some ⟨hY.2.2.2.2.1.2.2.1.2.2.2.2.2, hXd⟩
      · rw [if_neg q1, if_neg q1]
        by_cases q2 : w3 = 2
        · rw [if_pos q2, if_pos q2]
          exact Ok_then (bridgesAmongC_ok hY (by omega) hY.1 (Nat.le_refl _)) (fun g2 hg2 => Ok_some ⟨hg2, hXd⟩)
        · rw [if_neg q2, if_neg q2]
          exact Ok_some ⟨hY.2.2.2.2.2.2.2.2.1.2.2.2.2.2, hXd⟩
theorem pc_without : PC_without Inv := by
  intro X M ⟨n, m, fa, fb, hv, hc, hr, hd⟩ v1 v2 v3
  apply pcX
  have hT : Rd n m fa fb M (Md_set_told M 0) := Rd_told hr
  have hm := hv.2.2.1
  have hXX : Xd n m fa fb X X := ⟨hc, rfl⟩
  have hno : T2 (fun (r : Int32 × SBS) (q : Int32 × MdS) => q.1 = r.1 ∧ Inv r.2 q.2) (some (-1, X)) (some (-1, Md_set_told M 0)) := T2_some ⟨rfl, Inv_of hv hc hd hT⟩
  have hin1 := isInt_ok (x := Md_set_told M 0) (w := v1) i64_0 i64_1
  have hin3 := isInt_ok (x := Md_set_told M 0) (w := v3) i64_0 i64_3
  -- what is asked beyond its numbers
  have bad : ¬ (0 ≤ v3.toInt ∧ v3.toInt ≤ 3) → ∀ w4, SB_m_without_j49 X v2 v3 w4 = some (-1, X) := by
    intro h3 w4
    unfold SB_m_without_j49
    by_cases q : v3.toInt < 0
    · rw [if_pos (by rw [i32_lt, i32_0]; exact q)]
    · rw [if_neg (by rw [i32_lt, i32_0]; exact q), if_neg (by rw [i32_le, i32_3]; omega)]
  unfold SB_m_without Md_m_without
  by_cases k0 : v1 = 0
  · refine T2_p1 k0 (T2_t2 hin1 (by rw [k0]; decide) ?_)
    have hA := isLinkC_ok (w := v2) hc
    have hBx := isLinkR_ok (x := Md_set_told M 0) (w := v2) hr.2.1
    have k1 : v1 ≠ 1 := by rw [k0]; decide
    by_cases h1 : 0 ≤ v2.toInt ∧ v2.toInt < m
    · refine T2_t1 hA h1 ?_
      unfold SB_m_without_j17 SB_m_without_j37
      refine T2_n1 k1 (T2_n1 (by decide) ?_)
      by_cases h3 : 0 ≤ v3.toInt ∧ v3.toInt ≤ 3
      · refine T2_t2 hin3 h3 (T2_p2 k0 (T2_t2 hBx h1 ?_))
        unfold Md_m_without_j54 Md_m_without_j63
        refine T2_p2 k0 (T2_n2 k1 ?_)
        refine ansX hv hd (withoutC_ok (K := fun l => ¬ Out fa fb v2.toInt (-1 : Int32).toInt l) hv hc h3 (fun l hl => ?_) h1.1) (withoutR_ok (lk := v2) (nd := -1) hv hT (fun l => Iff.rfl))
        unfold Out
        rw [i32_m1]
        exact ⟨fun z => ⟨fun q => absurd q (by decide), fun _ q => z (Or.inl q)⟩, fun z q => by
          have := z.2 (by decide)
          omega⟩
      · rw [bad h3]
        exact T2_f2 hin3 h3 hno
    · refine T2_f1 hA h1 ?_
      unfold SB_m_without_j17 SB_m_without_j37
      refine T2_n1 k1 (T2_p1 rfl (T2_p1 rfl ?_))
      by_cases h3 : 0 ≤ v3.toInt ∧ v3.toInt ≤ 3
      · exact T2_t2 hin3 h3 (T2_p2 k0 (T2_f2 hBx h1 hno))
      · exact T2_f2 hin3 h3 hno
  · refine T2_n1 k0 ?_
    unfold SB_m_without_j17
    have hA := isNodeC_ok (w := v2) hc
    have hBx := isNodeR_ok (x := Md_set_told M 0) (w := v2) hr.1
    by_cases k1 : v1 = 1
    · refine T2_p1 k1 (T2_t2 hin1 (by rw [k1]; decide) ?_)
      by_cases h1 : 0 ≤ v2.toInt ∧ v2.toInt < n
      · refine T2_t1 hA h1 ?_
        unfold SB_m_without_j37
        refine T2_p1 rfl (T2_n1 (by decide) ?_)
        by_cases h3 : 0 ≤ v3.toInt ∧ v3.toInt ≤ 3
        · refine T2_t2 hin3 h3 (T2_n2 k0 (T2_t2 hBx h1 ?_))
          unfold Md_m_without_j54 Md_m_without_j63
          refine T2_n2 k0 (T2_p2 k1 ?_)
          refine ansX hv hd (withoutC_ok (K := fun l => ¬ Out fa fb (-1 : Int32).toInt v2.toInt l) hv hc h3 (fun l hl => ?_) h1.1) (withoutR_ok (lk := -1) (nd := v2) hv hT (fun l => Iff.rfl))
          unfold Out
          rw [i32_m1]
          exact ⟨fun z => ⟨fun _ q => z (Or.inr q), fun q => absurd rfl q⟩, fun z q => by
            have := z.1 rfl
            omega⟩
        · rw [bad h3]
          exact T2_f2 hin3 h3 hno
      · refine T2_f1 hA h1 ?_
        unfold SB_m_without_j37
        refine T2_p1 rfl (T2_p1 rfl ?_)
        by_cases h3 : 0 ≤ v3.toInt ∧ v3.toInt ≤ 3
        · exact T2_t2 hin3 h3 (T2_n2 k0 (T2_f2 hBx h1 hno))
        · exact T2_f2 hin3 h3 hno
    · refine T2_n1 k1 ?_
      unfold SB_m_without_j37
      refine T2_p1 rfl (T2_p1 rfl (T2_f2 hin1 (fun z => ?_) hno))
      have z0 : v1.toInt ≠ 0 := fun e => k0 (i32_ext (by rw [e]; rfl))
      have z1 : v1.toInt ≠ 1 := fun e => k1 (i32_ext (by rw [e]; rfl))
      omega
theorem pc_all : PC_all Inv := ⟨pc_init, pc_nodes, pc_link, pc_undo, pc_rain, pc_state, pc_linkOf, pc_bridge, pc_node, pc_block, pc_member, pc_child, pc_land, pc_story, pc_latest, pc_doubleSafe, pc_way, pc_since, pc_would, pc_best, pc_worst, pc_part, pc_centre, pc_between, pc_mending, pc_without, pc_ring, pc_wouldName, pc_bridgesBy, pc_look⟩
end K15
