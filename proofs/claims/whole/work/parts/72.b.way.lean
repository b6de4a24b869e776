/-! CALLS 7: way, between -/
section H3
/-- loops with an offset -/
theorem Ok_forO {σ ρ : Type} {step : σ × Int32 → Option ((σ × Int32) ⊕ ρ)} {P : ρ → Prop} (o N : Nat) (I : Nat → σ → Prop) {s0 : σ} {i0 : Int32} (hN : N < 90000) (hi : i0.toInt = (o : Int)) (h0 : I 0 s0)
    (hs : ∀ (k : Nat) (s : σ) (i : Int32), k < N → i.toInt = ((o + k : Nat) : Int) → I k s → Ok (step (s, i)) (LR (fun p => p.2.toInt = ((o + k + 1 : Nat) : Int) ∧ I (k + 1) p.1) P))
    (hx : ∀ (s : σ) (i : Int32), i.toInt = ((o + N : Nat) : Int) → I N s → Ok (step (s, i)) (LR (fun _ => False) P)) : Ok (iter step FU (s0, i0)) P := by
  refine Ok_upto (fun (k : Nat) (p : σ × Int32) => p.2.toInt = ((o + k : Nat) : Int) ∧ I k p.1) (e := N) hN ⟨hi, h0⟩ ?_ ?_
  · intro k p hk hp
    exact hs k p.1 p.2 hk hp.1 hp.2
  · intro p hp
    exact hx p.1 p.2 hp.1 hp.2
theorem Ok_pickCO {ρ : Type} {step : Int32 × Int32 → Option ((Int32 × Int32) ⊕ ρ)} {R : Int → ρ → Prop} (o N : Nat) (Q : Nat → Prop) (g : Nat → Nat) (v : Int32) {i0 : Int32} (hN : N < 1000) (ho : o < 1000) (hi : i0.toInt = (o : Int))
    (hs : ∀ (k : Nat) (c i : Int32), k < N → i.toInt = ((o + k : Nat) : Int) → Ok (step (c, i)) (Pk (Q k) c i v (R (g k))))
    (hx : ∀ (c i : Int32), i.toInt = ((o + N : Nat) : Int) → c.toInt = (cnt Q N : Int) → Ok (step (c, i)) (LR (fun _ => False) (R (if v.toInt = -1 then (cnt Q N : Int) else -1)))) : Ok (iter step FU (0, i0)) (R (pickC (fl Q g N) v.toInt)) := by
  have mono : ∀ m, fl Q g N = fl Q g m ++ (fl Q g N).drop (fl Q g m).length ∨ N < m := fun m => fl_mono
  refine Ok_forO o N (fun k c => c.toInt = (cnt Q k : Int) ∧ (v.toInt < 0 ∨ (cnt Q k : Int) ≤ v.toInt)) (by omega) hi ⟨i32_0, ?_⟩ ?_ ?_
  · show v.toInt < 0 ∨ ((0 : Nat) : Int) ≤ v.toInt
    omega
  · intro k c i hk hi ⟨hc, hv⟩
    refine Ok_mono (hs k c i hk hi) ?_
    intro r hr
    have hle := cnt_le (P := Q) (n := k)
    rcases hr with ⟨hq, hne, rfl⟩ | ⟨hq, rfl⟩ | ⟨hq, he, y, rfl, hy⟩
    · refine ⟨nx_s hi (by omega), ?_, ?_⟩
      · rw [cnt_t hq]; exact nx_s hc (by omega)
      · rw [cnt_t hq]
        have : c.toInt ≠ v.toInt := fun z => hne (i32_ext z)
        omega
    · refine ⟨nx_s hi (by omega), ?_⟩
      rw [cnt_f hq]
      exact ⟨hc, hv⟩
    · show R (pickC (fl Q g N) v.toInt) y
      have hvk : v.toInt = (cnt Q k : Int) := by rw [← he]; exact hc
      have e : pickC (fl Q g N) v.toInt = (g k : Int) := by
        unfold pickC pick
        rw [if_neg (by omega), if_neg (by omega)]
        have : (fl Q g N)[v.toInt.toNat]? = some (g k) := by
          rcases mono (k + 1) with h | h
          · have h2 : v.toInt.toNat = (fl Q g k).length := by rw [fl_len]; omega
            rw [h, fl_t hq, h2, List.append_assoc, List.getElem?_append_right (Nat.le_refl _), Nat.sub_self]
            rfl
          · omega
        rw [this]
      rw [e]
      exact hy
  · intro c i hi ⟨hc, hv⟩
    have e : pickC (fl Q g N) v.toInt = if v.toInt = -1 then (cnt Q N : Int) else -1 := by
      unfold pickC pick
      by_cases d : v.toInt = -1
      · rw [if_pos d, if_pos d, fl_len]
      · rw [if_neg d, if_neg d]
        by_cases d2 : v.toInt < 0
        · rw [if_pos d2]
        · rw [if_neg d2]
          have : (fl Q g N)[v.toInt.toNat]? = none := by
            rw [List.getElem?_eq_none_iff, fl_len]; omega
          rw [this]
    rw [e]
    exact hx c i hi hc
end H3
section K7
variable {fa fb ga gb : Nat → Nat} {n k m r u v b t l : Nat} {X Y : SBS} {M x y q : MdS} {P : List (Nat × Nat)}
/-- a trace, in the whole -/
def TrX (n m : Nat) (fa fb : Nat → Nat) (u v : Nat) (X : SBS) (r : Int32 × WbS) : Prop := Xd n m fa fb X (SB_set_now X r.2) ∧ WbOK n m fa fb r.2 ∧ ((¬ ld fa fb m u = ld fa fb m v ∧ r.1 = -1) ∨ (ld fa fb m u = ld fa fb m v ∧ r.1.toInt = ((pa fa fb m u v).length : Int) ∧ (pa fa fb m u v).length < n ∧ WayOK u (pa fa fb m u v) r.2))
theorem traceX_ok (hv : HV n m fa fb) (hc : CI n m fa fb X) {w1 w2 : Int32} (h1 : w1.toInt = (u : Int)) (h2 : w2.toInt = (v : Int)) (hu : u < n) (hw : v < n) : Ok (Wb_m_trace (SB_now X) w1 w2) (TrX n m fa fb u v X) := by
  have hV := hv.2.2.2.1
  refine Ok_mono (trace_ok hV hv.2.1 hc.1.1.2.2.2.1 hc.1.1.2.2.2.2.2.1 hu hw h1 h2) (fun r hr => ?_)
  rcases hr with ⟨e1, e2⟩ | ⟨e1, e2, wn, wl, e3, e4⟩
  · rw [e2]
    exact ⟨⟨hc, rfl⟩, hc.1.1, Or.inl ⟨e1, rfl⟩⟩
  · have hW : WbL n m fa fb r.2 := by
      rw [e3]
      have h1 : ∀ y : WbS, WbL n m fa fb y → WbL n m fa fb (Wb_set_wayLink y wl) := fun y h => h
      have h2 : ∀ y : WbS, WbL n m fa fb y → WbL n m fa fb (Wb_set_wayNode y wn) := fun y h => h
      exact h2 _ (h1 _ hc.1)
    exact ⟨⟨⟨hW, hc.2⟩, rfl⟩, hW.1, Or.inr ⟨e1, e2, pa_len hV hu e1, e4⟩⟩
theorem ZW_m1 {l : Nat} : ZW m (-1 : Int32).toInt l ↔ l < m := by
  unfold ZW
  rw [i32_m1]
  omega
theorem Rch_ld : Rch fa fb (ZW m (-1 : Int32).toInt) u v ↔ ld fa fb m u = ld fa fb m v := by
  rw [ld_iff]
  exact ⟨fun z => z.mono (fun l hl => ZW_m1.mp hl), fun z => z.mono (fun l hl => ZW_m1.mpr hl)⟩
theorem Wy_link (h : Wy u P y) {j t : Nat} (hj : (lks P)[j]? = some t) : (Md_wayLink y j).toInt = (t : Int) := by
  unfold lks at hj
  rw [List.getElem?_map] at hj
  cases e : P[j]? with
  | none => rw [e] at hj; simp at hj
  | some s =>
    rw [e] at hj
    have : s.1 = t := by simpa using hj
    rw [← this]
    exact (h.2.2 j s e).1
theorem xnow {w : WbS} : SB_now (SB_set_now X w) = w := rfl
theorem pc_way : PC_way Inv := by
  intro X M ⟨n, m, fa, fb, hv, hc, hr, hd⟩ v1 v2 v3
  apply pcX
  have hT : Rd n m fa fb M (Md_set_told M 0) := Rd_told hr
  have hn := hv.2.1
  have hm := hv.2.2.1
  have hV := hv.2.2.2.1
  have hA := fun w => isNodeC_ok (w := w) hc
  have hBx := fun w => isNodeR_ok (x := Md_set_told M 0) (w := w) hr.1
  have hno : T2 (fun (r : Int32 × SBS) (q : Int32 × MdS) => q.1 = r.1 ∧ Inv r.2 q.2) (some (-1, X)) (some (-1, Md_set_told M 0)) := T2_some ⟨rfl, Inv_of hv hc hd hT⟩
  unfold SB_m_way Md_m_way
  by_cases h1 : 0 ≤ v1.toInt ∧ v1.toInt < n
  · refine T2_t1 (hA v1) h1 (T2_t2 (hBx v1) h1 ?_)
    by_cases h2 : 0 ≤ v2.toInt ∧ v2.toInt < n
    · refine T2_t1 (hA v2) h2 (T2_t2 (hBx v2) h2 (T2_b2 (runsAll_ok hv hT) (fun g hg => ?_)))
      have hu : v1.toInt = (v1.toInt.toNat : Int) := by omega
      have hw : v2.toInt = (v2.toInt.toNat : Int) := by omega
      have hun : v1.toInt.toNat < n := by omega
      have hwn : v2.toInt.toNat < n := by omega
      generalize v1.toInt.toNat = u at *
      generalize v2.toInt.toNat = v at *
      have hy := Rt_y hg
      refine T2_b1 (traceX_ok hv hc hu hw hun hwn) (fun gt hgt => T2_b2 (laysWay_ok hV hn hm hy.2.1 hy.2.2.1 hu hw hun hwn) (fun gl hgl => ?_))
      obtain ⟨hXd, hW, hgt⟩ := hgt
      have hrd : Rd n m fa fb M gl.2 := Rt_d (Rt_Fz hgl.1 hg)
      have hyl : RY n m fa fb gl.2 := Rt_y (Rt_Fz hgl.1 hg)
      rcases hgt with ⟨hld, e⟩ | ⟨hld, e, hlen, hway⟩
      · refine T2_p1 e ?_
        rcases hgl.2 with ⟨e2, _⟩ | ⟨_, P, hP, _⟩
        · exact T2_n2 (by rw [e2]; decide) (T2_some ⟨rfl, Inv_ofX hv hXd hd hrd⟩)
        · exact absurd (Rch_ld.mp ⟨_, dwn_W hP⟩) hld
      · refine T2_n1 (fun z => by rw [z, i32_m1] at e; omega) ?_
        rcases hgl.2 with ⟨_, e2⟩ | ⟨e2, P, hP, hWy⟩
        · exact absurd (Rch_ld.mpr hld) e2
        · refine T2_p2 e2 ?_
          have hPW : isW fa fb (fun l => l < m) u P v := (dwn_W hP).mono (fun l _ hz => ZW_m1.mp hz)
          have hPl := dwn_len hP
          have hPd := dsn_reach hn (Rch_ld.mpr hld) (fun l hl => hV l (ZW_m1.mp hl)) hun
          have hE1 := brs_pa hld
          have hE2 := brs_way hPW (dwn_links hP)
          refine ansX hv hd (E := pickC (lks (fw fa fb (qb fa fb m) m u v)) v3.toInt) ?_ ?_
          · have hfl := fl_pf (P := fun j => brg fa fb m (Wb_wayLink gt.2 j).toInt.toNat) (S := brg fa fb m) (g := fun j => (Wb_wayLink gt.2 j).toInt.toNat) (M := lks (pa fa fb m u v)) (fun j t hj => by
              have := way_link hway hj
              have e : (Wb_wayLink gt.2 j).toInt.toNat = t := by omega
              rw [e]; exact ⟨Iff.rfl, rfl⟩)
            rw [← hE1, ← hfl, lks_len]
            refine Ok_pickCw (N := (pa fa fb m u v).length) (Q := fun j => brg fa fb m (Wb_wayLink gt.2 j).toInt.toNat) (g := fun j => (Wb_wayLink gt.2 j).toInt.toNat) (R := fun (z : Int) (r : Int32 × SBS) => r.1.toInt = z ∧ Xd n m fa fb X r.2) (fin := fun c => if v3 = (-1) then some (c, SB_set_now X gt.2) else some (-1, SB_set_now X gt.2)) (by omega) e (fun c i => rfl) (fun j c i hj hi => ?_) (fun c hcn => ?_)
            · obtain ⟨t, ht⟩ := getE (P := lks (pa fa fb m u v)) (i := j) (by rw [lks_len]; exact hj)
              have hwl := way_link hway ht
              have e : (Wb_wayLink gt.2 j).toInt.toNat = t := by omega
              have htm := lks_lt (pa_W hld) (fun l hl => hl.1) t (List.mem_of_getElem? ht)
              have hn1 : SB_now (SB_set_now X gt.2) = gt.2 := rfl
              refine Ok_rdb hi (by omega) ?_
              rw [hn1, e]
              refine Ok_tf (isBrC_ok hW.2.2.1 hm hwl htm) (fun q => ?_) (fun q => Pk_f q)
              exact Pk_step q (Ok_rdb hi (by omega) (Ok_some ⟨hwl, hXd⟩))
            · exact Ok_ieq rfl i32_m1 (fun e => Ok_some ⟨by rw [if_pos e]; exact hcn, hXd⟩) (fun e => Ok_some ⟨by rw [if_neg e]; exact i32_m1, hXd⟩)
          · have hfl := fl_pf (P := fun j => brg fa fb m (Md_wayLink gl.2 j).toInt.toNat) (S := brg fa fb m) (g := fun j => (Md_wayLink gl.2 j).toInt.toNat) (M := lks P) (fun j t hj => by
              have := Wy_link hWy hj
              have e : (Md_wayLink gl.2 j).toInt.toNat = t := by omega
              rw [e]; exact ⟨Iff.rfl, rfl⟩)
            rw [← hE2, ← hfl, lks_len]
            refine Ok_pickCw (N := P.length) (Q := fun j => brg fa fb m (Md_wayLink gl.2 j).toInt.toNat) (g := fun j => (Md_wayLink gl.2 j).toInt.toNat) (R := fun (z : Int) (r : Int32 × MdS) => r.1.toInt = z ∧ Rd n m fa fb M r.2) (fin := fun c => if v3 = (-1) then some (c, gl.2) else some (-1, gl.2)) (by omega) hWy.1 (fun c i => rfl) (fun j c i hj hi => ?_) (fun c hcn => ?_)
            · obtain ⟨t, ht⟩ := getE (P := lks P) (i := j) (by rw [lks_len]; exact hj)
              have hwl := Wy_link hWy ht
              have e : (Md_wayLink gl.2 j).toInt.toNat = t := by omega
              have htm := lks_lt hPW (fun l hl => hl) t (List.mem_of_getElem? ht)
              refine Ok_rdb hi (by omega) ?_
              rw [e]
              refine Ok_tf (ry_br hyl hm hwl htm) (fun q => ?_) (fun q => Pk_f q)
              exact Pk_step q (Ok_rdb hi (by omega) (Ok_some ⟨hwl, hrd⟩))
            · exact Ok_ieq rfl i32_m1 (fun e => Ok_some ⟨by rw [if_pos e]; exact hcn, hrd⟩) (fun e => Ok_some ⟨by rw [if_neg e]; exact i32_m1, hrd⟩)
    · exact T2_f1 (hA v2) h2 (T2_f2 (hBx v2) h2 hno)
  · exact T2_f1 (hA v1) h1 (T2_f2 (hBx v1) h1 hno)
theorem pc_between : PC_between Inv := by
  intro X M ⟨n, m, fa, fb, hv, hc, hr, hd⟩ v1 v2 v3
  apply pcX
  have hT : Rd n m fa fb M (Md_set_told M 0) := Rd_told hr
  have hn := hv.2.1
  have hm := hv.2.2.1
  have hV := hv.2.2.2.1
  have hA := areTwoC_ok (w1 := v1) (w2 := v2) hc
  have hBx := areTwoR_ok (x := Md_set_told M 0) (w1 := v1) (w2 := v2) hr.1
  unfold SB_m_between Md_m_between
  by_cases h2 : (0 ≤ v1.toInt ∧ v1.toInt < n) ∧ (0 ≤ v2.toInt ∧ v2.toInt < n) ∧ v1.toInt ≠ v2.toInt
  · refine T2_t1 hA h2 (T2_t2 hBx h2 ?_)
    have hu : v1.toInt = (v1.toInt.toNat : Int) := by omega
    have hw : v2.toInt = (v2.toInt.toNat : Int) := by omega
    have hun : v1.toInt.toNat < n := by omega
    have hwn : v2.toInt.toNat < n := by omega
    have huv : v1.toInt.toNat ≠ v2.toInt.toNat := by omega
    generalize v1.toInt.toNat = u at *
    generalize v2.toInt.toNat = v at *
    refine T2_b1 (traceX_ok hv hc hu hw hun hwn) (fun gt hgt => T2_b2 (laysWay_ok (x := Md_set_told M 0) hV hn hm hT.1.2.1 hT.1.2.2.1 hu hw hun hwn) (fun gl hgl => ?_))
    obtain ⟨hXd, hW, hgt⟩ := hgt
    have hrd : Rd n m fa fb M gl.2 := Rd_Fz hgl.1 hT
    rcases hgt with ⟨hld, e⟩ | ⟨hld, e, hlen, hway⟩
    · refine T2_p1 e ?_
      rcases hgl.2 with ⟨e2, _⟩ | ⟨_, P, hP, _⟩
      · exact T2_n2 (by rw [e2]; decide) (T2_some ⟨rfl, Inv_ofX hv hXd hd hrd⟩)
      · exact absurd (Rch_ld.mp ⟨_, dwn_W hP⟩) hld
    · refine T2_n1 (fun z => by rw [z, i32_m1] at e; omega) ?_
      rcases hgl.2 with ⟨_, e2⟩ | ⟨e2, P, hP, hWy⟩
      · exact absurd (Rch_ld.mpr hld) e2
      · refine T2_p2 e2 ?_
        have hPW : isW fa fb (fun l => l < m) u P v := (dwn_W hP).mono (fun l _ hz => ZW_m1.mp hz)
        have hQW : isW fa fb (fun l => l < m) u (pa fa fb m u v) v := (pa_W hld).mono (fun l _ hz => hz.1)
        have hPl := dwn_len hP
        have hPd := dsn_reach hn (Rch_ld.mpr hld) (fun l hl => hV l (ZW_m1.mp hl)) hun
        have hPne : P ≠ [] := fun z => by rw [z] at hPW; exact huv hPW
        have hQne : pa fa fb m u v ≠ [] := pa_ne hld huv
        have hPnd := dwn_nodes hP
        have hQnd := pa_nds hV hun hld
        have hPln : 0 < P.length := List.length_pos_iff.mpr hPne
        have hQln : 0 < (pa fa fb m u v).length := List.length_pos_iff.mpr hQne
        have hse := seps_eq hQW hPW hQnd hPnd
        rw [pf_inn hQW hQne, pf_inn hPW hPne] at hse
        refine ansX hv hd (E := pickC (pf (sep fa fb m u v) (inn (pa fa fb m u v))) v3.toInt) ?_ ?_
        · have hfl := fl_pf (P := fun j => sep fa fb m u v (Wb_wayNode gt.2 (j + 1)).toInt.toNat) (S := sep fa fb m u v) (g := fun j => (Wb_wayNode gt.2 (j + 1)).toInt.toNat) (M := inn (pa fa fb m u v)) (fun j t hj => by
            have hj2 : j < (inn (pa fa fb m u v)).length := (List.getElem?_eq_some_iff.mp hj).1
            rw [inn_len] at hj2
            obtain ⟨s, hs⟩ := getE (P := pa fa fb m u v) (i := j) (by omega)
            have h3 := inn_get hs (by omega)
            rw [h3] at hj
            have h4 := (hway.2 j s hs).2
            have h5 : s.2 = t := Option.some.inj hj
            have e : (Wb_wayNode gt.2 (j + 1)).toInt.toNat = t := by omega
            rw [e]; exact ⟨Iff.rfl, rfl⟩)
          rw [← hfl, inn_len]
          refine Ok_pickCO (R := fun (z : Int) (r : Int32 × SBS) => r.1.toInt = z ∧ Xd n m fa fb X r.2) 1 ((pa fa fb m u v).length - 1) (fun j => sep fa fb m u v (Wb_wayNode gt.2 (j + 1)).toInt.toNat) (fun j => (Wb_wayNode gt.2 (j + 1)).toInt.toNat) v3 (by omega) (by omega) i32_1 ?_ ?_
          · intro j c i hj hi
            dsimp only [SB_m_between_s36]
            have hn1 : SB_now (SB_set_now X gt.2) = gt.2 := rfl
            rw [hn1]
            refine Ok_ite (fun q => by rw [i32_le] at q; omega) (fun _ => ?_)
            obtain ⟨s1, hs1⟩ := getE (P := pa fa fb m u v) (i := j) (by omega)
            obtain ⟨s2, hs2⟩ := getE (P := pa fa fb m u v) (i := j + 1) (by omega)
            have hw1 := hway.2 j s1 hs1
            have hw2 := hway.2 (j + 1) s2 hs2
            have e : (Wb_wayNode gt.2 (j + 1)).toInt.toNat = s1.2 := by omega
            have hm1 := lks_lt hQW (fun l hl => hl) s1.1 (List.mem_map.mpr ⟨s1, List.mem_of_getElem? hs1, rfl⟩)
            have hm2 := lks_lt hQW (fun l hl => hl) s2.1 (List.mem_map.mpr ⟨s2, List.mem_of_getElem? hs2, rfl⟩)
            have hsp : pe fa fb m s1.1 ≠ pe fa fb m s2.1 ↔ sep fa fb m u v s1.2 := by
              have e3 : pa fa fb m u v = (pa fa fb m u v).take j ++ (s1.1, s1.2) :: (s2.1, s2.2) :: (pa fa fb m u v).drop (j + 2) := by
                have q1 := List.drop_eq_getElem_cons (l := pa fa fb m u v) (i := j) (by omega)
                have q2 := List.drop_eq_getElem_cons (l := pa fa fb m u v) (i := j + 1) (by omega)
                have g1 : (pa fa fb m u v)[j]'(by omega) = s1 := (List.getElem?_eq_some_iff.mp hs1).2
                have g2 : (pa fa fb m u v)[j + 1]'(by omega) = s2 := (List.getElem?_eq_some_iff.mp hs2).2
                rw [g1] at q1
                rw [g2] at q2
                have q3 := List.take_append_drop j (pa fa fb m u v)
                rw [q1, q2] at q3
                exact q3.symm
              exact sep_part hld hv.2.2.2.2 e3
            have hlp : Ok (Wb_m_leavesPart gt.2 i) (fun r => r = true ↔ sep fa fb m u v s1.2) := by
              unfold Wb_m_leavesPart
              refine Ok_ite (fun q => by rw [i32_le, i32_0] at q; omega) (fun _ => ?_)
              have hi1 : (i - 1).toInt = (j : Int) := nx_d (k := j) (by rw [hi]; omega) (by omega)
              have hi2 : i.toInt = ((j + 1 : Nat) : Int) := by rw [hi]; omega
              have p1 := hW.2.2.2.2.2.2.2.2.1.2.1 s1.1 hm1
              have p2 := hW.2.2.2.2.2.2.2.2.1.2.1 s2.1 hm2
              refine Ok_rdb hi1 (by omega) (Ok_rdb hw1.1 (by omega) (Ok_rdb hi2 (by omega) (Ok_rdb hw2.1 (by omega) (Ok_ieq p1 p2 (fun q => ?_) (fun q => ?_)))))
              · exact Ok_some ⟨fun z => absurd z Bool.false_ne_true, fun z => absurd ((prt_same hm1 hm2).mp (Int.natCast_inj.mp q)) (hsp.mpr z)⟩
              · exact Ok_some ⟨fun _ => hsp.mp (fun z => q (by rw [(prt_same hm1 hm2).mpr z])), fun _ => rfl⟩
            rw [e]
            refine Ok_tf hlp (fun q => ?_) (fun q => Pk_f q)
            exact Pk_step q (Ok_rdb (k := j + 1) (by rw [hi]; omega) (by omega) (Ok_some ⟨hw1.2, hXd⟩))
          · intro c i hi hcn
            dsimp only [SB_m_between_s36]
            refine Ok_ite (fun _ => Ok_omap (Ok_ieq rfl i32_m1 (fun e => Ok_some ⟨by rw [if_pos e]; exact hcn, hXd⟩) (fun e => Ok_some ⟨by rw [if_neg e]; exact i32_m1, hXd⟩))) (fun q => by rw [i32_le] at q; omega)
        · rw [hse]
          have hfl := fl_pf (P := fun j => sep fa fb m u v (Md_wayNode gl.2 (j + 1)).toInt.toNat) (S := sep fa fb m u v) (g := fun j => (Md_wayNode gl.2 (j + 1)).toInt.toNat) (M := inn P) (fun j t hj => by
            have hj2 : j < (inn P).length := (List.getElem?_eq_some_iff.mp hj).1
            rw [inn_len] at hj2
            obtain ⟨s, hs⟩ := getE (P := P) (i := j) (by omega)
            have h3 := inn_get hs (by omega)
            rw [h3] at hj
            have h4 := (hWy.2.2 j s hs).2
            have h5 : s.2 = t := Option.some.inj hj
            have e : (Md_wayNode gl.2 (j + 1)).toInt.toNat = t := by omega
            rw [e]; exact ⟨Iff.rfl, rfl⟩)
          rw [← hfl, inn_len]
          refine Ok_pickCO (R := fun (z : Int) (r : Int32 × MdS) => r.1.toInt = z ∧ Rd n m fa fb M r.2) 1 (P.length - 1) (fun j => sep fa fb m u v (Md_wayNode gl.2 (j + 1)).toInt.toNat) (fun j => (Md_wayNode gl.2 (j + 1)).toInt.toNat) v3 (by omega) (by omega) i32_1 ?_ ?_
          · intro j c i hj hi
            dsimp only [Md_m_between_s32]
            have hlg := hWy.1
            refine Ok_ite (fun q => by rw [i32_le] at q; omega) (fun _ => ?_)
            obtain ⟨s1, hs1⟩ := getE (P := P) (i := j) (by omega)
            have hw1 := hWy.2.2 j s1 hs1
            have e : (Md_wayNode gl.2 (j + 1)).toInt.toNat = s1.2 := by omega
            have hi2 : i.toInt = ((j + 1 : Nat) : Int) := by rw [hi]; omega
            have hin := List.mem_of_getElem? (inn_get hs1 (show j + 1 < P.length by omega))
            -- it is neither end
            rw [nds_inn hPW hPne] at hPnd
            have hnu : s1.2 ≠ u := fun z => by
              rw [z] at hin
              exact (List.nodup_cons.mp hPnd).1 (List.mem_append_left _ hin)
            have hnv : s1.2 ≠ v := fun z => by
              rw [z] at hin
              exact (List.nodup_append.mp (List.nodup_cons.mp hPnd).2).2.2 v hin v (List.mem_singleton.mpr rfl) rfl
            refine Ok_rdb hi2 (by omega) (Ok_then (reached_ok (x := gl.2) (wl := -1) hV hn hm hun hrd.1.2.2.1 hu hrd.1.2.1) (fun g2 hg2 => Ok_eqb (has_ok hw (by omega)) ?_))
            have hR : bt g2 v = true ↔ Rch fa fb (AV fa fb m s1.2) u v := by
              rw [hg2 v (by omega), hw1.2]
              unfold Out
              rw [i32_m1]
              exact ⟨fun z => z.mono (fun l hl => ⟨hl.1, by have := hl.2; omega, by have := hl.2; omega⟩), fun z => z.mono (fun l hl => ⟨hl.1, by have := hl.2; omega⟩)⟩
            rw [e]
            refine Ok_ite (fun q => Pk_f (fun z => z.2.2 (hR.mp q))) (fun q => ?_)
            exact Pk_step ⟨hnu, hnv, fun z => q (hR.mpr z)⟩ (Ok_rdb hi2 (by omega) (Ok_some ⟨hw1.2, hrd⟩))
          · intro c i hi hcn
            dsimp only [Md_m_between_s32]
            have hlg := hWy.1
            refine Ok_ite (fun _ => Ok_omap (Ok_ieq rfl i32_m1 (fun e => Ok_some ⟨by rw [if_pos e]; exact hcn, hrd⟩) (fun e => Ok_some ⟨by rw [if_neg e]; exact i32_m1, hrd⟩))) (fun q => by rw [i32_le] at q; omega)
  · exact T2_f1 hA h2 (T2_f2 hBx h2 (T2_some ⟨rfl, Inv_of hv hc hd hT⟩))
end K7
