/-! CALLS 2: a new object, nodes, link, undo, state -/
section K2
variable {fa fb ga gb : Nat → Nat} {n k m r u v b : Nat} {X Y : SBS} {M x y q : MdS}
theorem WbL_0 (h : WbOK n 0 fa fb (SB_now X)) : WbL n 0 fa fb (SB_now X) := ⟨h, fun k e => by omega⟩
theorem HV_0 (h2 : 2 ≤ n) (hn : n ≤ 32) : HV n 0 fa fb := ⟨h2, hn, by omega, fun l hl => absurd hl (Nat.not_lt_zero l), fun l hl => absurd hl (Nat.not_lt_zero l)⟩
theorem pc_init : PC_init Inv := by
  have h : Ok SB_m_init (fun Y => CI 8 0 (fun _ => 0) (fun _ => 0) Y ∧ SB_drawn Y = 0) := by
    unfold SB_m_init
    refine Ok_then (clearW_ok (n := 8) (fa := fun _ => 0) (fb := fun _ => 0) (by decide) (by omega)) (fun g hg => ?_)
    have e : SB_now (SB_set_now SB_0 g) = g := rfl
    refine Ok_then (readAgain_ok (n := 8) (m := 0) (fa := fun _ => 0) (fb := fun _ => 0) (HV_0 (by omega) (by omega)) (WbL_0 (by rw [e]; exact hg.1))) (fun g2 hg2 => Ok_some ⟨hg2.1, hg2.2.1⟩)
  obtain ⟨Y, e, h1, h2⟩ := h
  refine ⟨Y, e, 8, 0, fun _ => 0, fun _ => 0, HV_0 (by omega) (by omega), h1, ⟨by decide, by decide, fun l hl => absurd hl (Nat.not_lt_zero l), Or.inl (by decide), Or.inl (by decide)⟩, h2⟩
theorem pc_state : PC_state Inv := by
  intro X M ⟨n, m, fa, fb, hv, hc, hr, hd⟩ v1
  have h1 : ∀ w, RI n m fa fb (Md_set_told M w) := fun w => RI_Fz Fz_to hr
  have h2 : ∀ y : MdS, RI n m fa fb y → RI n m fa fb (Md_set_state y v1) := fun y h => h
  have h3 : CI n m fa fb (SB_set_drawn X v1) := hc
  exact ⟨SB_drawn X, SB_set_drawn X v1, Md_set_state (Md_set_told M 0) v1, rfl, by rw [hd]; rfl, n, m, fa, fb, hv, h3, h2 _ (h1 0), rfl⟩
theorem pc_nodes : PC_nodes Inv := by
  intro X M ⟨n, m, fa, fb, hv, hc, hr, hd⟩ v1
  have key : T2 (fun a b => b.1 = a.1 ∧ Inv a.2 b.2) (SB_m_nodes X v1) (Md_m_nodes M v1) := by
    unfold SB_m_nodes Md_m_nodes
    have hin := isInt_ok (x := Md_set_told M 0) (w := v1) i64_2 i64_32
    have hno : ∀ b : MdS, b = Md_set_told M 0 → Inv X b := fun b e => by rw [e]; exact Inv_of hv hc hd (Rd_told hr)
    by_cases h1 : v1.toInt < 2
    · exact T2_p1 (by rw [i32_lt, i32_2]; exact h1) (T2_f2 hin (by omega) (T2_some ⟨rfl, hno _ rfl⟩))
    · refine T2_n1 (by rw [i32_lt, i32_2]; exact h1) ?_
      by_cases h2 : v1.toInt ≤ 32
      · refine T2_p1 (by rw [i32_le, i32_32]; exact h2) (T2_t2 hin ⟨by omega, h2⟩ ?_)
        have hn : v1.toInt = (v1.toInt.toNat : Int) := by omega
        refine T2_b1 (clearW_ok (n := v1.toInt.toNat) (fa := fun _ => 0) (fb := fun _ => 0) hn (by omega)) (fun g hg => ?_)
        have e : SB_now (SB_set_now X g) = g := rfl
        refine T2_b1 (readAgain_ok (n := v1.toInt.toNat) (m := 0) (fa := fun _ => 0) (fb := fun _ => 0) (HV_0 (by omega) (by omega)) (WbL_0 (by rw [e]; exact hg.1))) (fun g2 hg2 => T2_some ⟨rfl, v1.toInt.toNat, 0, fun _ => 0, fun _ => 0, HV_0 (by omega) (by omega), hg2.1, ?_, ?_⟩)
        · have hq : ∃ q, q = Md_set_partRun (Md_set_run (Md_set_m (Md_set_n (Md_set_told M 0) v1) 0) (-1)) (-1) ∧ Md_n q = v1 ∧ Md_m q = 0 ∧ Md_run q = -1 ∧ Md_partRun q = -1 := ⟨_, rfl, rfl, rfl, rfl, rfl⟩
          obtain ⟨q, eq, q1, q2, q3, q4⟩ := hq
          show RI _ _ _ _ (Md_set_partRun (Md_set_run (Md_set_m (Md_set_n (Md_set_told M 0) v1) 0) (-1)) (-1))
          rw [← eq]
          exact ⟨by rw [q1]; exact hn, by rw [q2]; exact i32_0, fun l hl => absurd hl (Nat.not_lt_zero l), Or.inl (by rw [q3]; exact i32_m1), Or.inl (by rw [q4]; exact i32_m1)⟩
        · have h9 : SB_drawn g2 = SB_drawn X := hg2.2.1
          rw [h9, hd]
          rfl
      · exact T2_n1 (by rw [i32_le, i32_32]; exact h2) (T2_f2 hin (by omega) (T2_some ⟨rfl, hno _ rfl⟩))
  obtain ⟨⟨a1, a2⟩, ⟨b1, b2⟩, e1, e2, e3, e4⟩ := key
  have e3' : b1 = a1 := e3
  exact ⟨a1, a2, b2, e1, by rw [e2, e3'], e4⟩
theorem pc_link : PC_link Inv := by
  intro X M ⟨n, m, fa, fb, hv, hc, hr, hd⟩ v1 v2
  apply pcX
  unfold SB_m_link Md_m_link
  have hA := areTwoC_ok (w1 := v1) (w2 := v2) hc
  have hB := areTwoR_ok (x := Md_set_told M 0) (w1 := v1) (w2 := v2) hr.1
  have hT : Rd n m fa fb M (Md_set_told M 0) := Rd_told hr
  have e0 : Md_m (Md_set_told M 0) = Md_m M := rfl
  by_cases h2 : (0 ≤ v1.toInt ∧ v1.toInt < n) ∧ (0 ≤ v2.toInt ∧ v2.toInt < n) ∧ v1.toInt ≠ v2.toInt
  · refine T2_t1 hA h2 (T2_t2 hB h2 ?_)
    have hlk := hc.1.1.1
    have hmm := hr.2.1
    have hm64 := hv.2.2.1
    rw [e0]
    by_cases hm : m < 64
    · refine T2_p1 (by rw [i32_lt, hlk, i32_64]; omega) (T2_n2 (fun z => by rw [i32_eq, hmm, i32_64] at z; omega) ?_)
      have hu : v1.toInt = (v1.toInt.toNat : Int) := by omega
      have hw : v2.toInt = (v2.toInt.toNat : Int) := by omega
      have hv' := HV_more hv hm (u := v1.toInt.toNat) (v := v2.toInt.toNat) (by omega) (by omega) (by omega)
      generalize v1.toInt.toNat = u at *
      generalize v2.toInt.toNat = v at *
      have hW := WbOK_cg (uf_cg (fa := fa) (fb := fb) (u := u) (v := v)) hc.1.1
      refine T2_b1 (add_ok (fa := uf fa m u) (fb := uf fb m v) hv'.2.2.2.1 hv'.2.1 hm hW (by rw [uf_s]; exact hu) (by rw [uf_s]; exact hw)) (fun g hg => ?_)
      have eg : SB_now (SB_set_now X g.2) = g.2 := rfl
      refine T2_b1 (readAgain_ok (X := SB_set_now X g.2) hv' ⟨by rw [eg]; exact hg.1, fun k e => by
        have : k = m := by omega
        rw [this, eg]; exact hg.2.1⟩) (fun g2 hg2 => ?_)
      refine T2_b2 (runsAll_ok hv hT) (fun a ha => T2_b2 (bridgesR_ok ha.2.2.2.1.2.2.2 hm64 ha.2.2.1) (fun b1 hb1 => T2_b2 (laysR_ok hm ha.1 hu hw) (fun a2 ha2 => ?_)))
      have hst : Md_state a2 = Md_state M := ha2.2.1.trans ha.2.1
      refine T2_b2 (runsAll_ok (M := M) hv' ⟨ha2.1, hst⟩) (fun a3 ha3 => T2_b2 (bridgesR_ok ha3.2.2.2.1.2.2.2 hv'.2.2.1 ha3.2.2.1) (fun b2 hb2 => ?_))
      have hinv : Inv g2 a3 := ⟨n, m + 1, _, _, hv', hg2.1, ha3.1, by
        have h9 : SB_drawn g2 = SB_drawn X := hg2.2.1
        rw [h9, hd, ha3.2.1]⟩
      have hcnt1 : cnt (brg fa fb m) m = cnt (brg (uf fa m u) (uf fb m v) m) m := by
        refine cnt_congr (fun t ht => ?_)
        rw [← hC_brg ht, ← hC_brg ht, cg_hC (uf_cg (fa := fa) (fb := fb) (u := u) (v := v))]
      rw [hcnt1] at hb1
      have hle1 := cnt_le (P := brg (uf fa m u) (uf fb m v) m) (n := m)
      by_cases hTL : TL (uf fa m u) (uf fb m v) m
      · have hb := brgs_tree hTL
        refine T2_n2 (fun z => by rw [i32_le, hb1, hb2, hb] at z; omega) (T2_some ⟨?_, hinv⟩)
        exact (hg.2.2.1 hTL).symm
      · have hb := brgs_ring hTL
        refine T2_p2 (by rw [i32_le, hb1, hb2]; omega) (T2_b2 (bridgesR_ok ha3.2.2.2.1.2.2.2 hv'.2.2.1 ha3.2.2.1) (fun b3 hb3 => T2_some ⟨?_, hinv⟩))
        have h9 := hg.2.2.2.1 hTL
        refine i32_ext ?_
        show (b1 - b3).toInt = g.1.toInt
        rw [i32_sub (by omega) (by omega), h9]
        omega
    · refine T2_n1 (by rw [i32_lt, hlk, i32_64]; omega) (T2_p2 (by rw [i32_eq, hmm, i32_64]; omega) (T2_some ⟨rfl, Inv_of hv hc hd hT⟩))
  · exact T2_f1 hA h2 (T2_f2 hB h2 (T2_some ⟨rfl, Inv_of hv hc hd hT⟩))
theorem pc_undo : PC_undo Inv := by
  intro X M ⟨n, m, fa, fb, hv, hc, hr, hd⟩ v1
  apply pcX
  unfold SB_m_undo Md_m_undo
  have hT : Rd n m fa fb M (Md_set_told M 0) := Rd_told hr
  have e0 : Md_m (Md_set_told M 0) = Md_m M := rfl
  have hlk := hc.1.1.1
  have hmm := hr.2.1
  have hm64 := hv.2.2.1
  have hin := isInt_ok (x := Md_set_told M 0) (w := v1) i64_0 (i32_w (Md_m (Md_set_told M 0)))
  rw [e0, hmm] at hin
  have hno : T2 (fun (r : Int32 × SBS) (q : Int32 × MdS) => q.1 = r.1 ∧ Inv r.2 q.2) (some (-1, X)) (some (-1, Md_set_told M 0)) := T2_some ⟨rfl, Inv_of hv hc hd hT⟩
  by_cases h1 : v1.toInt < 0
  · exact T2_p1 (by rw [i32_lt, i32_0]; exact h1) (T2_f2 hin (by omega) hno)
  · refine T2_n1 (by rw [i32_lt, i32_0]; exact h1) ?_
    by_cases h2 : v1.toInt ≤ m
    · refine T2_p1 (by rw [i32_le, hlk]; exact h2) (T2_t2 hin ⟨by omega, h2⟩ ?_)
      -- the reference's end
      have hq : ∃ q, q = Md_set_partRun (Md_set_run (Md_set_m (Md_set_told M 0) ((Md_m (Md_set_told M 0)) - v1)) (-1)) (-1) ∧ Md_n q = Md_n M ∧ Md_m q = Md_m M - v1 ∧ Md_run q = -1 ∧ Md_partRun q = -1 ∧ Md_first q = Md_first M ∧ Md_second q = Md_second M ∧ Md_state q = Md_state M := ⟨_, rfl, rfl, rfl, rfl, rfl, rfl, rfl, rfl⟩
      obtain ⟨q, eq, q1, q2, q3, q4, q5, q6, q7⟩ := hq
      rw [← eq, q2]
      have hsub : (Md_m M - v1).toInt = ((m - v1.toInt.toNat : Nat) : Int) := by rw [i32_sub (by omega) (by omega), hmm]; omega
      have hRq : RI n (m - v1.toInt.toNat) fa fb q := ⟨by rw [q1]; exact hr.1, by rw [q2]; exact hsub, fun l hl => by rw [q5, q6]; exact hr.2.2.1 l (by omega), Or.inl (by rw [q3]; exact i32_m1), Or.inl (by rw [q4]; exact i32_m1)⟩
      have hv' : HV n (m - v1.toInt.toNat) fa fb := ⟨hv.1, hv.2.1, by omega, Vd_le hv.2.2.2.1 (by omega), fun l hl => hv.2.2.2.2 l (by omega)⟩
      unfold SB_m_undo_j41
      by_cases h3 : v1.toInt ≤ 0
      · refine T2_p1 (by rw [i32_le, i32_0]; exact h3) (T2_some ⟨i32_ext ?_, ?_⟩)
        · show (Md_m M - v1).toInt = (Wb_links (SB_now X)).toInt
          rw [hsub, hlk]; omega
        · have e : m - v1.toInt.toNat = m := by omega
          rw [e] at hRq
          exact ⟨n, m, fa, fb, hv, hc, hRq, hd.trans q7.symm⟩
      · refine T2_n1 (by rw [i32_le, i32_0]; exact h3) ?_
        refine T2_b1 (grow_ok (wn := 0) (m := m - v1.toInt.toNat) hv'.2.2.2.1 hv'.2.1 hv'.2.2.1 (by rw [i32_sub (by omega) (by omega), hlk]; omega) hc.1.1.2.2.2.1.1 (fun l hl => hc.1.1.2.1 l (by omega))) (fun g hg => ?_)
        have eg : SB_now (SB_set_now X g) = g := rfl
        refine T2_b1 (readAgain_ok (X := SB_set_now X g) hv' (by rw [eg]; exact hg)) (fun g2 hg2 => T2_some ⟨i32_ext ?_, ?_⟩)
        · show (Md_m M - v1).toInt = (Wb_links (SB_now g2)).toInt
          rw [hsub, hg2.1.1.1.1]
        · have h9 : SB_drawn g2 = SB_drawn X := hg2.2.1
          exact ⟨n, _, fa, fb, hv', hg2.1, hRq, by rw [h9, hd]; exact q7.symm⟩
    · exact T2_n1 (by rw [i32_le, hlk]; exact h2) (T2_f2 hin (by omega) hno)
end K2
