/-! REFERENCE 8: the replay -/
def Bg (x : MdS) (p u no en it mx : Nat → Int32) : MdS := U4 (Md_set_up (Md_set_parent x p) u) no en it mx
/-- what a replay from the start leaves, too -/
def Fr0 (x y : MdS) : Prop := Md_n y = Md_n x ∧ Md_m y = Md_m x ∧ Md_state y = Md_state x ∧ Md_first y = Md_first x ∧ Md_second y = Md_second x ∧ Md_partRun y = Md_partRun x ∧ Md_partName y = Md_partName x ∧ Md_partEnded y = Md_partEnded x ∧ Md_partInto y = Md_partInto x ∧ Md_partMost y = Md_partMost x
section R8
variable {fa fb : Nat → Nat} {n k m u v b c t y r a d e o T K : Nat} {x z : MdS} {L M : List (Nat × Nat)}
theorem Bg_0 : Bg x (Md_parent x) (Md_up x) (Md_nameOf x) (Md_endedBy x) (Md_into x) (Md_most x) = x := rfl
theorem Bg_1 {p u no en it mx f g : Nat → Int32} : Md_set_up (Md_set_parent (Bg x p u no en it mx) f) g = Bg x f g no en it mx := rfl
theorem Bg_2 {p u no en it mx f1 f2 f3 f4 : Nat → Int32} : Md_set_most (Md_set_into (Md_set_endedBy (Md_set_nameOf (Bg x p u no en it mx) f1) f2) f3) f4 = Bg x p u f1 f2 f3 f4 := rfl
theorem Bg_p {p u no en it mx : Nat → Int32} : Md_parent (Bg x p u no en it mx) = p := rfl
theorem Bg_u {p u no en it mx : Nat → Int32} : Md_up (Bg x p u no en it mx) = u := rfl
theorem Bg_u2 {p u no en it mx f : Nat → Int32} : Md_up (Md_set_parent (Bg x p u no en it mx) f) = u := rfl
theorem Bg_no {p u no en it mx : Nat → Int32} : Md_nameOf (Bg x p u no en it mx) = no := rfl
theorem Bg_en {p u no en it mx : Nat → Int32} : Md_endedBy (Bg x p u no en it mx) = en := rfl
theorem Bg_it {p u no en it mx : Nat → Int32} : Md_into (Bg x p u no en it mx) = it := rfl
theorem Bg_mx {p u no en it mx : Nat → Int32} : Md_most (Bg x p u no en it mx) = mx := rfl
theorem Bg_en2 {p u no en it mx f : Nat → Int32} : Md_endedBy (Md_set_nameOf (Bg x p u no en it mx) f) = en := rfl
theorem Bg_it2 {p u no en it mx f g : Nat → Int32} : Md_into (Md_set_endedBy (Md_set_nameOf (Bg x p u no en it mx) f) g) = it := rfl
theorem Bg_mx2 {p u no en it mx f g h : Nat → Int32} : Md_most (Md_set_into (Md_set_endedBy (Md_set_nameOf (Bg x p u no en it mx) f) g) h) = mx := rfl
theorem Fr0_of {y : MdS} (h : Fr x y) : Fr0 x y := by
  obtain ⟨a1, a2, a3, a4, a5, a6, a7, a8, a9, a10, a11⟩ := h
  exact ⟨a1, a2, a3, a4, a5, a6, a7, a8, a9, a10⟩
theorem Fr0_refl : Fr0 x x := ⟨rfl, rfl, rfl, rfl, rfl, rfl, rfl, rfl, rfl, rfl⟩
theorem Fr0_trans {y : MdS} (h1 : Fr0 x y) (h2 : Fr0 y z) : Fr0 x z := by
  obtain ⟨a1, a2, a3, a4, a5, a6, a7, a8, a9, a10⟩ := h1
  obtain ⟨b1, b2, b3, b4, b5, b6, b7, b8, b9, b10⟩ := h2
  exact ⟨b1.trans a1, b2.trans a2, b3.trans a3, b4.trans a4, b5.trans a5, b6.trans a6, b7.trans a7, b8.trans a8, b9.trans a9, b10.trans a10⟩
theorem Fr_Bg {p u no en it mx : Nat → Int32} : Fr x (Bg x p u no en it mx) := ⟨rfl, rfl, rfl, rfl, rfl, rfl, rfl, rfl, rfl, rfl, rfl⟩
theorem Fr0_run {f : Int32} : Fr0 x (Md_set_run x f) := ⟨rfl, rfl, rfl, rfl, rfl, rfl, rfl, rfl, rfl, rfl⟩
theorem Bg_run {p u no en it mx : Nat → Int32} : Md_run (Bg x p u no en it mx) = Md_run x := rfl
/-- names as at first, at some places -/
def Z4 (Q : Nat → Nat → Prop) (no en it mx : Nat → Int32) : Prop := ∀ v kd, v < 32 → kd ≤ 1 → Q v kd → (no (32 * kd + v)).toInt = (v : Int) ∧ (en (32 * kd + v)).toInt = -1 ∧ (it (32 * kd + v)).toInt = -1 ∧ (mx (32 * kd + v)).toInt = 1
theorem begins_ok (hn : n ≤ 32) : Ok (Md_m_begins x) (fun q => RefK n fa fb 0 q ∧ Fr0 x q ∧ (Md_run q).toInt = 0) := by
  unfold Md_m_begins
  refine Ok_for 32 (fun j y => ∃ p u no en it mx, y = Bg (Md_set_run x 0) p u no en it mx ∧ (∀ v, v < j → (p v).toInt = -1 ∧ (u v).toInt = -1) ∧ Z4 (fun v _ => v < j) no en it mx) (by omega) i32_0 ⟨_, _, _, _, _, _, Bg_0.symm, fun v hv => absurd hv (Nat.not_lt_zero v), fun v kd hv hk hq => absurd hq (Nat.not_lt_zero _)⟩ ?_ ?_
  · intro j y i hj hi ⟨p, u, no, en, it, mx, hy, hpu, hz⟩
    subst hy
    dsimp only [Md_m_begins_s7]
    refine Ok_ite (fun q => by rw [i32_le, i32_32] at q; omega) (fun _ => ?_)
    rw [Bg_p]
    refine Ok_wrb hi hj ?_
    rw [Bg_u2]
    refine Ok_wrb hi hj ?_
    rw [Bg_1]
    refine Ok_for 2 (fun kk y => ∃ no en it mx, y = Bg (Md_set_run x 0) (va_up p j (-1)) (va_up u j (-1)) no en it mx ∧ Z4 (fun v kd => v < j ∨ (v = j ∧ kd < kk)) no en it mx) (by omega) i32_0 ⟨no, en, it, mx, rfl, fun v kd hv hk hq => hz v kd hv hk (hq.elim (fun z => z) (fun z => absurd z.2 (Nat.not_lt_zero _)))⟩ ?_ ?_
    · intro kk y i2 hkk hi2 ⟨no, en, it, mx, hy, hz2⟩
      subst hy
      dsimp only [Md_m_begins_s29]
      refine Ok_ite (fun q => by rw [i32_le, i32_2] at q; omega) (fun _ => ?_)
      have hoff := off_ok hi2 (show kk ≤ 1 by omega) hi (show j < 1000 by omega)
      rw [Bg_no]
      refine Ok_wrb hoff (by omega) ?_
      rw [Bg_en2]
      refine Ok_wrb hoff (by omega) ?_
      rw [Bg_it2]
      refine Ok_wrb hoff (by omega) ?_
      rw [Bg_mx2]
      refine Ok_wrb hoff (by omega) ?_
      rw [Bg_2]
      refine Ok_some ⟨nx_s hi2 (by omega), _, _, _, _, rfl, fun v kd hv hk hq => ?_⟩
      by_cases e : 32 * kd + v = 32 * kk + j
      · have ev : v = j := by omega
        rw [e, vu_s, vu_s, vu_s, vu_s, ev]
        exact ⟨hi, i32_m1, i32_m1, i32_1⟩
      · rw [vu_n e, vu_n e, vu_n e, vu_n e]
        refine hz2 v kd hv hk ?_
        rcases hq with q | ⟨q1, q2⟩
        · exact Or.inl q
        · exact Or.inr ⟨q1, by omega⟩
    · intro y i2 hi2 ⟨no, en, it, mx, hy, hz2⟩
      subst hy
      dsimp only [Md_m_begins_s29]
      refine Ok_ite (fun _ => Ok_omap (Ok_some ⟨nx_s hi (by omega), _, _, no, en, it, mx, rfl, fun v hv => ?_, fun v kd hv hk hq => hz2 v kd hv hk ?_⟩)) (fun q => by rw [i32_le, i32_2] at q; omega)
      · by_cases e : v = j
        · rw [e, vu_s, vu_s]; exact ⟨i32_m1, i32_m1⟩
        · rw [vu_n e, vu_n e]; exact hpu v (by omega)
      · have hq2 : v < j + 1 := hq
        by_cases q : v < j
        · exact Or.inl q
        · exact Or.inr ⟨by omega, by omega⟩
  · intro y i hi ⟨p, u, no, en, it, mx, hy, hpu, hz⟩
    subst hy
    dsimp only [Md_m_begins_s7]
    refine Ok_ite (fun _ => Ok_omap (Ok_some ⟨⟨?_, ?_, ?_, fun l hl => absurd hl (Nat.not_lt_zero l)⟩, Fr0_trans Fr0_run (Fr0_of Fr_Bg), ?_⟩)) (fun q => by rw [i32_le, i32_32] at q; omega)
    · intro j hj
      rw [Bg_no, Bg_en, Bg_it, Bg_mx]
      exact hz j 0 (by omega) (by omega) (show j < 32 by omega)
    · intro j hj
      rw [Bg_no, Bg_en, Bg_it, Bg_mx]
      exact hz j 1 (by omega) (by omega) (show j < 32 by omega)
    · intro b hb hl
      rw [Bg_p, Bg_u]
      have : bup n fa fb 0 b = (-1, -1) := rfl
      rw [this]
      exact hpu b (by omega)
    · rw [Bg_run]; exact i32_0
def X2 (x : MdS) (g27 g36 : Int32) (f48 : Nat → Int32) : MdS := Md_set_closedBy (Md_set_secondName (Md_set_firstName (Md_set_became (Md_set_turned x 0) 1) g27) g36) f48
theorem qs_n_closedBy {w : Nat → Int32} : Md_n (Md_set_closedBy x w) = Md_n x := rfl
theorem qs_m_closedBy {w : Nat → Int32} : Md_m (Md_set_closedBy x w) = Md_m x := rfl
theorem qs_state_closedBy {w : Nat → Int32} : Md_state (Md_set_closedBy x w) = Md_state x := rfl
theorem qs_first_closedBy {w : Nat → Int32} : Md_first (Md_set_closedBy x w) = Md_first x := rfl
theorem qs_second_closedBy {w : Nat → Int32} : Md_second (Md_set_closedBy x w) = Md_second x := rfl
theorem qs_partRun_closedBy {w : Nat → Int32} : Md_partRun (Md_set_closedBy x w) = Md_partRun x := rfl
theorem qs_partName_closedBy {w : Nat → Int32} : Md_partName (Md_set_closedBy x w) = Md_partName x := rfl
theorem qs_partEnded_closedBy {w : Nat → Int32} : Md_partEnded (Md_set_closedBy x w) = Md_partEnded x := rfl
theorem qs_partInto_closedBy {w : Nat → Int32} : Md_partInto (Md_set_closedBy x w) = Md_partInto x := rfl
theorem qs_partMost_closedBy {w : Nat → Int32} : Md_partMost (Md_set_closedBy x w) = Md_partMost x := rfl
theorem qs_run_closedBy {w : Nat → Int32} : Md_run (Md_set_closedBy x w) = Md_run x := rfl
theorem qs_nameOf_closedBy {w : Nat → Int32} : Md_nameOf (Md_set_closedBy x w) = Md_nameOf x := rfl
theorem qs_endedBy_closedBy {w : Nat → Int32} : Md_endedBy (Md_set_closedBy x w) = Md_endedBy x := rfl
theorem qs_into_closedBy {w : Nat → Int32} : Md_into (Md_set_closedBy x w) = Md_into x := rfl
theorem qs_most_closedBy {w : Nat → Int32} : Md_most (Md_set_closedBy x w) = Md_most x := rfl
theorem qs_parent_closedBy {w : Nat → Int32} : Md_parent (Md_set_closedBy x w) = Md_parent x := rfl
theorem qs_up_closedBy {w : Nat → Int32} : Md_up (Md_set_closedBy x w) = Md_up x := rfl
theorem qs_turned_closedBy {w : Nat → Int32} : Md_turned (Md_set_closedBy x w) = Md_turned x := rfl
theorem qs_became_closedBy {w : Nat → Int32} : Md_became (Md_set_closedBy x w) = Md_became x := rfl
theorem qs_firstName_closedBy {w : Nat → Int32} : Md_firstName (Md_set_closedBy x w) = Md_firstName x := rfl
theorem qs_secondName_closedBy {w : Nat → Int32} : Md_secondName (Md_set_closedBy x w) = Md_secondName x := rfl
theorem qs_closedBy_closedBy {w : Nat → Int32} : Md_closedBy (Md_set_closedBy x w) = w := rfl
theorem qs_n_secondName {w : Int32} : Md_n (Md_set_secondName x w) = Md_n x := rfl
theorem qs_m_secondName {w : Int32} : Md_m (Md_set_secondName x w) = Md_m x := rfl
theorem qs_state_secondName {w : Int32} : Md_state (Md_set_secondName x w) = Md_state x := rfl
theorem qs_first_secondName {w : Int32} : Md_first (Md_set_secondName x w) = Md_first x := rfl
theorem qs_second_secondName {w : Int32} : Md_second (Md_set_secondName x w) = Md_second x := rfl
theorem qs_partRun_secondName {w : Int32} : Md_partRun (Md_set_secondName x w) = Md_partRun x := rfl
theorem qs_partName_secondName {w : Int32} : Md_partName (Md_set_secondName x w) = Md_partName x := rfl
theorem qs_partEnded_secondName {w : Int32} : Md_partEnded (Md_set_secondName x w) = Md_partEnded x := rfl
theorem qs_partInto_secondName {w : Int32} : Md_partInto (Md_set_secondName x w) = Md_partInto x := rfl
theorem qs_partMost_secondName {w : Int32} : Md_partMost (Md_set_secondName x w) = Md_partMost x := rfl
theorem qs_run_secondName {w : Int32} : Md_run (Md_set_secondName x w) = Md_run x := rfl
theorem qs_nameOf_secondName {w : Int32} : Md_nameOf (Md_set_secondName x w) = Md_nameOf x := rfl
theorem qs_endedBy_secondName {w : Int32} : Md_endedBy (Md_set_secondName x w) = Md_endedBy x := rfl
theorem qs_into_secondName {w : Int32} : Md_into (Md_set_secondName x w) = Md_into x := rfl
theorem qs_most_secondName {w : Int32} : Md_most (Md_set_secondName x w) = Md_most x := rfl
theorem qs_parent_secondName {w : Int32} : Md_parent (Md_set_secondName x w) = Md_parent x := rfl
theorem qs_up_secondName {w : Int32} : Md_up (Md_set_secondName x w) = Md_up x := rfl
theorem qs_turned_secondName {w : Int32} : Md_turned (Md_set_secondName x w) = Md_turned x := rfl
theorem qs_became_secondName {w : Int32} : Md_became (Md_set_secondName x w) = Md_became x := rfl
theorem qs_firstName_secondName {w : Int32} : Md_firstName (Md_set_secondName x w) = Md_firstName x := rfl
theorem qs_secondName_secondName {w : Int32} : Md_secondName (Md_set_secondName x w) = w := rfl
theorem qs_closedBy_secondName {w : Int32} : Md_closedBy (Md_set_secondName x w) = Md_closedBy x := rfl
theorem qs_n_firstName {w : Int32} : Md_n (Md_set_firstName x w) = Md_n x := rfl
theorem qs_m_firstName {w : Int32} : Md_m (Md_set_firstName x w) = Md_m x := rfl
theorem qs_state_firstName {w : Int32} : Md_state (Md_set_firstName x w) = Md_state x := rfl
theorem qs_first_firstName {w : Int32} : Md_first (Md_set_firstName x w) = Md_first x := rfl
theorem qs_second_firstName {w : Int32} : Md_second (Md_set_firstName x w) = Md_second x := rfl
theorem qs_partRun_firstName {w : Int32} : Md_partRun (Md_set_firstName x w) = Md_partRun x := rfl
theorem qs_partName_firstName {w : Int32} : Md_partName (Md_set_firstName x w) = Md_partName x := rfl
theorem qs_partEnded_firstName {w : Int32} : Md_partEnded (Md_set_firstName x w) = Md_partEnded x := rfl
theorem qs_partInto_firstName {w : Int32} : Md_partInto (Md_set_firstName x w) = Md_partInto x := rfl
theorem qs_partMost_firstName {w : Int32} : Md_partMost (Md_set_firstName x w) = Md_partMost x := rfl
theorem qs_run_firstName {w : Int32} : Md_run (Md_set_firstName x w) = Md_run x := rfl
theorem qs_nameOf_firstName {w : Int32} : Md_nameOf (Md_set_firstName x w) = Md_nameOf x := rfl
theorem qs_endedBy_firstName {w : Int32} : Md_endedBy (Md_set_firstName x w) = Md_endedBy x := rfl
theorem qs_into_firstName {w : Int32} : Md_into (Md_set_firstName x w) = Md_into x := rfl
theorem qs_most_firstName {w : Int32} : Md_most (Md_set_firstName x w) = Md_most x := rfl
theorem qs_parent_firstName {w : Int32} : Md_parent (Md_set_firstName x w) = Md_parent x := rfl
theorem qs_up_firstName {w : Int32} : Md_up (Md_set_firstName x w) = Md_up x := rfl
theorem qs_turned_firstName {w : Int32} : Md_turned (Md_set_firstName x w) = Md_turned x := rfl
theorem qs_became_firstName {w : Int32} : Md_became (Md_set_firstName x w) = Md_became x := rfl
theorem qs_firstName_firstName {w : Int32} : Md_firstName (Md_set_firstName x w) = w := rfl
theorem qs_secondName_firstName {w : Int32} : Md_secondName (Md_set_firstName x w) = Md_secondName x := rfl
theorem qs_closedBy_firstName {w : Int32} : Md_closedBy (Md_set_firstName x w) = Md_closedBy x := rfl
theorem qs_n_became {w : Int32} : Md_n (Md_set_became x w) = Md_n x := rfl
theorem qs_m_became {w : Int32} : Md_m (Md_set_became x w) = Md_m x := rfl
theorem qs_state_became {w : Int32} : Md_state (Md_set_became x w) = Md_state x := rfl
theorem qs_first_became {w : Int32} : Md_first (Md_set_became x w) = Md_first x := rfl
theorem qs_second_became {w : Int32} : Md_second (Md_set_became x w) = Md_second x := rfl
theorem qs_partRun_became {w : Int32} : Md_partRun (Md_set_became x w) = Md_partRun x := rfl
theorem qs_partName_became {w : Int32} : Md_partName (Md_set_became x w) = Md_partName x := rfl
theorem qs_partEnded_became {w : Int32} : Md_partEnded (Md_set_became x w) = Md_partEnded x := rfl
theorem qs_partInto_became {w : Int32} : Md_partInto (Md_set_became x w) = Md_partInto x := rfl
theorem qs_partMost_became {w : Int32} : Md_partMost (Md_set_became x w) = Md_partMost x := rfl
theorem qs_run_became {w : Int32} : Md_run (Md_set_became x w) = Md_run x := rfl
theorem qs_nameOf_became {w : Int32} : Md_nameOf (Md_set_became x w) = Md_nameOf x := rfl
theorem qs_endedBy_became {w : Int32} : Md_endedBy (Md_set_became x w) = Md_endedBy x := rfl
theorem qs_into_became {w : Int32} : Md_into (Md_set_became x w) = Md_into x := rfl
theorem qs_most_became {w : Int32} : Md_most (Md_set_became x w) = Md_most x := rfl
theorem qs_parent_became {w : Int32} : Md_parent (Md_set_became x w) = Md_parent x := rfl
theorem qs_up_became {w : Int32} : Md_up (Md_set_became x w) = Md_up x := rfl
theorem qs_turned_became {w : Int32} : Md_turned (Md_set_became x w) = Md_turned x := rfl
theorem qs_became_became {w : Int32} : Md_became (Md_set_became x w) = w := rfl
theorem qs_firstName_became {w : Int32} : Md_firstName (Md_set_became x w) = Md_firstName x := rfl
theorem qs_secondName_became {w : Int32} : Md_secondName (Md_set_became x w) = Md_secondName x := rfl
theorem qs_closedBy_became {w : Int32} : Md_closedBy (Md_set_became x w) = Md_closedBy x := rfl
theorem qs_n_turned {w : Int32} : Md_n (Md_set_turned x w) = Md_n x := rfl
theorem qs_m_turned {w : Int32} : Md_m (Md_set_turned x w) = Md_m x := rfl
theorem qs_state_turned {w : Int32} : Md_state (Md_set_turned x w) = Md_state x := rfl
theorem qs_first_turned {w : Int32} : Md_first (Md_set_turned x w) = Md_first x := rfl
theorem qs_second_turned {w : Int32} : Md_second (Md_set_turned x w) = Md_second x := rfl
theorem qs_partRun_turned {w : Int32} : Md_partRun (Md_set_turned x w) = Md_partRun x := rfl
theorem qs_partName_turned {w : Int32} : Md_partName (Md_set_turned x w) = Md_partName x := rfl
theorem qs_partEnded_turned {w : Int32} : Md_partEnded (Md_set_turned x w) = Md_partEnded x := rfl
theorem qs_partInto_turned {w : Int32} : Md_partInto (Md_set_turned x w) = Md_partInto x := rfl
theorem qs_partMost_turned {w : Int32} : Md_partMost (Md_set_turned x w) = Md_partMost x := rfl
theorem qs_run_turned {w : Int32} : Md_run (Md_set_turned x w) = Md_run x := rfl
theorem qs_nameOf_turned {w : Int32} : Md_nameOf (Md_set_turned x w) = Md_nameOf x := rfl
theorem qs_endedBy_turned {w : Int32} : Md_endedBy (Md_set_turned x w) = Md_endedBy x := rfl
theorem qs_into_turned {w : Int32} : Md_into (Md_set_turned x w) = Md_into x := rfl
theorem qs_most_turned {w : Int32} : Md_most (Md_set_turned x w) = Md_most x := rfl
theorem qs_parent_turned {w : Int32} : Md_parent (Md_set_turned x w) = Md_parent x := rfl
theorem qs_up_turned {w : Int32} : Md_up (Md_set_turned x w) = Md_up x := rfl
theorem qs_turned_turned {w : Int32} : Md_turned (Md_set_turned x w) = w := rfl
theorem qs_became_turned {w : Int32} : Md_became (Md_set_turned x w) = Md_became x := rfl
theorem qs_firstName_turned {w : Int32} : Md_firstName (Md_set_turned x w) = Md_firstName x := rfl
theorem qs_secondName_turned {w : Int32} : Md_secondName (Md_set_turned x w) = Md_secondName x := rfl
theorem qs_closedBy_turned {w : Int32} : Md_closedBy (Md_set_turned x w) = Md_closedBy x := rfl
theorem X2_n {g27 g36 : Int32} {f48 : Nat → Int32} : Md_n (X2 x g27 g36 f48) = Md_n x := by
  unfold X2
  rw [qs_n_closedBy, qs_n_secondName, qs_n_firstName, qs_n_became, qs_n_turned]
theorem X2_m {g27 g36 : Int32} {f48 : Nat → Int32} : Md_m (X2 x g27 g36 f48) = Md_m x := by
  unfold X2
  rw [qs_m_closedBy, qs_m_secondName, qs_m_firstName, qs_m_became, qs_m_turned]
theorem X2_state {g27 g36 : Int32} {f48 : Nat → Int32} : Md_state (X2 x g27 g36 f48) = Md_state x := by
  unfold X2
  rw [qs_state_closedBy, qs_state_secondName, qs_state_firstName, qs_state_became, qs_state_turned]
theorem X2_first {g27 g36 : Int32} {f48 : Nat → Int32} : Md_first (X2 x g27 g36 f48) = Md_first x := by
  unfold X2
  rw [qs_first_closedBy, qs_first_secondName, qs_first_firstName, qs_first_became, qs_first_turned]
theorem X2_second {g27 g36 : Int32} {f48 : Nat → Int32} : Md_second (X2 x g27 g36 f48) = Md_second x := by
  unfold X2
  rw [qs_second_closedBy, qs_second_secondName, qs_second_firstName, qs_second_became, qs_second_turned]
theorem X2_partRun {g27 g36 : Int32} {f48 : Nat → Int32} : Md_partRun (X2 x g27 g36 f48) = Md_partRun x := by
  unfold X2
  rw [qs_partRun_closedBy, qs_partRun_secondName, qs_partRun_firstName, qs_partRun_became, qs_partRun_turned]
theorem X2_partName {g27 g36 : Int32} {f48 : Nat → Int32} : Md_partName (X2 x g27 g36 f48) = Md_partName x := by
  unfold X2
  rw [qs_partName_closedBy, qs_partName_secondName, qs_partName_firstName, qs_partName_became, qs_partName_turned]
theorem X2_partEnded {g27 g36 : Int32} {f48 : Nat → Int32} : Md_partEnded (X2 x g27 g36 f48) = Md_partEnded x := by
  unfold X2
  rw [qs_partEnded_closedBy, qs_partEnded_secondName, qs_partEnded_firstName, qs_partEnded_became, qs_partEnded_turned]
theorem X2_partInto {g27 g36 : Int32} {f48 : Nat → Int32} : Md_partInto (X2 x g27 g36 f48) = Md_partInto x := by
  unfold X2
  rw [qs_partInto_closedBy, qs_partInto_secondName, qs_partInto_firstName, qs_partInto_became, qs_partInto_turned]
theorem X2_partMost {g27 g36 : Int32} {f48 : Nat → Int32} : Md_partMost (X2 x g27 g36 f48) = Md_partMost x := by
  unfold X2
  rw [qs_partMost_closedBy, qs_partMost_secondName, qs_partMost_firstName, qs_partMost_became, qs_partMost_turned]
theorem X2_run {g27 g36 : Int32} {f48 : Nat → Int32} : Md_run (X2 x g27 g36 f48) = Md_run x := by
  unfold X2
  rw [qs_run_closedBy, qs_run_secondName, qs_run_firstName, qs_run_became, qs_run_turned]
theorem X2_nameOf {g27 g36 : Int32} {f48 : Nat → Int32} : Md_nameOf (X2 x g27 g36 f48) = Md_nameOf x := by
  unfold X2
  rw [qs_nameOf_closedBy, qs_nameOf_secondName, qs_nameOf_firstName, qs_nameOf_became, qs_nameOf_turned]
theorem X2_endedBy {g27 g36 : Int32} {f48 : Nat → Int32} : Md_endedBy (X2 x g27 g36 f48) = Md_endedBy x := by
  unfold X2
  rw [qs_endedBy_closedBy, qs_endedBy_secondName, qs_endedBy_firstName, qs_endedBy_became, qs_endedBy_turned]
theorem X2_into {g27 g36 : Int32} {f48 : Nat → Int32} : Md_into (X2 x g27 g36 f48) = Md_into x := by
  unfold X2
  rw [qs_into_closedBy, qs_into_secondName, qs_into_firstName, qs_into_became, qs_into_turned]
theorem X2_most {g27 g36 : Int32} {f48 : Nat → Int32} : Md_most (X2 x g27 g36 f48) = Md_most x := by
  unfold X2
  rw [qs_most_closedBy, qs_most_secondName, qs_most_firstName, qs_most_became, qs_most_turned]
theorem X2_parent {g27 g36 : Int32} {f48 : Nat → Int32} : Md_parent (X2 x g27 g36 f48) = Md_parent x := by
  unfold X2
  rw [qs_parent_closedBy, qs_parent_secondName, qs_parent_firstName, qs_parent_became, qs_parent_turned]
theorem X2_up {g27 g36 : Int32} {f48 : Nat → Int32} : Md_up (X2 x g27 g36 f48) = Md_up x := by
  unfold X2
  rw [qs_up_closedBy, qs_up_secondName, qs_up_firstName, qs_up_became, qs_up_turned]
theorem X2_turned {g27 g36 : Int32} {f48 : Nat → Int32} : Md_turned (X2 x g27 g36 f48) = 0 := by
  unfold X2
  rw [qs_turned_closedBy, qs_turned_secondName, qs_turned_firstName, qs_turned_became, qs_turned_turned]
theorem X2_became {g27 g36 : Int32} {f48 : Nat → Int32} : Md_became (X2 x g27 g36 f48) = 1 := by
  unfold X2
  rw [qs_became_closedBy, qs_became_secondName, qs_became_firstName, qs_became_became]
theorem X2_firstName {g27 g36 : Int32} {f48 : Nat → Int32} : Md_firstName (X2 x g27 g36 f48) = g27 := by
  unfold X2
  rw [qs_firstName_closedBy, qs_firstName_secondName, qs_firstName_firstName]
theorem X2_secondName {g27 g36 : Int32} {f48 : Nat → Int32} : Md_secondName (X2 x g27 g36 f48) = g36 := by
  unfold X2
  rw [qs_secondName_closedBy, qs_secondName_secondName]
theorem X2_closedBy {g27 g36 : Int32} {f48 : Nat → Int32} : Md_closedBy (X2 x g27 g36 f48) = f48 := by
  unfold X2
  rw [qs_closedBy_closedBy]
theorem Fr_X2 {g27 g36 : Int32} {f48 : Nat → Int32} : Fr x (X2 x g27 g36 f48) := ⟨X2_n, X2_m, X2_state, X2_first, X2_second, X2_partRun, X2_partName, X2_partEnded, X2_partInto, X2_partMost, X2_run⟩
theorem X2_Lq {g27 g36 : Int32} {f48 : Nat → Int32} : Lq (X2 x g27 g36 f48) = (0, 1, g27, g36) := by
  unfold Lq
  rw [X2_turned, X2_became, X2_firstName, X2_secondName]
def comesR (X : MdS) (v1 g5 g12 : Int32) : Option MdS := (Md_m_landOf X g5).bind fun g51 => (Md_m_landOf X g12).bind fun g56 => if g51 = g56 then ((Md_m_blockAt X g5).bind fun g176 => (Md_m_blockAt X g12).bind fun g181 => if g176 = g181 then (some X) else ((Md_m_blockAt X g5).bind fun g190 => (Md_m_blockAt X g12).bind fun g195 => (Md_m_onWay X g190 g195).bind fun g198 => (Md_m_count X g198).bind fun g207 => (Md_m_shrinks (Md_set_became X g207) g198 v1).bind fun g217 => some g217)) else ((wr (Md_closedBy X) 64 v1 (-1)).bind fun f68 => (Md_m_landOf (Md_set_closedBy X f68) g5).bind fun g73 => (Md_m_sizeOf (Md_set_closedBy X f68) 1 g73).bind fun g76 => (Md_m_landOf (Md_set_closedBy X f68) g12).bind fun g85 => (Md_m_sizeOf (Md_set_closedBy X f68) 1 g85).bind fun g88 => if g76 < g88 then (Md_m_comes_j125 (Md_set_closedBy X f68) v1 g5 g12 1) else (if g76 = g88 then ((Md_m_landOf (Md_set_closedBy X f68) g5).bind fun g109 => (Md_m_landOf (Md_set_closedBy X f68) g12).bind fun g114 => if g109 ≤ g114 then (Md_m_comes_j125 (Md_set_closedBy X f68) v1 g5 g12 0) else (Md_m_comes_j125 (Md_set_closedBy X f68) v1 g5 g12 1)) else (Md_m_comes_j125 (Md_set_closedBy X f68) v1 g5 g12 0)))
theorem comes_eq {v1 : Int32} : Md_m_comes x v1 = (rd (Md_first x) 64 v1).bind fun g5 => (rd (Md_second x) 64 v1).bind fun g12 => (Md_m_blockAt (Md_set_became (Md_set_turned x 0) 1) g5).bind fun g27 => (Md_m_blockAt (Md_set_firstName (Md_set_became (Md_set_turned x 0) 1) g27) g12).bind fun g36 => (wr (Md_closedBy (Md_set_secondName (Md_set_firstName (Md_set_became (Md_set_turned x 0) 1) g27) g36)) 64 v1 v1).bind fun f48 => comesR (X2 x g27 g36 f48) v1 g5 g12 := by
  unfold Md_m_comes comesR X2
  rfl
end R8
