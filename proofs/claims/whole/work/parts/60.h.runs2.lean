/-! REFERENCE 8: the replay -/
def Bg (x : MdS) (p u no en it mx : Nat → Int32) : MdS := U4 (Md_set_up (Md_set_parent x p) u) no en it mx
/-- what a replay from the start leaves, too -/
def Fr0 (x y : MdS) : Prop := Md_n y = Md_n x ∧ Md_m y = Md_m x ∧ Md_state y = Md_state x ∧ Md_first y = Md_first x ∧ Md_second y = Md_second x ∧ Md_partRun y = Md_partRun x ∧ Md_partName y = Md_partName x ∧ Md_partEnded y = Md_partEnded x ∧ Md_partInto y = Md_partInto x ∧ Md_partMost y = Md_partMost x
section R8
variable {fa fb : Nat → Nat} {n k m u v b c t y r a d e o T K : Nat} {x z : MdS} {L M : List (Nat × Nat)}
theorem Bg_0 : Bg x (Md_parent x) (Md_up x) (Md_nameOf x) (Md_endedBy x) (Md_into x) (Md_most x) = x := rfl
theorem Bg_1 {p u no en it mx f g : Nat → Int32} : Md_set_up (Md_set_parent (Bg x p u no en it mx) f) g = Bg x f g no en it mx := rfl
theorem Bg_2 {p u no en it mx f1 f2 f3 f4 : Nat → Int32} : Md_set_most (Md_set_into (Md_set_endedBy (Md_set_nameOf (Bg x p u no en it mx) f1) f2) f3) f4 = Bg x p u f1 f2 f3 f4 := rfl
theorem Bg_p {p u no en it mx : Nat → Int32} : Md_parent (Bg x p u no en it mx) = p := rfl
theorem Bg_u {p u no en it mx : Nat → Int32} : Md_up (Bg x p u no en it mx) = u := rfl
theorem Bg_u2 {p u no en it mx f : Nat → Int32} : Md_up (Md_set_parent (Bg x p u no en it mx) f) = u := rfl
theorem Bg_no {p u no en it mx : Nat → Int32} : Md_nameOf (Bg x p u no en it mx) = no := rfl
theorem Bg_en {p u no en it mx : Nat → Int32} : Md_endedBy (Bg x p u no en it mx) = en := rfl
theorem Bg_it {p u no en it mx : Nat → Int32} : Md_into (Bg x p u no en it mx) = it := rfl
theorem Bg_mx {p u no en it mx : Nat → Int32} : Md_most (Bg x p u no en it mx) = mx := rfl
theorem Bg_en2 {p u no en it mx f : Nat → Int32} : Md_endedBy (Md_set_nameOf (Bg x p u no en it mx) f) = en := rfl
theorem Bg_it2 {p u no en it mx f g : Nat → Int32} : Md_into (Md_set_endedBy (Md_set_nameOf (Bg x p u no en it mx) f) g) = it := rfl
theorem Bg_mx2 {p u no en it mx f g h : Nat → Int32} : Md_most (Md_set_into (Md_set_endedBy (Md_set_nameOf (Bg x p u no en it mx) f) g) h) = mx := rfl
theorem Fr0_of {y : MdS} (h : Fr x y) : Fr0 x y := by
  obtain ⟨a1, a2, a3, a4, a5, a6, a7, a8, a9, a10, a11⟩ := h
  exact ⟨a1, a2, a3, a4, a5, a6, a7, a8, a9, a10⟩
theorem Fr0_refl : Fr0 x x := ⟨rfl, rfl, rfl, rfl, rfl, rfl, rfl, rfl, rfl, rfl⟩
theorem Fr0_trans {y : MdS} (h1 : Fr0 x y) (h2 : Fr0 y z) : Fr0 x z := by
  obtain ⟨a1, a2, a3, a4, a5, a6, a7, a8, a9, a10⟩ := h1
  obtain ⟨b1, b2, b3, b4, b5, b6, b7, b8, b9, b10⟩ := h2
  exact ⟨b1.trans a1, b2.trans a2, b3.trans a3, b4.trans a4, b5.trans a5, b6.trans a6, b7.trans a7, b8.trans a8, b9.trans a9, b10.trans a10⟩
theorem Fr_Bg {p u no en it mx : Nat → Int32} : Fr x (Bg x p u no en it mx) := ⟨rfl, rfl, rfl, rfl, rfl, rfl, rfl, rfl, rfl, rfl, rfl⟩
theorem Fr0_run {f : Int32} : Fr0 x (Md_set_run x f) := ⟨rfl, rfl, rfl, rfl, rfl, rfl, rfl, rfl, rfl, rfl⟩
theorem Bg_run {p u no en it mx : Nat → Int32} : Md_run (Bg x p u no en it mx) = Md_run x := rfl
/-- names as at first, at some places -/
def Z4 (Q : Nat → Nat → Prop) (no en it mx : Nat → Int32) : Prop := ∀ v kd, v < 32 → kd ≤ 1 → Q v kd → (no (32 * kd + v)).toInt = (v : Int) ∧ (en (32 * kd + v)).toInt = -1 ∧ (it (32 * kd + v)).toInt = -1 ∧ (mx (32 * kd + v)).toInt = 1
theorem begins_ok (hn : n ≤ 32) : Ok (Md_m_begins x) (fun q => RefK n fa fb 0 q ∧ Fr0 x q ∧ (Md_run q).toInt = 0) := by
  unfold Md_m_begins
  refine Ok_for 32 (fun j y => ∃ p u no en it mx, y = Bg (Md_set_run x 0) p u no en it mx ∧ (∀ v, v < j → (p v).toInt = -1 ∧ (u v).toInt = -1) ∧ Z4 (fun v _ => v < j) no en it mx) (by omega) i32_0 ⟨_, _, _, _, _, _, Bg_0.symm, fun v hv => absurd hv (Nat.not_lt_zero v), fun v kd hv hk hq => absurd hq (Nat.not_lt_zero _)⟩ ?_ ?_
  · intro j y i hj hi ⟨p, u, no, en, it, mx, hy, hpu, hz⟩
    subst hy
    dsimp only [Md_m_begins_s7]
    refine Ok_ite (fun q => by rw [i32_le, i32_32] at q; omega) (fun _ => ?_)
    rw [Bg_p]
    refine Ok_wrb hi hj ?_
    rw [Bg_u2]
    refine Ok_wrb hi hj ?_
    rw [Bg_1]
    refine Ok_for 2 (fun kk y => ∃ no en it mx, y = Bg (Md_set_run x 0) (va_up p j (-1)) (va_up u j (-1)) no en it mx ∧ Z4 (fun v kd => v < j ∨ (v = j ∧ kd < kk)) no en it mx) (by omega) i32_0 ⟨no, en, it, mx, rfl, fun v kd hv hk hq => hz v kd hv hk (hq.elim (fun z => z) (fun z => absurd z.2 (Nat.not_lt_zero _)))⟩ ?_ ?_
    · intro kk y i2 hkk hi2 ⟨no, en, it, mx, hy, hz2⟩
      subst hy
      dsimp only [Md_m_begins_s29]
      refine Ok_ite (fun q => by rw [i32_le, i32_2] at q; omega) (fun _ => ?_)
      have hoff := off_ok hi2 (show kk ≤ 1 by omega) hi (show j < 1000 by omega)
      rw [Bg_no]
      refine Ok_wrb hoff (by omega) ?_
      rw [Bg_en2]
      refine Ok_wrb hoff (by omega) ?_
      rw [Bg_it2]
      refine Ok_wrb hoff (by omega) ?_
      rw [Bg_mx2]
      refine Ok_wrb hoff (by omega) ?_
      rw [Bg_2]
      refine Ok_some ⟨nx_s hi2 (by omega), _, _, _, _, rfl, fun v kd hv hk hq => ?_⟩
      by_cases e : 32 * kd + v = 32 * kk + j
      · have ev : v = j := by omega
        rw [e, vu_s, vu_s, vu_s, vu_s, ev]
        exact ⟨hi, i32_m1, i32_m1, i32_1⟩
      · rw [vu_n e, vu_n e, vu_n e, vu_n e]
        refine hz2 v kd hv hk ?_
        rcases hq with q | ⟨q1, q2⟩
        · exact Or.inl q
        · exact Or.inr ⟨q1, by omega⟩
    · intro y i2 hi2 ⟨no, en, it, mx, hy, hz2⟩
      subst hy
      dsimp only [Md_m_begins_s29]
      refine Ok_ite (fun _ => Ok_omap (Ok_some ⟨nx_s hi (by omega), _, _, no, en, it, mx, rfl, fun v hv => ?_, fun v kd hv hk hq => hz2 v kd hv hk ?_⟩)) (fun q => by rw [i32_le, i32_2] at q; omega)
      · by_cases e : v = j
        · rw [e, vu_s, vu_s]; exact ⟨i32_m1, i32_m1⟩
        · rw [vu_n e, vu_n e]; exact hpu v (by omega)
      · have hq2 : v < j + 1 := hq
        by_cases q : v < j
        · exact Or.inl q
        · exact Or.inr ⟨by omega, by omega⟩
  · intro y i hi ⟨p, u, no, en, it, mx, hy, hpu, hz⟩
    subst hy
    dsimp only [Md_m_begins_s7]
    refine Ok_ite (fun _ => Ok_omap (Ok_some ⟨⟨?_, ?_, ?_, fun l hl => absurd hl (Nat.not_lt_zero l)⟩, Fr0_trans Fr0_run (Fr0_of Fr_Bg), ?_⟩)) (fun q => by rw [i32_le, i32_32] at q; omega)
    · intro j hj
      rw [Bg_no, Bg_en, Bg_it, Bg_mx]
      exact hz j 0 (by omega) (by omega) (show j < 32 by omega)
    · intro j hj
      rw [Bg_no, Bg_en, Bg_it, Bg_mx]
      exact hz j 1 (by omega) (by omega) (show j < 32 by omega)
    · intro b hb hl
      rw [Bg_p, Bg_u]
      have : bup n fa fb 0 b = (-1, -1) := rfl
      rw [this]
      exact hpu b (by omega)
    · rw [Bg_run]; exact i32_0
end R8
