/-! REFERENCE 11: reaching out without another node, without another link -/
section R11
variable {fa fb : Nat → Nat} {n k m u v b c t y r : Nat} {x z : MdS}
theorem reachedWithout_ok (hV : Vd fa fb n k) (hn : n ≤ 32) (hk : k ≤ 64) (hu : u < n) (hf : ∀ l, l < k → (Md_first x l).toInt = (fa l : Int) ∧ (Md_second x l).toInt = (fb l : Int)) {w1 w2 wl wn wv : Int32} (h1 : w1.toInt = (u : Int)) (h2 : w2.toInt = (k : Int)) :
    Ok (Md_m_reachedWithout x w1 w2 wl wn wv) (fun q => ∀ j, j < 32 → (bt q j = true ↔ Rch fa fb (fun l => l < k ∧ (¬ Out fa fb wl.toInt wn.toInt l ∧ ¬ Out fa fb (-1) wv.toInt l)) u j)) := by
  unfold Md_m_reachedWithout
  refine reach_loop (S20 := fun was s i => Md_m_reachedWithout_s20 x w2 wl wn wv was s i) hV hn hk hu (bt_one h1 (by omega)) ?_ ?_
  · intro l was s i hl hi
    dsimp only [Md_m_reachedWithout_s20]
    have hl64 := Nat.lt_of_lt_of_le hl hk
    have hfl := hf l hl
    have hvl := hV l hl
    refine Ok_ite (fun q => by rw [i32_le] at q; omega) (fun _ => ?_)
    refine Ok_then (isOut_ok hi hl64 hfl) (fun g32 hg => Ok_ite (fun q => ?_) (fun q => ?_))
    · exact Ok_some ⟨s, rfl, Or.inr ⟨fun z => z.1.1 (hg.mp q), rfl⟩⟩
    · refine Ok_then (isOut_ok (wl := -1) (wn := wv) hi hl64 hfl) (fun g44 hg2 => Ok_ite (fun q0 => Ok_some ⟨s, rfl, Or.inr ⟨fun z => z.1.2 (hg2.mp q0), rfl⟩⟩) (fun q0 => ?_))
      have hz : (¬ Out fa fb wl.toInt wn.toInt l ∧ ¬ Out fa fb (-1) wv.toInt l) := ⟨fun z => q (hg.mpr z), fun z => q0 (hg2.mpr z)⟩
      have both : (bt s (fa l) = true ∨ bt s (fb l) = true) → Ok (Md_m_reachedWithout_j82 x w2 wl wn wv s was i) (fun q => ∃ s', q = Sum.inl (s', i + 1) ∧ (((¬ Out fa fb wl.toInt wn.toInt l ∧ ¬ Out fa fb (-1) wv.toInt l) ∧ (bt s (fa l) = true ∨ bt s (fb l) = true) ∧ ∀ j, j < 32 → (bt s' j = true ↔ bt s j = true ∨ j = fa l ∨ j = fb l)) ∨ (¬ ((¬ Out fa fb wl.toInt wn.toInt l ∧ ¬ Out fa fb (-1) wv.toInt l) ∧ (bt s (fa l) = true ∨ bt s (fb l) = true)) ∧ s' = s))) := by
        intro hor
        unfold Md_m_reachedWithout_j82
        refine Ok_rdb hi hl64 (Ok_rdb hi hl64 (Ok_some ⟨_, rfl, Or.inl ⟨hz, hor, fun j hj => bt_or2 hfl.1 (by omega) hfl.2 (by omega) hj⟩⟩))
      refine Ok_rdb hi hl64 (Ok_eqb (has_ok hfl.1 (by omega)) (Ok_ite (fun q2 => both (Or.inl q2)) (fun q2 => ?_)))
      refine Ok_rdb hi hl64 (Ok_eqb (has_ok hfl.2 (by omega)) (Ok_ite (fun q3 => both (Or.inr q3)) (fun q3 => ?_)))
      exact Ok_some ⟨s, rfl, Or.inr ⟨fun z => z.2.elim q2 q3, rfl⟩⟩
  · intro was s i hi
    dsimp only [Md_m_reachedWithout_s20]
    rw [if_pos (by rw [i32_le]; omega)]
    by_cases e : was = s
    · rw [if_pos e, if_pos e]; rfl
    · rw [if_neg e, if_neg e]; rfl
theorem reachedBut_ok (hV : Vd fa fb n k) (hn : n ≤ 32) (hk : k ≤ 64) (hu : u < n) (hf : ∀ l, l < k → (Md_first x l).toInt = (fa l : Int) ∧ (Md_second x l).toInt = (fb l : Int)) {w1 wl wn wv : Int32} (h1 : w1.toInt = (u : Int)) (h2 : (Md_m x).toInt = (k : Int)) :
    Ok (Md_m_reachedBut x w1 wv wl wn) (fun q => ∀ j, j < 32 → (bt q j = true ↔ Rch fa fb (fun l => l < k ∧ ((l : Int) ≠ wv.toInt ∧ ¬ Out fa fb wl.toInt wn.toInt l)) u j)) := by
  unfold Md_m_reachedBut
  refine reach_loop (S20 := fun was s i => Md_m_reachedBut_s20 x wv wl wn was s i) hV hn hk hu (bt_one h1 (by omega)) ?_ ?_
  · intro l was s i hl hi
    dsimp only [Md_m_reachedBut_s20]
    have hl64 := Nat.lt_of_lt_of_le hl hk
    have hfl := hf l hl
    have hvl := hV l hl
    refine Ok_ite (fun q => by rw [i32_le] at q; omega) (fun _ => ?_)
    refine Ok_ite (fun q0 => ?_) (fun q0 => ?_)
    · rw [i32_eq, hi] at q0
      exact Ok_some ⟨s, rfl, Or.inr ⟨fun z => z.1.1 q0, rfl⟩⟩
    rw [i32_eq, hi] at q0
    refine Ok_then (isOut_ok hi hl64 hfl) (fun g32 hg => Ok_ite (fun q => ?_) (fun q => ?_))
    · exact Ok_some ⟨s, rfl, Or.inr ⟨fun z => z.1.2 (hg.mp q), rfl⟩⟩
    · have hz : ((l : Int) ≠ wv.toInt ∧ ¬ Out fa fb wl.toInt wn.toInt l) := ⟨q0, fun z => q (hg.mpr z)⟩
      have both : (bt s (fa l) = true ∨ bt s (fb l) = true) → Ok (Md_m_reachedBut_j79 x wv wl wn s was i) (fun q => ∃ s', q = Sum.inl (s', i + 1) ∧ ((((l : Int) ≠ wv.toInt ∧ ¬ Out fa fb wl.toInt wn.toInt l) ∧ (bt s (fa l) = true ∨ bt s (fb l) = true) ∧ ∀ j, j < 32 → (bt s' j = true ↔ bt s j = true ∨ j = fa l ∨ j = fb l)) ∨ (¬ (((l : Int) ≠ wv.toInt ∧ ¬ Out fa fb wl.toInt wn.toInt l) ∧ (bt s (fa l) = true ∨ bt s (fb l) = true)) ∧ s' = s))) := by
        intro hor
        unfold Md_m_reachedBut_j79
        refine Ok_rdb hi hl64 (Ok_rdb hi hl64 (Ok_some ⟨_, rfl, Or.inl ⟨hz, hor, fun j hj => bt_or2 hfl.1 (by omega) hfl.2 (by omega) hj⟩⟩))
      refine Ok_rdb hi hl64 (Ok_eqb (has_ok hfl.1 (by omega)) (Ok_ite (fun q2 => both (Or.inl q2)) (fun q2 => ?_)))
      refine Ok_rdb hi hl64 (Ok_eqb (has_ok hfl.2 (by omega)) (Ok_ite (fun q3 => both (Or.inr q3)) (fun q3 => ?_)))
      exact Ok_some ⟨s, rfl, Or.inr ⟨fun z => z.2.elim q2 q3, rfl⟩⟩
  · intro was s i hi
    dsimp only [Md_m_reachedBut_s20]
    rw [if_pos (by rw [i32_le]; omega)]
    by_cases e : was = s
    · rw [if_pos e, if_pos e]; rfl
    · rw [if_neg e, if_neg e]; rfl
end R11
