/-! THEORY 9: two rows of the same things in the same order are the same row -/
def bef (L : List Nat) (x y : Nat) : Prop := ∃ A B C, L = A ++ x :: B ++ y :: C
theorem rows_eq : ∀ {A B : List Nat}, A.Nodup → B.Nodup → (∀ x, x ∈ A ↔ x ∈ B) → (∀ x y, bef A x y → bef B y x → False) → A = B := by
  intro A
  induction A with
  | nil =>
    intro B _ _ hm _
    cases B with
    | nil => rfl
    | cons b B => exact absurd ((hm b).mpr List.mem_cons_self) List.not_mem_nil
  | cons a A ih =>
    intro B hA hB hm ho
    cases B with
    | nil => exact absurd ((hm a).mp List.mem_cons_self) List.not_mem_nil
    | cons b B =>
      have hA' := List.nodup_cons.mp hA
      have hB' := List.nodup_cons.mp hB
      have hab : a = b := by
        refine Classical.byContradiction fun hne => ?_
        have h1 : a ∈ B := by
          have := (hm a).mp List.mem_cons_self
          rcases List.mem_cons.mp this with q | q
          · exact absurd q hne
          · exact q
        have h2 : b ∈ A := by
          have := (hm b).mpr List.mem_cons_self
          rcases List.mem_cons.mp this with q | q
          · exact absurd q.symm hne
          · exact q
        obtain ⟨A1, A2, e1⟩ := List.append_of_mem h2
        obtain ⟨B1, B2, e2⟩ := List.append_of_mem h1
        exact ho a b ⟨[], A1, A2, by rw [e1]; rfl⟩ ⟨[], B1, B2, by rw [e2]; rfl⟩
      subst hab
      rw [ih hA'.2 hB'.2 (fun x => ?_) (fun x y h1 h2 => ?_)]
      · constructor
        · intro h
          have := (hm x).mp (List.mem_cons_of_mem _ h)
          rcases List.mem_cons.mp this with q | q
          · subst q; exact absurd h hA'.1
          · exact q
        · intro h
          have := (hm x).mpr (List.mem_cons_of_mem _ h)
          rcases List.mem_cons.mp this with q | q
          · subst q; exact absurd h hB'.1
          · exact q
      · obtain ⟨P, Q, R, e⟩ := h1
        obtain ⟨P2, Q2, R2, e2⟩ := h2
        exact ho x y ⟨a :: P, Q, R, by rw [e]; rfl⟩ ⟨a :: P2, Q2, R2, by rw [e2]; rfl⟩
