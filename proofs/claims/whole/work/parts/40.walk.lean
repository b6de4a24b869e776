/-! THEORY 1: links come one by one; lands by relabelling; the tree's way between two nodes, told by time -/
def ld (fa fb : Nat → Nat) : Nat → Nat → Nat
  | 0, v => v
  | k + 1, v => if ld fa fb k v = ld fa fb k (fb k) then ld fa fb k (fa k) else ld fa fb k v
def TL (fa fb : Nat → Nat) (k : Nat) : Prop := ¬ ld fa fb k (fa k) = ld fa fb k (fb k)
def pa (fa fb : Nat → Nat) : Nat → Nat → Nat → List (Nat × Nat)
  | 0, _, _ => []
  | k + 1, u, v =>
    if ld fa fb k (fa k) = ld fa fb k (fb k) then pa fa fb k u v
    else if ld fa fb k u = ld fa fb k (fa k) ∧ ld fa fb k v = ld fa fb k (fb k) then pa fa fb k u (fa k) ++ (k, fb k) :: pa fa fb k (fb k) v
    else if ld fa fb k u = ld fa fb k (fb k) ∧ ld fa fb k v = ld fa fb k (fa k) then pa fa fb k u (fb k) ++ (k, fa k) :: pa fa fb k (fa k) v
    else pa fa fb k u v
/-- link l has the ends u and y -/
def isE (fa fb : Nat → Nat) (l u y : Nat) : Prop := (fa l = u ∧ fb l = y) ∨ (fa l = y ∧ fb l = u)
theorem isE.symm {fa fb : Nat → Nat} {l u y : Nat} (h : isE fa fb l u y) : isE fa fb l y u := h.elim (fun q => Or.inr q) (fun q => Or.inl q)
/-- a walk from u to v along links of a kind: each step the link and the node it comes to -/
def isW (fa fb : Nat → Nat) (Z : Nat → Prop) : Nat → List (Nat × Nat) → Nat → Prop
  | u, [], v => u = v
  | u, s :: L, v => Z s.1 ∧ isE fa fb s.1 u s.2 ∧ isW fa fb Z s.2 L v
def lks (L : List (Nat × Nat)) : List Nat := L.map Prod.fst
/-- no link twice in a row -/
def red : List (Nat × Nat) → Prop
  | [] => True
  | [_] => True
  | a :: b :: L => a.1 ≠ b.1 ∧ red (b :: L)
section W1
variable {fa fb : Nat → Nat} {Z Z' : Nat → Prop} {u v x y : Nat} {L L1 L2 : List (Nat × Nat)}
theorem isW.mono (hz : ∀ l, l ∈ lks L → Z l → Z' l) (h : isW fa fb Z u L v) : isW fa fb Z' u L v := by
  induction L generalizing u with
  | nil => exact h
  | cons s L ih => exact ⟨hz _ (by simp [lks]) h.1, h.2.1, ih (fun l hl => hz l (by simp [lks] at hl ⊢; exact Or.inr hl)) h.2.2⟩
theorem isW.app (h1 : isW fa fb Z u L1 x) (h2 : isW fa fb Z x L2 v) : isW fa fb Z u (L1 ++ L2) v := by
  induction L1 generalizing u with
  | nil => cases h1; exact h2
  | cons s L ih => exact ⟨h1.1, h1.2.1, ih h1.2.2⟩
theorem isW.split (h : isW fa fb Z u (L1 ++ L2) v) : ∃ x, isW fa fb Z u L1 x ∧ isW fa fb Z x L2 v := by
  induction L1 generalizing u with
  | nil => exact ⟨u, rfl, h⟩
  | cons s L ih =>
    obtain ⟨x, h1, h2⟩ := ih h.2.2
    exact ⟨x, ⟨h.1, h.2.1, h1⟩, h2⟩
theorem isW.all (h : isW fa fb Z u L v) : ∀ l, l ∈ lks L → Z l := by
  induction L generalizing u with
  | nil => intro l hl; simp [lks] at hl
  | cons s L ih =>
    intro l hl
    simp only [lks, List.map_cons, List.mem_cons] at hl
    rcases hl with rfl | hl
    · exact h.1
    · exact ih h.2.2 l hl
theorem isW.one {l : Nat} (hz : Z l) (he : isE fa fb l u v) : isW fa fb Z u [(l, v)] v := ⟨hz, he, rfl⟩
/-- the walk back -/
def rvW : Nat → List (Nat × Nat) → List (Nat × Nat)
  | _, [] => []
  | u, s :: L => rvW s.2 L ++ [(s.1, u)]
theorem isW.rev (h : isW fa fb Z u L v) : isW fa fb Z v (rvW u L) u := by
  induction L generalizing u with
  | nil => cases h; rfl
  | cons s L ih => exact (ih h.2.2).app (isW.one h.1 h.2.1.symm)
theorem lks_app : lks (L1 ++ L2) = lks L1 ++ lks L2 := by simp [lks]
theorem lks_rv : lks (rvW u L) = (lks L).reverse := by
  induction L generalizing u with
  | nil => rfl
  | cons s L ih => simp only [rvW, lks_app, ih]; simp [lks]
theorem red_app_left (h : red (L1 ++ L2)) : red L1 := by
  induction L1 with
  | nil => trivial
  | cons a L ih =>
    cases L with
    | nil => trivial
    | cons b L => exact ⟨h.1, ih h.2⟩
theorem red_tail {a : Nat × Nat} (h : red (a :: L)) : red L := by
  cases L with
  | nil => trivial
  | cons b L => exact h.2
theorem red_app_right (h : red (L1 ++ L2)) : red L2 := by
  induction L1 with
  | nil => exact h
  | cons a L ih => exact ih (red_tail h)
theorem red_app (h1 : red L1) (h2 : red L2) (h : ∀ a b, L1.getLast? = some a → L2.head? = some b → a.1 ≠ b.1) : red (L1 ++ L2) := by
  induction L1 with
  | nil => exact h2
  | cons a L ih =>
    cases L with
    | nil =>
      cases L2 with
      | nil => trivial
      | cons b L2 => exact ⟨h a b rfl rfl, h2⟩
    | cons b L =>
      refine ⟨h1.1, ih h1.2 (fun x y hx hy => h x y ?_ hy)⟩
      rw [List.getLast?_cons_cons]; exact hx
/-- lands are closed under links that have come -/
theorem ld_mono {k j : Nat} (hkj : k ≤ j) (h : ld fa fb k u = ld fa fb k v) : ld fa fb j u = ld fa fb j v := by
  induction hkj with
  | refl => exact h
  | step _ ih => simp only [ld, ih]
theorem ld_link {k l : Nat} (h : l < k) : ld fa fb k (fa l) = ld fa fb k (fb l) := by
  refine ld_mono h ?_
  simp only [ld, if_true]
  by_cases c : ld fa fb l (fa l) = ld fa fb l (fb l)
  · simp [c]
  · simp [c]
theorem ld_E {k l : Nat} (h : l < k) (he : isE fa fb l u v) : ld fa fb k u = ld fa fb k v := by
  rcases he with ⟨rfl, rfl⟩ | ⟨rfl, rfl⟩
  · exact ld_link h
  · exact (ld_link h).symm
theorem isW_ld {k : Nat} (h : isW fa fb Z u L v) (hz : ∀ l, Z l → l < k) : ld fa fb k u = ld fa fb k v := by
  induction L generalizing u with
  | nil => cases h; rfl
  | cons s L ih => exact (ld_E (hz _ h.1) h.2.1).trans (ih h.2.2)
end W1
