/-! THEORY 2: the tree's way is the one reduced walk along tree links -/
abbrev TZ (fa fb : Nat → Nat) (k : Nat) : Nat → Prop := fun l => l < k ∧ TL fa fb l
section W2
variable {fa fb : Nat → Nat} {Z : Nat → Prop} {k u v x y : Nat} {L L1 L2 : List (Nat × Nat)}
theorem pa_W : ∀ {k u v : Nat}, ld fa fb k u = ld fa fb k v → isW fa fb (TZ fa fb k) u (pa fa fb k u v) v := by
  intro k
  induction k with
  | zero => intro u v h; exact h
  | succ k ih =>
    have up : ∀ {u v : Nat}, isW fa fb (TZ fa fb k) u (pa fa fb k u v) v → isW fa fb (TZ fa fb (k + 1)) u (pa fa fb k u v) v := fun h => h.mono (fun l _ q => ⟨by have := q.1; omega, q.2⟩)
    intro u v h
    unfold pa
    by_cases c : ld fa fb k (fa k) = ld fa fb k (fb k)
    · rw [if_pos c]
      refine up (ih ?_)
      simp only [ld] at h
      by_cases c1 : ld fa fb k u = ld fa fb k (fb k)
      · by_cases c2 : ld fa fb k v = ld fa fb k (fb k)
        · exact c1.trans c2.symm
        · rw [if_pos c1, if_neg c2] at h; exact c1.trans (c.symm.trans h)
      · by_cases c2 : ld fa fb k v = ld fa fb k (fb k)
        · rw [if_neg c1, if_pos c2] at h; exact h.trans (c.trans c2.symm)
        · rw [if_neg c1, if_neg c2] at h; exact h
    · rw [if_neg c]
      by_cases c1 : ld fa fb k u = ld fa fb k (fa k) ∧ ld fa fb k v = ld fa fb k (fb k)
      · rw [if_pos c1]
        exact (up (ih c1.1)).app ⟨⟨by omega, c⟩, Or.inl ⟨rfl, rfl⟩, up (ih c1.2.symm)⟩
      · rw [if_neg c1]
        by_cases c2 : ld fa fb k u = ld fa fb k (fb k) ∧ ld fa fb k v = ld fa fb k (fa k)
        · rw [if_pos c2]
          exact (up (ih c2.1)).app ⟨⟨by omega, c⟩, Or.inr ⟨rfl, rfl⟩, up (ih c2.2.symm)⟩
        · rw [if_neg c2]
          refine up (ih ?_)
          simp only [ld] at h
          by_cases d1 : ld fa fb k u = ld fa fb k (fb k)
          · by_cases d2 : ld fa fb k v = ld fa fb k (fb k)
            · exact d1.trans d2.symm
            · rw [if_pos d1, if_neg d2] at h; exact absurd ⟨d1, h.symm⟩ c2
          · by_cases d2 : ld fa fb k v = ld fa fb k (fb k)
            · rw [if_neg d1, if_pos d2] at h; exact absurd ⟨h, d2⟩ c1
            · rw [if_neg d1, if_neg d2] at h; exact h
theorem pa_self : ∀ {k : Nat} (u : Nat), pa fa fb k u u = [] := by
  intro k
  induction k with
  | zero => intro u; rfl
  | succ k ih =>
    intro u
    unfold pa
    by_cases c : ld fa fb k (fa k) = ld fa fb k (fb k)
    · rw [if_pos c]; exact ih u
    · rw [if_neg c, if_neg (fun q => c (q.1.symm.trans q.2)), if_neg (fun q => c (q.2.symm.trans q.1))]; exact ih u
/-- a list that holds a link, cut at the first place of it -/
theorem cut_at {l : Nat} : ∀ {L : List (Nat × Nat)}, l ∈ lks L → ∃ L1 y L2, L = L1 ++ (l, y) :: L2 ∧ l ∉ lks L1 := by
  intro L
  induction L with
  | nil => intro h; simp [lks] at h
  | cons s L ih =>
    intro h
    by_cases c : s.1 = l
    · exact ⟨[], s.2, L, by rw [← c]; rfl, by simp [lks]⟩
    · have h' : l ∈ lks L := by
        simp only [lks, List.map_cons, List.mem_cons] at h
        rcases h with h | h
        · exact absurd h.symm c
        · exact h
      obtain ⟨L1, y, L2, h1, h2⟩ := ih h'
      refine ⟨s :: L1, y, L2, by rw [h1]; rfl, ?_⟩
      simp only [lks, List.map_cons, List.mem_cons, not_or]
      exact ⟨fun q => c q.symm, h2⟩
theorem TZ_down {k : Nat} {L : List (Nat × Nat)} (h : isW fa fb (TZ fa fb (k + 1)) u L v) (hn : k ∉ lks L) : isW fa fb (TZ fa fb k) u L v :=
  h.mono (fun l hl q => ⟨by
    have h1 := q.1
    have h2 : l ≠ k := fun e => hn (e ▸ hl)
    omega, q.2⟩)
theorem pa_uniq : ∀ {k u v : Nat} {L : List (Nat × Nat)}, isW fa fb (TZ fa fb k) u L v → red L → L = pa fa fb k u v := by
  intro k
  induction k with
  | zero =>
    intro u v L h _
    cases L with
    | nil => rfl
    | cons s L => exact absurd h.1.1 (by omega)
  | succ k ih =>
    intro u v L h hr
    have ldk : ∀ {a b : Nat} {M : List (Nat × Nat)}, isW fa fb (TZ fa fb k) a M b → ld fa fb k a = ld fa fb k b := fun hM => isW_ld hM (fun l q => q.1)
    by_cases hk : k ∈ lks L
    · have hT : TL fa fb k := (h.all k hk).2
      obtain ⟨M1, y, M2, rfl, hM1⟩ := cut_at hk
      obtain ⟨z, h1, h2⟩ := h.split
      have w1 := TZ_down h1 hM1
      have e1 := ih w1 (red_app_left hr)
      have hr2 := red_app_right hr
      have hM2 : k ∉ lks M2 := by
        intro q
        obtain ⟨M3, y', M4, rfl, hM3⟩ := cut_at q
        obtain ⟨z', g1, g2⟩ := h2.2.2.split
        have w3 := TZ_down g1 hM3
        have l3 := ldk w3
        have hyz : z' = y := by
          rcases h2.2.1 with ⟨a1, a2⟩ | ⟨a1, a2⟩ <;> rcases g2.2.1 with ⟨b1, b2⟩ | ⟨b1, b2⟩
          · dsimp only at a1 a2 b1 b2; subst a2 b1; exact absurd l3.symm hT
          · dsimp only at a1 a2 b1 b2; subst a2 b2; rfl
          · dsimp only at a1 a2 b1 b2; subst a1 b1; rfl
          · dsimp only at a1 a2 b1 b2; subst a1 b2; exact absurd l3 hT
        subst hyz
        have e3 := ih w3 (red_app_left (red_tail hr2))
        rw [pa_self] at e3
        subst e3
        exact hr2.1 rfl
      have w2 := TZ_down h2.2.2 hM2
      have e2 := ih w2 (red_tail hr2)
      have l1 := ldk w1
      have l2 := ldk w2
      unfold pa
      rw [if_neg hT]
      rcases h2.2.1 with ⟨a1, a2⟩ | ⟨a1, a2⟩
      · dsimp only at a1 a2 w2 l2 e2; subst a1 a2
        rw [if_pos ⟨l1, l2.symm⟩, ← e1, ← e2]
      · dsimp only at a1 a2 w2 l2 e2; subst a1 a2
        rw [if_neg (fun q => hT (q.1.symm.trans l1)), if_pos ⟨l1, l2.symm⟩, ← e1, ← e2]
    · have w := TZ_down h hk
      have e := ih w hr
      have l := ldk w
      unfold pa
      by_cases c : ld fa fb k (fa k) = ld fa fb k (fb k)
      · rw [if_pos c]; exact e
      · rw [if_neg c, if_neg (fun q => c (q.1.symm.trans (l.trans q.2))), if_neg (fun q => c (q.2.symm.trans (l.symm.trans q.1)))]; exact e
theorem pa_red : ∀ {k u v : Nat}, red (pa fa fb k u v) ∧ ∀ l ∈ lks (pa fa fb k u v), l < k := by
  intro k
  induction k with
  | zero => intro u v; exact ⟨trivial, fun l h => by simp [pa, lks] at h⟩
  | succ k ih =>
    intro u v
    have join : ∀ (x y w z : Nat), red (pa fa fb k x y ++ (k, w) :: pa fa fb k w z) ∧ ∀ l ∈ lks (pa fa fb k x y ++ (k, w) :: pa fa fb k w z), l < k + 1 := by
      intro x y w z
      constructor
      · refine red_app ih.1 ?_ ?_
        · cases hp : pa fa fb k w z with
          | nil => trivial
          | cons s M =>
            have h2 := (ih (u := w) (v := z)).2
            rw [hp] at h2
            have h3 := (ih (u := w) (v := z)).1
            rw [hp] at h3
            have := h2 s.1 (by simp [lks])
            exact ⟨by show k ≠ s.1; omega, h3⟩
        · intro a b ha hb
          have hm : a.1 ∈ lks (pa fa fb k x y) := List.mem_map.mpr ⟨a, List.mem_of_getLast? ha, rfl⟩
          have := ih.2 _ hm
          cases hb
          show a.1 ≠ k
          omega
      · intro l hl
        rw [lks_app, List.mem_append] at hl
        rcases hl with hl | hl
        · have := ih.2 l hl; omega
        · simp only [lks, List.map_cons, List.mem_cons] at hl
          rcases hl with rfl | hl
          · omega
          · have := ih.2 l hl; omega
    have low : ∀ (x y : Nat), red (pa fa fb k x y) ∧ ∀ l ∈ lks (pa fa fb k x y), l < k + 1 := fun x y => ⟨ih.1, fun l hl => by have := ih.2 l hl; omega⟩
    unfold pa
    split
    · exact low u v
    · split
      · exact join _ _ _ _
      · split
        · exact join _ _ _ _
        · exact low u v
/-- the way of later times is the same -/
theorem pa_later {j : Nat} (h : ld fa fb k u = ld fa fb k v) (hj : k ≤ j) : pa fa fb j u v = pa fa fb k u v :=
  (pa_uniq ((pa_W h).mono (fun _ _ q => ⟨Nat.lt_of_lt_of_le q.1 hj, q.2⟩)) pa_red.1).symm
end W2
