/-! REFERENCE 15: laid parts are the parts -/
section R15
variable {fa fb : Nat → Nat} {n k m u v b c t y r a p f : Nat} {O : Nat → Prop} {P : Nat → Nat}
/-- two unlike links at a node, of one part -/
theorem SS_pe (hV : Vd fa fb n k) (hne : ∀ l, l < k → fa l ≠ fb l) (hO : ∀ l, ¬ O l) (ha : a < k) (hb : b < k) (hab : a ≠ b) {p q w : Nat} (ea : isE fa fb a w p) (eb : isE fa fb b w q) (h : pe fa fb k a = pe fa fb k b) (hS : ∀ a b, SS n fa fb k O a b → P a = P b) : P a = P b := by
  have nw : ∀ {l z}, l < k → isE fa fb l w z → z ≠ w := by
    intro l z hl he e
    rcases he with ⟨q1, q2⟩ | ⟨q1, q2⟩
    · exact hne l hl (by omega)
    · exact hne l hl (by omega)
  have key : ∀ {a b p q : Nat}, a < k → b < k → b < a → isE fa fb a w p → isE fa fb b w q → pe fa fb k a = pe fa fb k b → P a = P b := by
    intro a b p q ha hb hlt ea eb h
    have hR := (part_iff ha hb ea eb (nw ha ea) (nw hb eb)).mp h
    exact hS a b ⟨w, (isE_lt hV ha ea).1, hlt, ha, hO a, hO b, p, q, ea, eb, hR.mono (fun l hl => ⟨hl.1, hO l, fun z => by have := hl.2; unfold atN at z; omega⟩)⟩
  rcases Nat.lt_or_gt_of_ne hab with q1 | q1
  · exact (key hb ha q1 eb ea h.symm).symm
  · exact key ha hb q1 ea eb h
theorem ring_P (hV : Vd fa fb n k) (hne : ∀ l, l < k → fa l ≠ fb l) (hO : ∀ l, ¬ O l) (hS : ∀ a b, SS n fa fb k O a b → P a = P b) {Z : Nat → Prop} : ∀ (L : List (Nat × Nat)) (u v c c' : Nat), isW fa fb Z u L v → c < k → isE fa fb c u c' → pe fa fb k c = pe fa fb k f → P c = P f → (∀ t, t ∈ lks L → t < k ∧ pe fa fb k t = pe fa fb k f) → ∀ t, t ∈ lks L → P t = P f := by
  intro L
  induction L with
  | nil => intro u v c c' _ _ _ _ _ _ t ht; cases ht
  | cons s L ih =>
    intro u v c c' hW hc hE hp hP hall t ht
    obtain ⟨_, hs, hW⟩ := hW
    have h1 := hall s.1 (List.mem_cons_self ..)
    have hPs : P s.1 = P f := by
      by_cases e : s.1 = c
      · rw [e]; exact hP
      · exact (SS_pe hV hne hO h1.1 hc e hs hE (h1.2.trans hp.symm) hS).trans hP
    rcases List.mem_cons.mp ht with e | ht
    · rw [e]; exact hPs
    · exact ih s.2 v s.1 u hW h1.1 hs.symm h1.2 hPs (fun t ht => hall t (List.mem_cons_of_mem _ ht)) t ht
theorem laid_pe (hV : Vd fa fb n k) (hk : k ≤ 64) (hne : ∀ l, l < k → fa l ≠ fb l) (hO : ∀ l, ¬ O l) (hI : PI P (SS n fa fb k O)) (hS : ∀ a b, SS n fa fb k O a b → P a = P b) (ha : a < k) (hb : b < k) : P a = P b ↔ pe fa fb k a = pe fa fb k b := by
  constructor
  · intro h
    refine (hI.2 (fun l => pe fa fb k l = pe fa fb k b) ?_ a b (by omega) (by omega) h).mpr rfl
    intro x y ⟨w, hw, h1, h2, _, _, p, q, e1, e2, hR⟩
    have nw : ∀ {l z}, l < k → isE fa fb l w z → z ≠ w := by
      intro l z hl he e
      rcases he with ⟨q1, q2⟩ | ⟨q1, q2⟩
      · exact hne l hl (by omega)
      · exact hne l hl (by omega)
    have hxy := (part_iff h2 (by omega) e1 e2 (nw h2 e1) (nw (by omega) e2)).mpr (hR.mono (fun l hl => ⟨hl.1, fun z => hl.2.2 (Or.inl z), fun z => hl.2.2 (Or.inr z)⟩))
    show pe fa fb k x = pe fa fb k b ↔ pe fa fb k y = pe fa fb k b
    rw [hxy]
  · intro h
    refine (pe_fine (C := fun l => P l = P b) ?_ ha hb h).mpr rfl
    intro g hg hT t ht
    have hall : ∀ t, t ∈ lks (pa fa fb g (fa g) (fb g)) → t < k ∧ pe fa fb k t = pe fa fb k g := fun t ht => ⟨Nat.lt_trans (pa_red.2 t ht) hg, pe_ring hg hT (by rw [cov_pa hg hT]; exact ht)⟩
    have e := ring_P (f := g) hV hne hO hS _ (fa g) (fb g) g (fb g) (pa_W (nt_ld hT)) hg (Or.inl ⟨rfl, rfl⟩) rfl rfl hall t ht
    show P t = P b ↔ P g = P b
    rw [e]
end R15
