/-! REFERENCE 21: which names the new part takes -/
section R21
variable {fa fb : Nat → Nat} {k q B K : Nat} {sz : Nat → Nat} {S : Nat → Bool}
theorem best_kpr (hK : kpr sz S (k + 1) = some K) (hb : B < k + 1) (hS : S B = true) (h : ∀ b, b < k + 1 → S b = true → sz b < sz B ∨ (sz b = sz B ∧ B ≤ b)) : B = K := by
  have h1 := kpr_best hK B hb hS
  obtain ⟨h2, h3⟩ := kpr_mem hK
  have h4 := h K h2 h3
  generalize sz B = s1 at *
  generalize sz K = s2 at *
  omega
theorem sP_iff (hq : q < k) (hT : ¬ TL fa fb k) : pe fa fb (k + 1) q = pe fa fb (k + 1) k ↔ sP fa fb (hP fa fb k) k (N_of (hP fa fb k) q) = true := by
  rw [pe_self, pe_hit hq]
  simp only [sP, Bool.or_eq_true, List.any_eq_true, beq_iff_eq]
  constructor
  · intro ⟨_, t, ht, e⟩
    exact Or.inr ⟨t, ht, (prt_same (pa_red.2 t ht) hq).mpr e⟩
  · intro h
    rcases h with h | ⟨t, ht, e⟩
    · have := ((hP_fresh (fa := fa) (fb := fb) (k := k)).1.1 q hq).1
      omega
    · exact ⟨hT, t, ht, (prt_same (pa_red.2 t ht) hq).mp e⟩
theorem sP_no (hq : q < k) (hT : TL fa fb k) : pe fa fb (k + 1) q ≠ pe fa fb (k + 1) k := by
  intro h
  rw [pe_self, pe_hit hq] at h
  exact h.1 hT
end R21
