/-! REFERENCE 22: how many links bear a name -/
section R22
variable {fa fb : Nat → Nat} {k b : Nat}
theorem szP (hb : b < k + 1) (hr : N_of (hP fa fb k) b = b) : cnt (fun l => N_of (hP fa fb k) l = b) (k + 1) = N_mx (hP fa fb k) b := by
  obtain ⟨h, hf⟩ := hP_fresh (fa := fa) (fb := fb) (k := k)
  obtain ⟨f0, -, -, f3⟩ := hf k (Nat.le_refl k)
  by_cases e : b = k
  · subst e
    rw [cnt_t (P := fun l => N_of (hP fa fb b) l = b) f0, f3, cnt_none (fun l hl z => by have h9 := (h.1 l hl).1; have z' : N_of (hP fa fb b) l = b := z; omega)]
  · have hbk : b < k := by omega
    rw [cnt_f (P := fun l => N_of (hP fa fb k) l = b) (fun z => e (Eq.symm (f0.symm.trans z))), (h.2.2.1 b hbk hr).1, cntN_cnt]
theorem sP_root (h2 : sP fa fb (hP fa fb k) k b = true) : b < k + 1 ∧ N_of (hP fa fb k) b = b := by
  obtain ⟨h, hf⟩ := hP_fresh (fa := fa) (fb := fb) (k := k)
  obtain ⟨f0, -, -, -⟩ := hf k (Nat.le_refl k)
  simp only [sP, Bool.or_eq_true, List.any_eq_true, beq_iff_eq] at h2
  rcases h2 with h2 | ⟨t, ht, e⟩
  · subst h2; exact ⟨Nat.lt_succ_self _, f0⟩
  · have htk := pa_red.2 t ht
    have h3 := h.1 t htk
    rw [e] at h3
    exact ⟨by omega, h3.2⟩
end R22
