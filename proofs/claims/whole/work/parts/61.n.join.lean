/-! REFERENCE 23: the best name is the history's -/
section R23
variable {fa fb : Nat → Nat} {k B : Nat} {W : Nat → Prop}
theorem best_tree (hW : ∀ q, q < k → (W q ↔ pe fa fb (k + 1) q = pe fa fb (k + 1) k)) (h : BestP k W (N_of (hP fa fb k)) (fun b => cnt (fun l => N_of (hP fa fb k) l = b) (k + 1)) k B) (hT : TL fa fb k) : B = k := by
  rcases h.1 with e | ⟨q, hq, hw, _⟩
  · exact e
  · exact absurd ((hW q hq).mp hw) (sP_no hq hT)
theorem best_ring (hW : ∀ q, q < k → (W q ↔ pe fa fb (k + 1) q = pe fa fb (k + 1) k)) (h : BestP k W (N_of (hP fa fb k)) (fun b => cnt (fun l => N_of (hP fa fb k) l = b) (k + 1)) k B) (hT : ¬ TL fa fb k) :
    sP fa fb (hP fa fb k) k B = true ∧ hP fa fb (k + 1) = jnK (k + 1) (hP fa fb k) (sP fa fb (hP fa fb k) k) k B := by
  have hSk : sP fa fb (hP fa fb k) k k = true := by simp [sP]
  have hSB : sP fa fb (hP fa fb k) k B = true := by
    rcases h.1 with e | ⟨q, hq, hw, e⟩
    · rw [e]; exact hSk
    · rw [← e]; exact (sP_iff hq hT).mp ((hW q hq).mp hw)
  obtain ⟨K, h1, h2, h3, h4⟩ := jn_some (N := k + 1) (s := hP fa fb k) (l := k) (Nat.lt_succ_self k) hSk
  have sz : ∀ b, sP fa fb (hP fa fb k) k b = true → cnt (fun l => N_of (hP fa fb k) l = b) (k + 1) = N_mx (hP fa fb k) b := fun b hb => szP (sP_root hb).1 (sP_root hb).2
  have hBK : B = K := by
    refine best_kpr h3 (sP_root hSB).1 hSB (fun b hb hS => ?_)
    rw [← sz b hS, ← sz B hSB]
    by_cases e : b = k
    · rw [e]; exact h.2.1
    · have hS' := hS
      simp only [sP, Bool.or_eq_true, List.any_eq_true, beq_iff_eq] at hS'
      rcases hS' with z | ⟨t, ht, z⟩
      · exact absurd z e
      · have htk := pa_red.2 t ht
        rw [← z]
        exact h.2.2 t htk ((hW t htk).mpr ((sP_iff htk hT).mpr (by rw [z]; exact hS)))
  refine ⟨hSB, ?_⟩
  rw [hBK, ← h4]
  show (if ld fa fb k (fa k) = ld fa fb k (fb k) then _ else _) = _
  rw [if_pos (nt_ld hT)]
end R23
