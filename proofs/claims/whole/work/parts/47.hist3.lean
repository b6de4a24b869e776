/-! THEORY 8: names of parts -/
section W8
variable {fa fb : Nat → Nat} {n k u v w x y t : Nat}
theorem NI_grow {N l : Nat} {s : NSt} (h : NI N s l) (h0 : N_of s N = N) (h1 : N_en s N = -1) (h2 : N_it s N = -1) (h3 : N_mx s N = 1) : NI (N + 1) s l := by
  obtain ⟨g1, g2, g3, g4⟩ := h
  have zero : ∀ m, m ≤ N → cntN m (N_of s) N = 0 := by
    intro m
    induction m with
    | zero => intro _; rfl
    | succ m ih =>
      intro hm
      unfold cntN
      have := (g1 m (by omega)).1
      rw [ih (by omega), if_neg (by omega)]
  refine ⟨fun v hv => ?_, fun b hb => ?_, fun b hb hr => ?_, fun b hb hr => ?_⟩
  · by_cases e : v = N
    · subst e; rw [h0]; exact ⟨by omega, h0⟩
    · have := g1 v (by omega); exact ⟨by omega, this.2⟩
  · by_cases e : b = N
    · subst e; exact ⟨fun _ => h0, fun _ => h1⟩
    · exact g2 b (by omega)
  · by_cases e : b = N
    · subst e
      refine ⟨?_, h2⟩
      unfold cntN
      rw [zero b (Nat.le_refl _), if_pos h0, h3]
    · have := g3 b (by omega) hr
      refine ⟨?_, this.2⟩
      unfold cntN
      rw [if_neg (by rw [h0]; exact fun q => e q.symm), this.1]
      rfl
  · by_cases e : b = N
    · subst e; exact absurd h0 hr
    · obtain ⟨e1, i, q1, q2, q3, q4, q5, q6⟩ := g4 b (by omega) hr
      exact ⟨e1, i, q1, q2, q3, by omega, q5, q6⟩
theorem hP_fresh : ∀ {k : Nat}, NI k (hP fa fb k) k ∧ ∀ j, k ≤ j → N_of (hP fa fb k) j = j ∧ N_en (hP fa fb k) j = -1 ∧ N_it (hP fa fb k) j = -1 ∧ N_mx (hP fa fb k) j = 1 := by
  intro k
  induction k with
  | zero => exact ⟨NI_0 0 0, fun j _ => ⟨rfl, rfl, rfl, rfl⟩⟩
  | succ k ih =>
    obtain ⟨h, hf⟩ := ih
    obtain ⟨f0, f1, f2, f3⟩ := hf k (Nat.le_refl _)
    have hg : NI (k + 1) (hP fa fb k) k := NI_grow h f0 f1 f2 f3
    unfold hP
    by_cases c : ld fa fb k (fa k) = ld fa fb k (fb k)
    · rw [if_pos c]
      have hS : sP fa fb (hP fa fb k) k k = true := by simp [sP]
      obtain ⟨K, h1, h2, -, h4⟩ := jn_some (N := k + 1) (s := hP fa fb k) (l := k) (by omega) hS
      rw [h4]
      have mem : ∀ b, sP fa fb (hP fa fb k) k b = true → b = k ∨ ∃ t, t < k ∧ N_of (hP fa fb k) t = b := by
        intro b hb
        simp only [sP, Bool.or_eq_true, beq_iff_eq] at hb
        rcases hb with hb | hb
        · exact Or.inl hb
        · obtain ⟨t, ht, he⟩ := List.any_eq_true.mp hb
          exact Or.inr ⟨t, pa_red.2 t ht, by simpa using he⟩
      refine ⟨NI_jnK hg h1 h2 (fun b hb hSb => ?_), fun j hj => ?_⟩
      · rcases mem b hSb with rfl | ⟨t, ht, rfl⟩
        · exact f0
        · exact (h.1 t ht).2
      · obtain ⟨q0, q1, q2, q3⟩ := hf j (by omega)
        have hn : ¬ sP fa fb (hP fa fb k) k j = true := by
          intro z
          rcases mem j z with e | ⟨t, ht, e⟩
          · omega
          · have := (h.1 t ht).1
            omega
        refine ⟨?_, ?_, ?_, ?_⟩
        · show (if sP fa fb (hP fa fb k) k (N_of (hP fa fb k) j) = true then K else N_of (hP fa fb k) j) = j
          rw [q0, if_neg hn]
        · show (if sP fa fb (hP fa fb k) k j = true ∧ j ≠ K then (k : Int) else N_en (hP fa fb k) j) = -1
          rw [if_neg (fun z => hn z.1), q1]
        · show (if sP fa fb (hP fa fb k) k j = true ∧ j ≠ K then (K : Int) else N_it (hP fa fb k) j) = -1
          rw [if_neg (fun z => hn z.1), q2]
        · show (if j = K then sumS (k + 1) (sP fa fb (hP fa fb k) k) (N_mx (hP fa fb k)) else N_mx (hP fa fb k) j) = 1
          rw [if_neg (by omega), q3]
    · rw [if_neg c]
      exact ⟨NI_mono hg (by omega), fun j hj => hf j (by omega)⟩
theorem prt_same {a b : Nat} (ha : a < k) (hb : b < k) : N_of (hP fa fb k) a = N_of (hP fa fb k) b ↔ pe fa fb k a = pe fa fb k b := by
  induction k generalizing a b with
  | zero => omega
  | succ k ih =>
    obtain ⟨h, hf⟩ := hP_fresh (fa := fa) (fb := fb) (k := k)
    obtain ⟨f0, -, -, -⟩ := hf k (Nat.le_refl _)
    have old : ∀ {a b : Nat}, a < k + 1 → b < k + 1 → (N_of (hP fa fb k) a = N_of (hP fa fb k) b ↔ (a = b ∨ (a < k ∧ b < k ∧ pe fa fb k a = pe fa fb k b))) := by
      intro a b ha hb
      by_cases ea : a = k
      · by_cases eb : b = k
        · rw [ea, eb]; exact ⟨fun _ => Or.inl rfl, fun _ => rfl⟩
        · have := (h.1 b (by omega)).1
          rw [ea, f0]
          constructor
          · intro q; omega
          · intro q
            rcases q with q | q
            · omega
            · omega
      · by_cases eb : b = k
        · have := (h.1 a (by omega)).1
          rw [eb, f0]
          constructor
          · intro q; omega
          · intro q
            rcases q with q | q
            · omega
            · omega
        · rw [ih (by omega) (by omega)]
          constructor
          · intro q; exact Or.inr ⟨by omega, by omega, q⟩
          · intro q
            rcases q with q | q
            · rw [q]
            · exact q.2.2
    unfold hP
    by_cases c : ld fa fb k (fa k) = ld fa fb k (fb k)
    · rw [if_pos c]
      have hS : sP fa fb (hP fa fb k) k k = true := by simp [sP]
      obtain ⟨K, h1, h2, -, h4⟩ := jn_some (N := k + 1) (s := hP fa fb k) (l := k) (by omega) hS
      rw [h4, jnK_same h2]
      have mem : ∀ {a : Nat}, a < k + 1 → (sP fa fb (hP fa fb k) k (N_of (hP fa fb k) a) = true ↔ pe fa fb (k + 1) a = k) := by
        intro a ha
        by_cases e : a = k
        · subst e
          rw [f0, pe_self]
          exact ⟨fun _ => rfl, fun _ => hS⟩
        · have hak : a < k := by omega
          rw [pe_hit hak]
          have hlt := (h.1 a hak).1
          simp only [sP, Bool.or_eq_true, beq_iff_eq]
          constructor
          · intro q
            rcases q with q | q
            · omega
            · obtain ⟨t, ht, he⟩ := List.any_eq_true.mp q
              have he : N_of (hP fa fb k) t = N_of (hP fa fb k) a := by simpa using he
              exact ⟨fun z => z c, t, ht, (ih (pa_red.2 t ht) hak).mp he⟩
          · intro ⟨_, t, ht, he⟩
            right
            exact List.any_eq_true.mpr ⟨t, ht, by simpa using (ih (pa_red.2 t ht) hak).mpr he⟩
      rw [mem ha, mem hb, old ha hb]
      have stay : ∀ {d : Nat}, d < k → pe fa fb (k + 1) d ≠ k → pe fa fb (k + 1) d = pe fa fb k d := by
        intro d hd hne
        rw [pe_succ] at hne ⊢
        rw [if_neg (by omega)] at hne ⊢
        split
        · rename_i q; rw [if_pos q] at hne; exact absurd rfl hne
        · rfl
      constructor
      · intro q
        rcases q with (q | q) | q
        · rw [q]
        · exact pe_mono q.1 q.2.1 q.2.2
        · exact q.1.trans q.2.symm
      · intro q
        by_cases ca : pe fa fb (k + 1) a = k
        · exact Or.inr ⟨ca, q.symm.trans ca⟩
        · have cb : pe fa fb (k + 1) b ≠ k := fun z => ca (q.trans z)
          have ea : a ≠ k := fun z => ca (by rw [z]; exact pe_self k)
          have eb : b ≠ k := fun z => cb (by rw [z]; exact pe_self k)
          left; right
          rw [stay (by omega) ca, stay (by omega) cb] at q
          exact ⟨by omega, by omega, q⟩
    · rw [if_neg c, old ha hb, pe_succ, pe_succ]
      have nn : ∀ d, ¬ (ld fa fb k (fa k) = ld fa fb k (fb k) ∧ (lks (pa fa fb k (fa k) (fb k))).any (fun t => pe fa fb k t == pe fa fb k d) = true) := fun d q => c q.1
      rw [if_neg (nn a), if_neg (nn b)]
      by_cases ea : a = k
      · by_cases eb : b = k
        · rw [if_pos ea, if_pos eb, ea, eb]; exact ⟨fun _ => rfl, fun _ => Or.inl rfl⟩
        · have := pe_lt (fa := fa) (fb := fb) (k := k) (l := b) (by omega)
          rw [if_pos ea, if_neg eb]
          constructor
          · intro q
            rcases q with q | q <;> omega
          · intro q; omega
      · by_cases eb : b = k
        · have := pe_lt (fa := fa) (fb := fb) (k := k) (l := a) (by omega)
          rw [if_neg ea, if_pos eb]
          constructor
          · intro q
            rcases q with q | q <;> omega
          · intro q; omega
        · rw [if_neg ea, if_neg eb]
          constructor
          · intro q
            rcases q with q | q
            · rw [q]
            · exact q.2.2
          · intro q; exact Or.inr ⟨by omega, by omega, q⟩
end W8
