/-! REFERENCE 30: the fewest links -/
/-- the links that count, without one -/
def ZW (m : Nat) (wo : Int) (l : Nat) : Prop := l < m ∧ (l : Int) ≠ wo
section R30
variable {fa fb : Nat → Nat} {n k m u v b c l t p : Nat} {x y : MdS} {wo : Int32}
theorem steps_ok {w1 w2 : Int32} (hV : Vd fa fb n m) (hn : n ≤ 32) (hm : m ≤ 64) (hmm : (Md_m y).toInt = (m : Int)) (hf : ∀ l, l < m → (Md_first y l).toInt = (fa l : Int) ∧ (Md_second y l).toInt = (fb l : Int)) (h1 : w1.toInt = (u : Int)) (h2 : w2.toInt = (v : Int)) (hu : u < n) (hv : v < n) :
    Ok (Md_m_steps y w1 w2 wo) (fun r => r.toInt = (dsn fa fb (ZW m wo.toInt) u v : Int)) := by
  unfold Md_m_steps
  have hd := lea_spec (P := fun j => Rk fa fb (ZW m wo.toInt) j u v) (n := 33)
  refine Ok_upto (fun k p => p.2.toInt = (k : Int) ∧ ∀ j, j < 32 → (bt p.1 j = true ↔ Rk fa fb (ZW m wo.toInt) k u j)) (e := dsn fa fb (ZW m wo.toInt) u v) (by unfold dsn; omega) ⟨i32_0, fun j hj => by rw [bt_one h1 (by omega) j hj, Rk_0]; exact eq_comm⟩ ?_ ?_
  · intro k ⟨s, c⟩ hk ⟨hc, hs⟩
    dsimp only [Md_m_steps_s8] at *
    have hk33 : k < 33 := by unfold dsn at hk; omega
    refine Ok_eqb (has_ok h2 (by omega)) (Ok_ite (fun q => absurd ((hs v (by omega)).mp q) (hd.2.2 k hk)) (fun _ => Ok_ite (fun q => by rw [i32_lt, i32_32] at q; omega) (fun _ => ?_)))
    refine Ok_for (ρ := (Int32 × Int32) ⊕ Int32) m (fun l s2 => ∀ j, j < 32 → (bt s2 j = true ↔ bt s j = true ∨ ∃ l', l' < l ∧ (l' : Int) ≠ wo.toInt ∧ ((bt s (fa l') = true ∧ fb l' = j) ∨ (bt s (fb l') = true ∧ fa l' = j)))) (by omega) i32_0 (fun j _ => ⟨Or.inl, fun z => z.elim id (fun ⟨l, hl, _⟩ => absurd hl (Nat.not_lt_zero l))⟩) ?_ ?_
    · intro l s2 i hl hi hI
      dsimp only [Md_m_steps_s32]
      have hfl := hf l hl
      have hvl := hV l hl
      have fin : ∀ s3 : Int32, (∀ j, j < 32 → (bt s3 j = true ↔ bt s2 j = true ∨ ((l : Int) ≠ wo.toInt ∧ ((bt s (fa l) = true ∧ fb l = j) ∨ (bt s (fb l) = true ∧ fa l = j))))) → ∀ j, j < 32 → (bt s3 j = true ↔ bt s j = true ∨ ∃ l', l' < l + 1 ∧ (l' : Int) ≠ wo.toInt ∧ ((bt s (fa l') = true ∧ fb l' = j) ∨ (bt s (fb l') = true ∧ fa l' = j))) := by
        intro s3 h3 j hj
        rw [h3 j hj, hI j hj]
        constructor
        · intro z
          rcases z with (z | ⟨l', a, z⟩) | z
          · exact Or.inl z
          · exact Or.inr ⟨l', by omega, z⟩
          · exact Or.inr ⟨l, Nat.lt_succ_self l, z⟩
        · intro z
          rcases z with z | ⟨l', a, z⟩
          · exact Or.inl (Or.inl z)
          · by_cases e : l' = l
            · rw [e] at z; exact Or.inr z
            · exact Or.inl (Or.inr ⟨l', by omega, z⟩)
      refine Ok_ite (fun q => by rw [i32_le] at q; omega) (fun _ => Ok_ieq hi rfl (fun e => Ok_some ⟨nx_s hi (by omega), fin s2 (fun j hj => ⟨Or.inl, fun z => z.elim id (fun z => absurd e z.1)⟩)⟩) (fun e => ?_))
      have bt1 : ∀ (a : Int32) (g : Int32) (d j : Nat), g.toInt = (d : Int) → d < 32 → j < 32 → (bt (a ||| (1 <<< (g &&& 31))) j = true ↔ bt a j = true ∨ d = j) := by
        intro a g d j hg hd hj
        rw [b_or, Bool.or_eq_true, bt_one hg hd j hj]
        exact ⟨fun z => z.imp id Eq.symm, fun z => z.imp id Eq.symm⟩
      have second : ∀ s3 : Int32, (∀ j, j < 32 → (bt s3 j = true ↔ bt s2 j = true ∨ (bt s (fa l) = true ∧ fb l = j))) → Ok (Md_m_steps_j80 y w2 wo s c s3 i) (LR (fun p => p.2.toInt = ((l + 1 : Nat) : Int) ∧ ∀ j, j < 32 → (bt p.1 j = true ↔ bt s j = true ∨ ∃ l', l' < l + 1 ∧ (l' : Int) ≠ wo.toInt ∧ ((bt s (fa l') = true ∧ fb l' = j) ∨ (bt s (fb l') = true ∧ fa l' = j)))) (LR (fun s' => s'.2.toInt = ((k + 1 : Nat) : Int) ∧ ∀ j, j < 32 → (bt s'.1 j = true ↔ Rk fa fb (ZW m wo.toInt) (k + 1) u j)) (fun r => r.toInt = (dsn fa fb (ZW m wo.toInt) u v : Int)))) := by
        intro s3 h3
        unfold Md_m_steps_j80
        refine Ok_rdb hi (by omega) (Ok_eqb (has_ok hfl.2 (by omega)) (Ok_ite (fun q => ?_) (fun q => ?_)))
        · refine Ok_rdb hi (by omega) (Ok_some ⟨nx_s hi (by omega), fin _ (fun j hj => ?_)⟩)
          rw [bt1 s3 _ _ j hfl.1 (by omega) hj, h3 j hj]
          constructor
          · intro z
            rcases z with (z | z) | z
            · exact Or.inl z
            · exact Or.inr ⟨e, Or.inl z⟩
            · exact Or.inr ⟨e, Or.inr ⟨q, z⟩⟩
          · intro z
            rcases z with z | ⟨_, z | z⟩
            · exact Or.inl (Or.inl z)
            · exact Or.inl (Or.inr z)
            · exact Or.inr z.2
        · refine Ok_some ⟨nx_s hi (by omega), fin _ (fun j hj => ?_)⟩
          rw [h3 j hj]
          constructor
          · intro z
            rcases z with z | z
            · exact Or.inl z
            · exact Or.inr ⟨e, Or.inl z⟩
          · intro z
            rcases z with z | ⟨_, z | z⟩
            · exact Or.inl z
            · exact Or.inr z
            · exact absurd z.1 q
      refine Ok_rdb hi (by omega) (Ok_eqb (has_ok hfl.1 (by omega)) (Ok_ite (fun q => Ok_rdb hi (by omega) (second _ (fun j hj => ?_))) (fun q => second _ (fun j hj => ⟨Or.inl, fun z => z.elim id (fun z => absurd z.1 q)⟩))))
      rw [bt1 s2 _ _ j hfl.2 (by omega) hj]
      exact ⟨fun z => z.imp id (fun z => ⟨q, z⟩), fun z => z.imp id And.right⟩
    · intro s2 i hi hI
      dsimp only [Md_m_steps_s32]
      refine Ok_ite (fun _ => Ok_omap (Ok_some ⟨nx_s hc (by omega), fun j hj => ?_⟩)) (fun q => by rw [i32_le] at q; omega)
      rw [hI j hj, Rk_e, hs j hj]
      constructor
      · intro z
        rcases z with z | ⟨l, hl, hlo, z | z⟩
        · exact Or.inl z
        · exact Or.inr ⟨l, fa l, ⟨hl, hlo⟩, Or.inl ⟨rfl, z.2⟩, (hs _ (by have := hV l hl; omega)).mp z.1⟩
        · exact Or.inr ⟨l, fb l, ⟨hl, hlo⟩, Or.inr ⟨z.2, rfl⟩, (hs _ (by have := hV l hl; omega)).mp z.1⟩
      · intro z
        rcases z with z | ⟨l, d, ⟨hl, hlo⟩, (⟨e1, e2⟩ | ⟨e1, e2⟩), hr⟩
        · exact Or.inl z
        · exact Or.inr ⟨l, hl, hlo, Or.inl ⟨(hs _ (by have := hV l hl; omega)).mpr (by rw [e1]; exact hr), e2⟩⟩
        · exact Or.inr ⟨l, hl, hlo, Or.inr ⟨(hs _ (by have := hV l hl; omega)).mpr (by rw [e2]; exact hr), e1⟩⟩
  · intro ⟨s, c⟩ ⟨hc, hs⟩
    dsimp only [Md_m_steps_s8] at *
    refine Ok_eqb (has_ok h2 (by omega)) (Ok_ite (fun q => Ok_omap (Ok_some hc)) (fun q => Ok_ite (fun _ => Ok_omap (Ok_some hc)) (fun q2 => ?_)))
    rw [i32_lt, i32_32, hc] at q2
    have h33 : dsn fa fb (ZW m wo.toInt) u v < 33 := by omega
    exact absurd ((hs v (by omega)).mpr (dsn_rk h33)) q
end R30
