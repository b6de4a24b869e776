/-! REFERENCE 17: the name a new part keeps -/
def BestP (k : Nat) (W : Nat → Prop) (N sz : Nat → Nat) (j B : Nat) : Prop := (B = k ∨ ∃ q, q < j ∧ W q ∧ N q = B) ∧ (sz k < sz B ∨ (sz k = sz B ∧ B ≤ k)) ∧ ∀ q, q < j → W q → sz (N q) < sz B ∨ (sz (N q) = sz B ∧ B ≤ N q)
section R17
variable {fa fb : Nat → Nat} {n k m u v b c t y r a p j B : Nat} {X : MdS} {W : Nat → Prop} {N sz P : Nat → Nat}
theorem Best_skip (h : BestP k W N sz j B) (hj : ¬ W j) : BestP k W N sz (j + 1) B := by
  obtain ⟨h1, h2, h3⟩ := h
  refine ⟨h1.imp id (fun ⟨q, a, b⟩ => ⟨q, by omega, b⟩), h2, fun q hq hw => ?_⟩
  by_cases e : q = j
  · rw [e] at hw; exact absurd hw hj
  · exact h3 q (by omega) hw
theorem Best_keep (h : BestP k W N sz j B) (hj : sz (N j) < sz B ∨ (sz (N j) = sz B ∧ B ≤ N j)) : BestP k W N sz (j + 1) B := by
  obtain ⟨h1, h2, h3⟩ := h
  refine ⟨h1.imp id (fun ⟨q, a, b⟩ => ⟨q, by omega, b⟩), h2, fun q hq hw => ?_⟩
  by_cases e : q = j
  · rw [e]; exact hj
  · exact h3 q (by omega) hw
theorem best_tr {s1 s2 s3 d1 d2 d3 : Nat} (h1 : s1 < s2 ∨ (s1 = s2 ∧ d2 ≤ d1)) (h2 : s2 < s3 ∨ (s3 = s2 ∧ d3 < d2)) : s1 < s3 ∨ (s1 = s3 ∧ d3 ≤ d1) := by omega
theorem Best_take (h : BestP k W N sz j B) (hw : W j) (hj : sz B < sz (N j) ∨ (sz (N j) = sz B ∧ N j < B)) : BestP k W N sz (j + 1) (N j) := by
  obtain ⟨h1, h2, h3⟩ := h
  refine ⟨Or.inr ⟨j, Nat.lt_succ_self j, hw, rfl⟩, best_tr h2 hj, fun q hq hwq => ?_⟩
  by_cases e : q = j
  · rw [e]; exact Or.inr ⟨rfl, Nat.le_refl _⟩
  · exact best_tr (h3 q (by omega) hwq) hj
theorem names_best (hk : k < 64) (hN : ∀ l, l < k + 1 → (Md_partName X l).toInt = (N l : Int)) (hPo : ∀ l, l < k + 1 → (Md_partOf X l).toInt = (P l : Int)) {v1 : Int32} (h1 : v1.toInt = (k : Int)) {Q : MdS → Prop}
    (hnext : ∀ (w : Int32) (B : Nat), w.toInt = (B : Int) → BestP k (fun q => P q = P k) N (fun b => cnt (fun l => N l = b) (k + 1)) k B → Ok (iter (fun p : MdS × Int32 => Md_m_namesPart_s128 v1 w p.1 p.2) FU (X, 0)) Q) :
    Ok (iter (fun p : Int32 × Int32 => Md_m_namesPart_s41 X v1 p.1 p.2) FU (v1, 0)) Q := by
  refine Ok_for k (fun j w => ∃ B : Nat, w.toInt = (B : Int) ∧ BestP k (fun q => P q = P k) N (fun b => cnt (fun l => N l = b) (k + 1)) j B) (by omega) i32_0 ⟨k, h1, Or.inl rfl, Or.inr ⟨rfl, Nat.le_refl k⟩, fun q hq => absurd hq (Nat.not_lt_zero q)⟩ ?_ ?_
  · intro j w i hj hi ⟨B, hw, hB'⟩
    dsimp only [Md_m_namesPart_s41]
    have hj64 : j < 64 := by omega
    have e1 := hPo j (by omega)
    have e2 := hPo k (by omega)
    have e3 := hN j (by omega)
    have h1' : (v1 + 1).toInt = ((k + 1 : Nat) : Int) := nx_s h1 (by omega)
    refine Ok_ite (fun q => by rw [i32_le] at q; omega) (fun _ => Ok_rdb hi hj64 (Ok_rdb h1 hk (Ok_ite (fun q => ?_) (fun q => ?_))))
    · rw [i32_eq, e1, e2] at q
      have hWj : P j = P k := Int.natCast_inj.mp q
      have take : (cnt (fun l => N l = B) (k + 1) < cnt (fun l => N l = N j) (k + 1) ∨ (cnt (fun l => N l = N j) (k + 1) = cnt (fun l => N l = B) (k + 1) ∧ N j < B)) → Ok (Md_m_namesPart_j113 X v1 i) (LR (fun p => p.2.toInt = ((j + 1 : Nat) : Int) ∧ ∃ B : Nat, p.1.toInt = (B : Int) ∧ BestP k (fun q => P q = P k) N (fun b => cnt (fun l => N l = b) (k + 1)) (j + 1) B) Q) := by
        intro hlt
        unfold Md_m_namesPart_j113
        exact Ok_rdb hi hj64 (Ok_some ⟨nx_s hi (by omega), N j, e3, Best_take hB' hWj hlt⟩)
      refine Ok_rdb hi hj64 (Ok_then (linksNamed_ok (by omega) hN e3 h1') (fun g74 h74 => Ok_then (linksNamed_ok (by omega) hN hw h1') (fun g84 h84 => ?_)))
      refine Ok_ite (fun q2 => ?_) (fun q2 => Ok_ite (fun q3 => ?_) (fun q3 => ?_))
      · rw [i32_lt, h74, h84] at q2
        exact take (Or.inl (Int.ofNat_lt.mp q2))
      · rw [i32_eq, h74, h84] at q3
        have q3' := Int.natCast_inj.mp q3
        refine Ok_rdb hi hj64 (Ok_ite (fun q4 => ?_) (fun q4 => ?_))
        · rw [i32_le, hw, e3] at q4
          exact Ok_some ⟨nx_s hi (by omega), B, hw, Best_keep hB' (Or.inr ⟨q3', Int.ofNat_le.mp q4⟩)⟩
        · rw [i32_le, hw, e3] at q4
          exact take (Or.inr ⟨q3', by omega⟩)
      · rw [i32_lt, h74, h84] at q2
        rw [i32_eq, h74, h84] at q3
        exact Ok_some ⟨nx_s hi (by omega), B, hw, Best_keep hB' (Or.inl (by
          show cnt (fun l => N l = N j) (k + 1) < cnt (fun l => N l = B) (k + 1)
          generalize cnt (fun l => N l = N j) (k + 1) = s1 at q2 q3
          generalize cnt (fun l => N l = B) (k + 1) = s2 at q2 q3
          omega))⟩
    · rw [i32_eq, e1, e2] at q
      exact Ok_some ⟨nx_s hi (by omega), B, hw, Best_skip hB' (fun z => q (Int.natCast_inj.mpr z))⟩
  · intro w i hi ⟨B, hw, hB'⟩
    dsimp only [Md_m_namesPart_s41]
    exact Ok_ite (fun _ => Ok_omap (hnext w B hw hB')) (fun q => by rw [i32_le] at q; omega)
end R17
