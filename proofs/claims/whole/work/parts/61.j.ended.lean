/-! REFERENCE 19: names that end with a link -/
def EndQ (k : Nat) (W : Nat → Prop) (N : Nat → Nat) (B j b : Nat) : Prop := ∃ q, q < j ∧ W q ∧ N q = b ∧ b ≠ B
section R19
variable {k j B : Nat} {x : MdS} {W : Nat → Prop} {N P : Nat → Nat} {na en it mx : Nat → Int32}
theorem EndQ_n {b : Nat} (h : ¬ (W j ∧ N j ≠ B)) : EndQ k W N B (j + 1) b ↔ EndQ k W N B j b := by
  constructor
  · intro ⟨q, hq, hw, e, hne⟩
    refine ⟨q, ?_, hw, e, hne⟩
    have : q ≠ j := fun z => h ⟨z ▸ hw, by rw [← z, e]; exact hne⟩
    omega
  · intro ⟨q, hq, r⟩
    exact ⟨q, Nat.lt_succ_of_lt hq, r⟩
theorem EndQ_o {b : Nat} (hb : b ≠ N j) : EndQ k W N B (j + 1) b ↔ EndQ k W N B j b := by
  constructor
  · intro ⟨q, hq, hw, e, hne⟩
    refine ⟨q, ?_, hw, e, hne⟩
    have : q ≠ j := fun z => hb (by rw [← z, e])
    omega
  · intro ⟨q, hq, r⟩
    exact ⟨q, Nat.lt_succ_of_lt hq, r⟩
theorem names_ended (hk : k < 64) (hN : ∀ l, l < k + 1 → (na l).toInt = (N l : Int)) (hNl : ∀ l, l < k + 1 → N l < 64) (hPo : ∀ l, l < k + 1 → (Md_partOf x l).toInt = (P l : Int)) {v1 v2 : Int32} (h1 : v1.toInt = (k : Int)) (h2 : v2.toInt = (B : Int)) {Q : MdS → Prop}
    (hnext : ∀ en' it', (∀ b, b < 64 → (EndQ k (fun q => P q = P k) N B (k + 1) b → en' b = v1 ∧ it' b = v2) ∧ (¬ EndQ k (fun q => P q = P k) N B (k + 1) b → en' b = en b ∧ it' b = it b)) → Ok (iter (fun p : MdS × Int32 => Md_m_namesPart_s193 v1 v2 p.1 p.2) FU (N4 x na en' it' mx, 0)) Q) :
    Ok (iter (fun p : MdS × Int32 => Md_m_namesPart_s128 v1 v2 p.1 p.2) FU (N4 x na en it mx, 0)) Q := by
  refine Ok_for (k + 1) (fun j y => ∃ en' it', y = N4 x na en' it' mx ∧ ∀ b, b < 64 → (EndQ k (fun q => P q = P k) N B j b → en' b = v1 ∧ it' b = v2) ∧ (¬ EndQ k (fun q => P q = P k) N B j b → en' b = en b ∧ it' b = it b)) (by omega) i32_0 ⟨en, it, rfl, fun b hb => ⟨fun ⟨q, hq, _⟩ => absurd hq (Nat.not_lt_zero q), fun _ => ⟨rfl, rfl⟩⟩⟩ ?_ ?_
  · intro j y i hj hi ⟨en', it', hy, hg⟩
    subst hy
    dsimp only [Md_m_namesPart_s128]
    have hj64 : j < 64 := by omega
    have e1 := hPo j hj
    have e2 := hPo k (by omega)
    have e3 := hN j hj
    have hNj := hNl j hj
    have skip : ¬ (P j = P k ∧ N j ≠ B) → Ok (some (Sum.inl (N4 x na en' it' mx, i + 1)) : Option ((MdS × Int32) ⊕ MdS)) (LR (fun p => p.2.toInt = ((j + 1 : Nat) : Int) ∧ ∃ en' it', p.1 = N4 x na en' it' mx ∧ ∀ b, b < 64 → (EndQ k (fun q => P q = P k) N B (j + 1) b → en' b = v1 ∧ it' b = v2) ∧ (¬ EndQ k (fun q => P q = P k) N B (j + 1) b → en' b = en b ∧ it' b = it b)) Q) := by
      intro hno
      refine Ok_some ⟨nx_s hi (by omega), en', it', rfl, fun b hb => ?_⟩
      rw [EndQ_n hno]
      exact hg b hb
    rw [N4_po, N4_na]
    refine Ok_ite (fun q => by rw [i32_lt] at q; omega) (fun _ => Ok_rdb hi hj64 (Ok_rdb h1 hk (Ok_ite (fun q => ?_) (fun q => ?_))))
    · rw [i32_eq, e1, e2] at q
      have hWj : P j = P k := Int.natCast_inj.mp q
      refine Ok_rdb hi hj64 (Ok_ite (fun q2 => ?_) (fun q2 => ?_))
      · rw [i32_eq, e3, h2] at q2
        exact skip (fun z => z.2 (Int.natCast_inj.mp q2))
      · rw [i32_eq, e3, h2] at q2
        have hne : N j ≠ B := fun z => q2 (by rw [z])
        refine Ok_rdb hi hj64 ?_
        rw [N4_en]
        refine Ok_wrb e3 hNj ?_
        rw [N4_ena, N4_na]
        refine Ok_rdb hi hj64 ?_
        rw [N4_eit, N4_it]
        refine Ok_wrb e3 hNj ?_
        rw [N4_2]
        refine Ok_some ⟨nx_s hi (by omega), _, _, rfl, fun b hb => ?_⟩
        by_cases e : b = N j
        · rw [e, vu_s, vu_s]
          exact ⟨fun _ => ⟨rfl, rfl⟩, fun z => absurd ⟨j, Nat.lt_succ_self j, hWj, rfl, hne⟩ z⟩
        · rw [vu_n e, vu_n e, EndQ_o e]
          exact hg b hb
    · rw [i32_eq, e1, e2] at q
      exact skip (fun z => q (by rw [z.1]))
  · intro y i hi ⟨en', it', hy, hg⟩
    subst hy
    dsimp only [Md_m_namesPart_s128]
    exact Ok_ite (fun _ => Ok_omap (hnext en' it' hg)) (fun q => by rw [i32_lt] at q; omega)
end R19
