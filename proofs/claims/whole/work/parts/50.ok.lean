/-! PURE LAYER, base: a function comes to an end with an answer of which P holds -/
def Ok {α : Type} (o : Option α) (P : α → Prop) : Prop := ∃ a, o = some a ∧ P a
theorem Ok_bind {α β : Type} {o : Option α} {f : α → Option β} {P : β → Prop} (h : Ok o (fun a => Ok (f a) P)) : Ok (o.bind f) P := by
  obtain ⟨a, rfl, b, hb, hp⟩ := h
  exact ⟨b, hb, hp⟩
theorem Ok_some {α : Type} {a : α} {P : α → Prop} (h : P a) : Ok (some a) P := ⟨a, rfl, h⟩
theorem Ok_mono {α : Type} {o : Option α} {P Q : α → Prop} (h : Ok o P) (hp : ∀ a, P a → Q a) : Ok o Q := by
  obtain ⟨a, e, q⟩ := h
  exact ⟨a, e, hp a q⟩
theorem Ok_then {α β : Type} {o : Option α} {f : α → Option β} {P : β → Prop} {Q : α → Prop} (h : Ok o Q) (hp : ∀ a, Q a → Ok (f a) P) : Ok (o.bind f) P := Ok_bind (Ok_mono h hp)
theorem Ok_ite {α : Type} {c : Prop} [Decidable c] {A B : Option α} {P : α → Prop} (ht : c → Ok A P) (hf : ¬ c → Ok B P) : Ok (if c then A else B) P := by
  by_cases h : c
  · rw [if_pos h]; exact ht h
  · rw [if_neg h]; exact hf h
theorem Ok_omap {α β : Type} {o : Option β} {P : α ⊕ β → Prop} (h : Ok o (fun r => P (.inr r))) : Ok (omap o : Option (α ⊕ β)) P := by
  obtain ⟨a, rfl, q⟩ := h
  exact ⟨_, rfl, q⟩
theorem Ok_det {α : Type} {o : Option α} {P : α → Prop} {a : α} (h : Ok o P) (e : o = some a) : P a := by
  obtain ⟨b, e2, q⟩ := h
  rw [e2] at e
  cases e
  exact q
theorem Ok_eq {α : Type} {o : Option α} {a : α} (h : Ok o (fun b => b = a)) : o = some a := by
  obtain ⟨b, e, rfl⟩ := h
  exact e
theorem Ok_of {α : Type} {o : Option α} {a : α} (h : o = some a) : Ok o (fun b => b = a) := ⟨a, h, rfl⟩
/-- an Int32 that is a place -/
theorem i32_clamp (i : Int32) : i.toNatClampNeg = i.toInt.toNat := by
  unfold Int32.toNatClampNeg
  rfl
theorem Ok_rd {α : Type} {f : Nat → α} {n : Nat} {i : Int32} {P : α → Prop} (h0 : 0 ≤ i.toInt) (h1 : i.toInt < n) (h : P (f i.toInt.toNat)) : Ok (rd f n i) P := by
  unfold rd
  rw [if_neg, i32_clamp]
  · exact ⟨_, rfl, h⟩
  · rw [i32_clamp, Int32.lt_iff_toInt_lt, Int32.toInt_zero]; omega
theorem Ok_wr {α : Type} {f : Nat → α} {n : Nat} {i : Int32} {x : α} {P : (Nat → α) → Prop} (h0 : 0 ≤ i.toInt) (h1 : i.toInt < n) (h : P (va_up f i.toInt.toNat x)) : Ok (wr f n i x) P := by
  unfold wr
  rw [if_neg, i32_clamp]
  · exact ⟨_, rfl, h⟩
  · rw [i32_clamp, Int32.lt_iff_toInt_lt, Int32.toInt_zero]; omega
/-- a loop's step: on it goes with I, or it is left with P -/
def LR {σ ρ : Type} (I : σ → Prop) (P : ρ → Prop) : σ ⊕ ρ → Prop
  | .inl s => I s
  | .inr r => P r
theorem Ok_loop {σ ρ : Type} {step : σ → Option (σ ⊕ ρ)} {P : ρ → Prop} (I : Nat → σ → Prop) {N : Nat} {s : σ} {fuel : Nat} (hN : N < fuel) (h0 : I N s)
    (hs : ∀ k s, I k s → Ok (step s) (LR (fun s' => ∃ j, j < k ∧ I j s') P)) : Ok (iter step fuel s) P := by
  induction fuel generalizing N s with
  | zero => omega
  | succ fuel ih =>
    obtain ⟨q, hq, hr⟩ := hs N s h0
    unfold iter
    rw [hq]
    cases q with
    | inl s' =>
      obtain ⟨j, hj, hI⟩ := hr
      exact ih (by omega) hI
    | inr r => exact ⟨r, rfl, hr⟩
/-- a loop that counts up to e -/
theorem Ok_upto {σ ρ : Type} {step : σ → Option (σ ⊕ ρ)} {P : ρ → Prop} (I : Nat → σ → Prop) {e : Nat} {s : σ} (he : e < 90000) (h0 : I 0 s)
    (hs : ∀ k s, k < e → I k s → Ok (step s) (LR (I (k + 1)) P)) (hx : ∀ s, I e s → Ok (step s) (LR (fun _ => False) P)) : Ok (iter step FU s) P := by
  refine Ok_loop (fun j s => ∃ k, k + j = e ∧ I k s) (N := e) (by unfold FU; omega) ⟨0, by omega, h0⟩ ?_
  intro j s ⟨k, hk, hI⟩
  by_cases c : k < e
  · refine Ok_mono (hs k s c hI) ?_
    intro q hq
    cases q with
    | inl s' => exact ⟨j - 1, by omega, k + 1, by omega, hq⟩
    | inr r => exact hq
  · have : k = e := by omega
    subst this
    refine Ok_mono (hx s hI) ?_
    intro q hq
    cases q with
    | inl s' => exact absurd hq (fun z => z)
    | inr r => exact hq
/-! Int32 by its number -/
theorem i32_add {a b : Int32} (h1 : -2147483648 ≤ a.toInt + b.toInt) (h2 : a.toInt + b.toInt < 2147483648) : (a + b).toInt = a.toInt + b.toInt := by
  rw [Int32.toInt_add]
  exact Int.bmod_eq_of_le (by omega) (by omega)
theorem i32_sub {a b : Int32} (h1 : -2147483648 ≤ a.toInt - b.toInt) (h2 : a.toInt - b.toInt < 2147483648) : (a - b).toInt = a.toInt - b.toInt := by
  rw [Int32.toInt_sub]
  exact Int.bmod_eq_of_le (by omega) (by omega)
theorem i32_mul {a b : Int32} (h1 : -2147483648 ≤ a.toInt * b.toInt) (h2 : a.toInt * b.toInt < 2147483648) : (a * b).toInt = a.toInt * b.toInt := by
  rw [Int32.toInt_mul]
  exact Int.bmod_eq_of_le (by omega) (by omega)
theorem i32_rng (a : Int32) : -2147483648 ≤ a.toInt ∧ a.toInt < 2147483648 := ⟨Int32.le_toInt a, Int32.toInt_lt a⟩
theorem i32_ext {a b : Int32} (h : a.toInt = b.toInt) : a = b := Int32.toInt_inj.mp h
theorem i32_eq {a b : Int32} : a = b ↔ a.toInt = b.toInt := Int32.toInt_inj.symm
theorem i32_m1 : (-1 : Int32).toInt = -1 := by decide
theorem i32_m2 : (-2 : Int32).toInt = -2 := by decide
theorem i32_0 : (0 : Int32).toInt = 0 := by decide
theorem i32_1 : (1 : Int32).toInt = 1 := by decide
theorem i32_2 : (2 : Int32).toInt = 2 := by decide
theorem i32_3 : (3 : Int32).toInt = 3 := by decide
theorem i32_4 : (4 : Int32).toInt = 4 := by decide
theorem i32_32 : (32 : Int32).toInt = 32 := by decide
theorem i32_33 : (33 : Int32).toInt = 33 := by decide
theorem i32_64 : (64 : Int32).toInt = 64 := by decide
theorem i32_lt {a b : Int32} : a < b ↔ a.toInt < b.toInt := Int32.lt_iff_toInt_lt
theorem i32_le {a b : Int32} : a ≤ b ↔ a.toInt ≤ b.toInt := Int32.le_iff_toInt_le
theorem i32_w (a : Int32) : a.toInt64.toInt = a.toInt := Int32.toInt_toInt64 a
theorem lg_lt {x y : Int64} : lg_cmp x y < 0 ↔ x.toInt < y.toInt := by
  unfold lg_cmp
  simp only [gt_iff_lt, Int64.lt_iff_toInt_lt, ← Int64.toInt_inj]
  by_cases h1 : y.toInt < x.toInt
  · rw [if_pos h1]
    constructor
    · intro h; exact absurd h (by decide)
    · intro h; omega
  · rw [if_neg h1]
    by_cases h2 : x.toInt = y.toInt
    · rw [if_pos h2]
      constructor
      · intro h; exact absurd h (by decide)
      · intro h; omega
    · rw [if_neg h2]
      constructor
      · intro _; omega
      · intro _; decide
theorem lg_gt {x y : Int64} : 0 < lg_cmp x y ↔ y.toInt < x.toInt := by
  unfold lg_cmp
  simp only [gt_iff_lt, Int64.lt_iff_toInt_lt, ← Int64.toInt_inj]
  by_cases h1 : y.toInt < x.toInt
  · rw [if_pos h1]
    constructor
    · intro _; exact h1
    · intro _; decide
  · rw [if_neg h1]
    by_cases h2 : x.toInt = y.toInt
    · rw [if_pos h2]
      constructor
      · intro h; exact absurd h (by decide)
      · intro h; omega
    · rw [if_neg h2]
      constructor
      · intro h; exact absurd h (by decide)
      · intro h; omega
theorem lg_eq {x y : Int64} : lg_cmp x y = 0 ↔ x = y := by
  unfold lg_cmp
  by_cases h1 : x > y
  · rw [if_pos h1]
    constructor
    · intro h; exact absurd h (by decide)
    · intro h; subst h; exact absurd h1 (by rw [gt_iff_lt, Int64.lt_iff_toInt_lt]; omega)
  · rw [if_neg h1]
    by_cases h2 : x = y
    · rw [if_pos h2]; exact ⟨fun _ => h2, fun _ => rfl⟩
    · rw [if_neg h2]
      constructor
      · intro h; exact absurd h (by decide)
      · intro h; exact absurd h h2
/-- isIn of the reference -/
theorem Md_isIn_ok (x : MdS) (a b c : Int64) : Md_m_isIn x a b c = some (decide (b.toInt ≤ a.toInt ∧ a.toInt ≤ c.toInt)) := by
  unfold Md_m_isIn
  by_cases h1 : lg_cmp a b < 0
  · rw [if_pos h1]; have := lg_lt.mp h1; rw [decide_eq_false (by omega)]
  · rw [if_neg h1]
    have h1' := mt lg_lt.mpr h1
    by_cases h2 : 0 < lg_cmp a c
    · rw [if_pos h2]; have := lg_gt.mp h2; rw [decide_eq_false (by omega)]
    · rw [if_neg h2]; have := mt lg_gt.mpr h2; rw [decide_eq_true (by omega)]
