/-! PURE LAYER: steps and loops -/
theorem Ok_rdb {α β : Type} {f : Nat → α} {n k : Nat} {i : Int32} {g : α → Option β} {P : β → Prop} (hi : i.toInt = (k : Int)) (hk : k < n) (h : Ok (g (f k)) P) : Ok ((rd f n i).bind g) P := by
  refine Ok_bind (Ok_rd (by omega) (by omega) ?_)
  have : i.toInt.toNat = k := by omega
  rw [this]
  exact h
theorem Ok_wrb {α β : Type} {f : Nat → α} {n k : Nat} {i : Int32} {x : α} {g : (Nat → α) → Option β} {P : β → Prop} (hi : i.toInt = (k : Int)) (hk : k < n) (h : Ok (g (va_up f k x)) P) : Ok ((wr f n i x).bind g) P := by
  refine Ok_bind (Ok_wr (by omega) (by omega) ?_)
  have : i.toInt.toNat = k := by omega
  rw [this]
  exact h
theorem Ok_rd1 {α : Type} {f : Nat → α} {n k : Nat} {i : Int32} {P : α → Prop} (hi : i.toInt = (k : Int)) (hk : k < n) (h : P (f k)) : Ok (rd f n i) P := by
  refine Ok_rd (by omega) (by omega) ?_
  have : i.toInt.toNat = k := by omega
  rw [this]
  exact h
theorem Ok_eqb {α β : Type} {o : Option α} {a : α} {g : α → Option β} {P : β → Prop} (e : o = some a) (h : Ok (g a) P) : Ok (o.bind g) P := by
  rw [e]
  exact h
theorem Ok_sb {α β : Type} {a : α} {g : α → Option β} {P : β → Prop} (h : Ok (g a) P) : Ok ((some a).bind g) P := h
theorem nx_s {v : Int32} {k : Nat} (h : v.toInt = (k : Int)) (hk : k < 1000000) : (v + 1).toInt = ((k + 1 : Nat) : Int) := by
  rw [i32_add (by rw [i32_1]; omega) (by rw [i32_1]; omega), i32_1]
  omega
theorem nx_p {v : Int32} {k : Nat} (h : v.toInt = ((k + 1 : Nat) : Int)) (hk : k < 1000000) : (v + (-1)).toInt = (k : Int) := by
  rw [i32_add (by rw [i32_m1]; omega) (by rw [i32_m1]; omega), i32_m1]
  omega
theorem nx_d {v : Int32} {k : Nat} (h : v.toInt = ((k + 1 : Nat) : Int)) (hk : k < 1000000) : (v - 1).toInt = (k : Int) := by
  rw [i32_sub (by rw [i32_1]; omega) (by rw [i32_1]; omega), i32_1]
  omega
theorem nI_i {k : Nat} (hk : k < 1000000) : (nI k).toInt = (k : Int) := nI_toInt (by omega)
/-- a loop with its counter last: two things -/
theorem Ok_for {σ ρ : Type} {step : σ × Int32 → Option ((σ × Int32) ⊕ ρ)} {P : ρ → Prop} (N : Nat) (I : Nat → σ → Prop) {s0 : σ} {i0 : Int32} (hN : N < 90000) (hi : i0.toInt = ((0 : Nat) : Int)) (h0 : I 0 s0)
    (hs : ∀ (k : Nat) (s : σ) (i : Int32), k < N → i.toInt = (k : Int) → I k s → Ok (step (s, i)) (LR (fun p => p.2.toInt = ((k + 1 : Nat) : Int) ∧ I (k + 1) p.1) P))
    (hx : ∀ (s : σ) (i : Int32), i.toInt = (N : Int) → I N s → Ok (step (s, i)) (LR (fun _ => False) P)) : Ok (iter step FU (s0, i0)) P := by
  refine Ok_upto (fun (k : Nat) (p : σ × Int32) => p.2.toInt = (k : Int) ∧ I k p.1) (e := N) hN ⟨hi, h0⟩ ?_ ?_
  · intro k p hk hp
    exact hs k p.1 p.2 hk hp.1 hp.2
  · intro p hp
    exact hx p.1 p.2 hp.1 hp.2
theorem Ok_for1 {ρ : Type} {step : Int32 → Option (Int32 ⊕ ρ)} {P : ρ → Prop} (N : Nat) (I : Nat → Prop) {i0 : Int32} (hN : N < 90000) (hi : i0.toInt = ((0 : Nat) : Int)) (h0 : I 0)
    (hs : ∀ (k : Nat) (i : Int32), k < N → i.toInt = (k : Int) → I k → Ok (step i) (LR (fun p => p.toInt = ((k + 1 : Nat) : Int) ∧ I (k + 1)) P))
    (hx : ∀ (i : Int32), i.toInt = (N : Int) → I N → Ok (step i) (LR (fun _ => False) P)) : Ok (iter step FU i0) P := by
  refine Ok_upto (fun (k : Nat) (p : Int32) => p.toInt = (k : Int) ∧ I k) (e := N) hN ⟨hi, h0⟩ ?_ ?_
  · intro k p hk hp
    exact hs k p hk hp.1 hp.2
  · intro p hp
    exact hx p hp.1 hp.2
theorem Ok_for3 {σ τ ρ : Type} {step : σ × τ × Int32 → Option ((σ × τ × Int32) ⊕ ρ)} {P : ρ → Prop} (N : Nat) (I : Nat → σ → τ → Prop) {s0 : σ} {t0 : τ} {i0 : Int32} (hN : N < 90000) (hi : i0.toInt = ((0 : Nat) : Int)) (h0 : I 0 s0 t0)
    (hs : ∀ (k : Nat) (s : σ) (t : τ) (i : Int32), k < N → i.toInt = (k : Int) → I k s t → Ok (step (s, t, i)) (LR (fun p => p.2.2.toInt = ((k + 1 : Nat) : Int) ∧ I (k + 1) p.1 p.2.1) P))
    (hx : ∀ (s : σ) (t : τ) (i : Int32), i.toInt = (N : Int) → I N s t → Ok (step (s, t, i)) (LR (fun _ => False) P)) : Ok (iter step FU (s0, t0, i0)) P := by
  refine Ok_upto (fun (k : Nat) (p : σ × τ × Int32) => p.2.2.toInt = (k : Int) ∧ I k p.1 p.2.1) (e := N) hN ⟨hi, h0⟩ ?_ ?_
  · intro k p hk hp
    exact hs k p.1 p.2.1 p.2.2 hk hp.1 hp.2
  · intro p hp
    exact hx p.1 p.2.1 p.2.2 hp.1 hp.2
/-- counting loops -/
theorem Ok_cnt {ρ : Type} {step : Int32 × Int32 → Option ((Int32 × Int32) ⊕ ρ)} {P : ρ → Prop} (N : Nat) (Q : Nat → Prop) {c0 i0 : Int32} (hN : N < 90000) (hc : c0.toInt = ((0 : Nat) : Int)) (hi : i0.toInt = ((0 : Nat) : Int))
    (hs : ∀ (k : Nat) (c i : Int32), k < N → i.toInt = (k : Int) → Ok (step (c, i)) (fun r => (Q k ∧ r = .inl (c + 1, i + 1)) ∨ (¬ Q k ∧ r = .inl (c, i + 1))))
    (hx : ∀ (c i : Int32), i.toInt = (N : Int) → c.toInt = (cnt Q N : Int) → Ok (step (c, i)) (LR (fun _ => False) P)) : Ok (iter step FU (c0, i0)) P := by
  refine Ok_for N (fun k c => c.toInt = (cnt Q k : Int)) hN hi hc ?_ hx
  intro k c i hk hi hc
  refine Ok_mono (hs k c i hk hi) ?_
  intro r hr
  have hle := cnt_le (P := Q) (n := k)
  rcases hr with ⟨hq, rfl⟩ | ⟨hq, rfl⟩
  · refine ⟨nx_s hi (by omega), ?_⟩
    rw [cnt_t hq]
    exact nx_s hc (by omega)
  · refine ⟨nx_s hi (by omega), ?_⟩
    rw [cnt_f hq]
    exact hc
theorem fl_mono {Q : Nat → Prop} {g : Nat → Nat} {N m : Nat} : fl Q g N = fl Q g m ++ (fl Q g N).drop (fl Q g m).length ∨ N < m := by
  rcases Nat.lt_or_ge N m with h | h
  · exact Or.inr h
  · left
    induction h with
    | refl => rw [List.drop_length, List.append_nil]
    | @step N h ih =>
      by_cases d : Q N
      · rw [fl_t d]
        have hlen : (fl Q g m).length ≤ (fl Q g N).length := by rw [fl_len, fl_len]; exact cnt_mono h
        rw [List.drop_append_of_le_length hlen, ← List.append_assoc, ← ih]
      · rw [fl_f d]; exact ih
/-- loops that look for the i-th, counting up -/
theorem Ok_pick {ρ : Type} {step : Int32 × Int32 → Option ((Int32 × Int32) ⊕ ρ)} {R : Int → ρ → Prop} (N : Nat) (Q : Nat → Prop) (g : Nat → Nat) (v : Int32) {c0 i0 : Int32} (hN : N < 90000) (hc : c0.toInt = ((0 : Nat) : Int)) (hi : i0.toInt = ((0 : Nat) : Int))
    (hs : ∀ (k : Nat) (c i : Int32), k < N → i.toInt = (k : Int) → Ok (step (c, i)) (fun r => (Q k ∧ c ≠ v ∧ r = .inl (c + 1, i + 1)) ∨ (¬ Q k ∧ r = .inl (c, i + 1)) ∨ (Q k ∧ c = v ∧ ∃ y, r = .inr y ∧ R (g k) y)))
    (hx : ∀ (c i : Int32), i.toInt = (N : Int) → c.toInt = (cnt Q N : Int) → Ok (step (c, i)) (LR (fun _ => False) (R (if v.toInt = -1 then (cnt Q N : Int) else -1)))) : Ok (iter step FU (c0, i0)) (R (pickC (fl Q g N) v.toInt)) := by
  have mono : ∀ m, fl Q g N = fl Q g m ++ (fl Q g N).drop (fl Q g m).length ∨ N < m := fun m => fl_mono
  refine Ok_for N (fun k c => c.toInt = (cnt Q k : Int) ∧ (v.toInt < 0 ∨ (cnt Q k : Int) ≤ v.toInt)) hN hi ⟨hc, ?_⟩ ?_ ?_
  · show v.toInt < 0 ∨ ((0 : Nat) : Int) ≤ v.toInt
    omega
  · intro k c i hk hi ⟨hc, hv⟩
    refine Ok_mono (hs k c i hk hi) ?_
    intro r hr
    have hle := cnt_le (P := Q) (n := k)
    rcases hr with ⟨hq, hne, rfl⟩ | ⟨hq, rfl⟩ | ⟨hq, he, y, rfl, hy⟩
    · refine ⟨nx_s hi (by omega), ?_, ?_⟩
      · rw [cnt_t hq]; exact nx_s hc (by omega)
      · rw [cnt_t hq]
        have : c.toInt ≠ v.toInt := fun z => hne (i32_ext z)
        omega
    · refine ⟨nx_s hi (by omega), ?_⟩
      rw [cnt_f hq]
      exact ⟨hc, hv⟩
    · show R (pickC (fl Q g N) v.toInt) y
      have hvk : v.toInt = (cnt Q k : Int) := by rw [← he]; exact hc
      have e : pickC (fl Q g N) v.toInt = (g k : Int) := by
        unfold pickC pick
        rw [if_neg (by omega), if_neg (by omega)]
        have : (fl Q g N)[v.toInt.toNat]? = some (g k) := by
          rcases mono (k + 1) with h | h
          · have h2 : v.toInt.toNat = (fl Q g k).length := by rw [fl_len]; omega
            rw [h, fl_t hq, h2, List.append_assoc, List.getElem?_append_right (Nat.le_refl _), Nat.sub_self]
            rfl
          · omega
        rw [this]
      rw [e]
      exact hy
  · intro c i hi ⟨hc, hv⟩
    have e : pickC (fl Q g N) v.toInt = if v.toInt = -1 then (cnt Q N : Int) else -1 := by
      unfold pickC pick
      by_cases d : v.toInt = -1
      · rw [if_pos d, if_pos d, fl_len]
      · rw [if_neg d, if_neg d]
        by_cases d2 : v.toInt < 0
        · rw [if_pos d2]
        · rw [if_neg d2]
          have : (fl Q g N)[v.toInt.toNat]? = none := by
            rw [List.getElem?_eq_none_iff, fl_len]; omega
          rw [this]
    rw [e]
    exact hx c i hi hc
/-- the same, counting down -/
theorem Ok_pickd {ρ : Type} {step : Int32 × Int32 → Option ((Int32 × Int32) ⊕ ρ)} {R : Int → ρ → Prop} (N : Nat) (Q : Nat → Prop) (g : Nat → Nat) (v : Int32) {i0 : Int32} (hN : N < 90000) (hi : i0.toInt = ((0 : Nat) : Int))
    (hs : ∀ (k : Nat) (c i : Int32), k < N → i.toInt = (k : Int) → Ok (step (c, i)) (fun r => (Q k ∧ c ≠ 0 ∧ r = .inl (c - 1, i + 1)) ∨ (¬ Q k ∧ r = .inl (c, i + 1)) ∨ (Q k ∧ c = 0 ∧ ∃ y, r = .inr y ∧ R (g k) y)))
    (hx : ∀ (c i : Int32), i.toInt = (N : Int) → Ok (step (c, i)) (LR (fun _ => False) (R (-1)))) : Ok (iter step FU (v, i0)) (R (pick (fl Q g N) v.toInt)) := by
  have mono : ∀ m, fl Q g N = fl Q g m ++ (fl Q g N).drop (fl Q g m).length ∨ N < m := fun m => fl_mono
  refine Ok_for N (fun k c => c + nI (cnt Q k) = v ∧ (v.toInt < 0 ∨ (cnt Q k : Int) ≤ v.toInt)) hN hi ⟨?_, ?_⟩ ?_ ?_
  · show v + nI 0 = v
    have : nI 0 = (0 : Int32) := rfl
    rw [this, Int32.add_zero]
  · show v.toInt < 0 ∨ ((0 : Nat) : Int) ≤ v.toInt
    omega
  · intro k c i hk hi ⟨hc, hv⟩
    refine Ok_mono (hs k c i hk hi) ?_
    intro r hr
    have hle := cnt_le (P := Q) (n := k)
    rcases hr with ⟨hq, hne, rfl⟩ | ⟨hq, rfl⟩ | ⟨hq, he, y, rfl, hy⟩
    · refine ⟨nx_s hi (by omega), ?_, ?_⟩
      · show c - 1 + nI (cnt Q (k + 1)) = v
        rw [cnt_t hq, ← hc]
        have : nI (cnt Q k + 1) = nI (cnt Q k) + 1 := i32_ext (by rw [nI_i (by omega), nx_s (nI_i (by omega)) (by omega)])
        rw [this, Int32.sub_eq_add_neg, Int32.add_assoc, Int32.add_comm (nI (cnt Q k)) 1, ← Int32.add_assoc (-1), Int32.add_left_neg, Int32.zero_add]
      · rw [cnt_t hq]
        have : v.toInt ≠ (cnt Q k : Int) := by
          intro z
          apply hne
          have h2 : v = nI (cnt Q k) := i32_ext (by rw [z, nI_i (by omega)])
          rw [h2] at hc
          have h3 : c + nI (cnt Q k) - nI (cnt Q k) = nI (cnt Q k) - nI (cnt Q k) := by rw [hc]
          rw [Int32.add_sub_cancel, Int32.sub_self] at h3
          exact h3
        omega
    · refine ⟨nx_s hi (by omega), ?_⟩
      rw [cnt_f hq]
      exact ⟨hc, hv⟩
    · show R (pick (fl Q g N) v.toInt) y
      have hvk : v.toInt = (cnt Q k : Int) := by rw [← hc, he, Int32.zero_add, nI_i (by omega)]
      have e : pick (fl Q g N) v.toInt = (g k : Int) := by
        unfold pick
        rw [if_neg (by omega)]
        have : (fl Q g N)[v.toInt.toNat]? = some (g k) := by
          rcases mono (k + 1) with h | h
          · have h2 : v.toInt.toNat = (fl Q g k).length := by rw [fl_len]; omega
            rw [h, fl_t hq, h2, List.append_assoc, List.getElem?_append_right (Nat.le_refl _), Nat.sub_self]
            rfl
          · omega
        rw [this]
      rw [e]
      exact hy
  · intro c i hi ⟨hc, hv⟩
    have e : pick (fl Q g N) v.toInt = -1 := by
      unfold pick
      by_cases d2 : v.toInt < 0
      · rw [if_pos d2]
      · rw [if_neg d2]
        have : (fl Q g N)[v.toInt.toNat]? = none := by
          rw [List.getElem?_eq_none_iff, fl_len]; omega
        rw [this]
    rw [e]
    exact hx c i hi
theorem vu_s {α : Type} {f : Nat → α} {k : Nat} {x : α} : va_up f k x k = x := va_up_self f k x
theorem vu_n {α : Type} {f : Nat → α} {k j : Nat} {x : α} (h : j ≠ k) : va_up f k x j = f j := va_up_ne f x h
