/-! PURE LAYER: looking for the i-th; the least; sums -/
def Pk {ρ : Type} (Q : Prop) (c i v : Int32) (R : ρ → Prop) (r : (Int32 × Int32) ⊕ ρ) : Prop := (Q ∧ c ≠ v ∧ r = .inl (c + 1, i + 1)) ∨ (¬ Q ∧ r = .inl (c, i + 1)) ∨ (Q ∧ c = v ∧ ∃ y, r = .inr y ∧ R y)
section H2
theorem Ok_picku {ρ : Type} {step : Int32 × Int32 → Option ((Int32 × Int32) ⊕ ρ)} {R : Int → ρ → Prop} (N : Nat) (Q : Nat → Prop) (g : Nat → Nat) (v : Int32) (hN : N < 90000)
    (hs : ∀ (k : Nat) (c i : Int32), k < N → i.toInt = (k : Int) → c.toInt = (cnt Q k : Int) → Ok (step (c, i)) (Pk (Q k) c i v (R (g k))))
    (hx : ∀ (c i : Int32), i.toInt = (N : Int) → c.toInt = (cnt Q N : Int) → Ok (step (c, i)) (LR (fun _ => False) (R (-1)))) : Ok (iter step FU (0, 0)) (R (pick (fl Q g N) v.toInt)) := by
  have mono : ∀ m, fl Q g N = fl Q g m ++ (fl Q g N).drop (fl Q g m).length ∨ N < m := fun m => fl_mono
  refine Ok_for N (fun k c => c.toInt = (cnt Q k : Int) ∧ (v.toInt < 0 ∨ (cnt Q k : Int) ≤ v.toInt)) hN i32_0 ⟨i32_0, ?_⟩ ?_ ?_
  · show v.toInt < 0 ∨ ((0 : Nat) : Int) ≤ v.toInt
    omega
  · intro k c i hk hi ⟨hc, hv⟩
    refine Ok_mono (hs k c i hk hi hc) ?_
    intro r hr
    have hle := cnt_le (P := Q) (n := k)
    rcases hr with ⟨hq, hne, rfl⟩ | ⟨hq, rfl⟩ | ⟨hq, he, y, rfl, hy⟩
    · refine ⟨nx_s hi (by omega), ?_, ?_⟩
      · rw [cnt_t hq]; exact nx_s hc (by omega)
      · rw [cnt_t hq]
        have : c.toInt ≠ v.toInt := fun z => hne (i32_ext z)
        omega
    · refine ⟨nx_s hi (by omega), ?_⟩
      rw [cnt_f hq]
      exact ⟨hc, hv⟩
    · show R (pick (fl Q g N) v.toInt) y
      have hvk : v.toInt = (cnt Q k : Int) := by rw [← he]; exact hc
      have e : pick (fl Q g N) v.toInt = (g k : Int) := by
        unfold pick
        rw [if_neg (by omega)]
        have : (fl Q g N)[v.toInt.toNat]? = some (g k) := by
          rcases mono (k + 1) with h | h
          · have h2 : v.toInt.toNat = (fl Q g k).length := by rw [fl_len]; omega
            rw [h, fl_t hq, h2, List.append_assoc, List.getElem?_append_right (Nat.le_refl _), Nat.sub_self]
            rfl
          · omega
        rw [this]
      rw [e]
      exact hy
  · intro c i hi ⟨hc, hv⟩
    have e : pick (fl Q g N) v.toInt = -1 := by
      unfold pick
      by_cases d2 : v.toInt < 0
      · rw [if_pos d2]
      · rw [if_neg d2]
        have : (fl Q g N)[v.toInt.toNat]? = none := by
          rw [List.getElem?_eq_none_iff, fl_len]; omega
        rw [this]
    rw [e]
    exact hx c i hi hc
/-- a pick's step: the same ints -/
theorem Pk_step {ρ : Type} {Q : Prop} {c i v : Int32} {R : ρ → Prop} {o : Option ρ} (hq : Q) (ho : Ok o R) : Ok (if c = v then omap o else (some (.inl (c + 1, i + 1)) : Option ((Int32 × Int32) ⊕ ρ))) (Pk Q c i v R) :=
  Ok_ite (fun e => by
    obtain ⟨a, rfl, ha⟩ := ho
    exact ⟨_, rfl, Or.inr (Or.inr ⟨hq, e, a, rfl, ha⟩)⟩) (fun e => Ok_some (Or.inl ⟨hq, e, rfl⟩))
theorem Pk_f {ρ : Type} {Q : Prop} {c i v : Int32} {R : ρ → Prop} (hq : ¬ Q) : Ok (some (.inl (c, i + 1)) : Option ((Int32 × Int32) ⊕ ρ)) (Pk Q c i v R) := Ok_some (Or.inr (Or.inl ⟨hq, rfl⟩))
theorem Ok_pickw {ρ : Type} {N : Nat} {Q : Nat → Prop} {w v : Int32} {R : Int → ρ → Prop} {fin : Option ρ} {body : Int32 → Int32 → Option ((Int32 × Int32) ⊕ ρ)} {step : Int32 × Int32 → Option ((Int32 × Int32) ⊕ ρ)} (hN : N < 90000) (hw : w.toInt = (N : Int)) (hstep : ∀ c i, step (c, i) = if w ≤ i then omap fin else body c i)
    (hb : ∀ k c i, k < N → i.toInt = (k : Int) → Ok (body c i) (Pk (Q k) c i v (R k))) (hf : Ok fin (R (-1))) : Ok (iter step FU (0, 0)) (R (pick (fl Q (fun x => x) N) v.toInt)) := by
  refine Ok_picku N Q (fun x => x) v hN ?_ ?_
  · intro k c i hk hi hc
    rw [hstep]
    exact Ok_ite (fun q => by rw [i32_le] at q; omega) (fun _ => hb k c i hk hi)
  · intro c i hi hc
    rw [hstep]
    exact Ok_ite (fun _ => Ok_omap hf) (fun q => by rw [i32_le] at q; omega)
/-- how many, or the i-th -/
theorem Ok_pickCw {ρ : Type} {N : Nat} {Q : Nat → Prop} {w v : Int32} {R : Int → ρ → Prop} {fin : Int32 → Option ρ} {body : Int32 → Int32 → Option ((Int32 × Int32) ⊕ ρ)} {step : Int32 × Int32 → Option ((Int32 × Int32) ⊕ ρ)} {g : Nat → Nat} (hN : N < 90000) (hw : w.toInt = (N : Int)) (hstep : ∀ c i, step (c, i) = if w ≤ i then omap (fin c) else body c i)
    (hb : ∀ k c i, k < N → i.toInt = (k : Int) → Ok (body c i) (Pk (Q k) c i v (R (g k)))) (hf : ∀ c : Int32, c.toInt = (cnt Q N : Int) → Ok (fin c) (R (if v.toInt = -1 then (cnt Q N : Int) else -1))) : Ok (iter step FU (0, 0)) (R (pickC (fl Q g N) v.toInt)) := by
  refine Ok_pick N Q g v hN i32_0 i32_0 ?_ ?_
  · intro k c i hk hi
    rw [hstep]
    exact Ok_ite (fun q => by rw [i32_le] at q; omega) (fun _ => hb k c i hk hi)
  · intro c i hi hc
    rw [hstep]
    exact Ok_ite (fun _ => Ok_omap (hf c hc)) (fun q => by rw [i32_le] at q; omega)
/-- counting down -/
def Pd {ρ : Type} (Q : Prop) (c i : Int32) (R : ρ → Prop) (r : (Int32 × Int32) ⊕ ρ) : Prop := (Q ∧ c ≠ 0 ∧ r = .inl (c - 1, i + 1)) ∨ (¬ Q ∧ r = .inl (c, i + 1)) ∨ (Q ∧ c = 0 ∧ ∃ y, r = .inr y ∧ R y)
theorem Pd_step {ρ : Type} {Q : Prop} {c i : Int32} {R : ρ → Prop} {o : Option ρ} (hq : Q) (ho : Ok o R) : Ok (if c = 0 then omap o else (some (.inl (c - 1, i + 1)) : Option ((Int32 × Int32) ⊕ ρ))) (Pd Q c i R) :=
  Ok_ite (fun e => by
    obtain ⟨a, rfl, ha⟩ := ho
    exact ⟨_, rfl, Or.inr (Or.inr ⟨hq, e, a, rfl, ha⟩)⟩) (fun e => Ok_some (Or.inl ⟨hq, e, rfl⟩))
theorem Pd_f {ρ : Type} {Q : Prop} {c i : Int32} {R : ρ → Prop} (hq : ¬ Q) : Ok (some (.inl (c, i + 1)) : Option ((Int32 × Int32) ⊕ ρ)) (Pd Q c i R) := Ok_some (Or.inr (Or.inl ⟨hq, rfl⟩))
theorem Ok_pickdw {ρ : Type} {N : Nat} {Q : Nat → Prop} {w v : Int32} {R : Int → ρ → Prop} {fin : Option ρ} {body : Int32 → Int32 → Option ((Int32 × Int32) ⊕ ρ)} {step : Int32 × Int32 → Option ((Int32 × Int32) ⊕ ρ)} (hN : N < 90000) (hw : w.toInt = (N : Int)) (hstep : ∀ c i, step (c, i) = if w ≤ i then omap fin else body c i)
    (hb : ∀ k c i, k < N → i.toInt = (k : Int) → Ok (body c i) (Pd (Q k) c i (R k))) (hf : Ok fin (R (-1))) : Ok (iter step FU (v, 0)) (R (pick (fl Q (fun x => x) N) v.toInt)) := by
  refine Ok_pickd N Q (fun x => x) v hN i32_0 ?_ ?_
  · intro k c i hk hi
    rw [hstep]
    exact Ok_ite (fun q => by rw [i32_le] at q; omega) (fun _ => hb k c i hk hi)
  · intro c i hi
    rw [hstep]
    exact Ok_ite (fun _ => Ok_omap hf) (fun q => by rw [i32_le] at q; omega)
/-- the first of a row is the least -/
theorem fl_first {Q : Nat → Prop} {n e : Nat} (he : e < n) (hq : Q e) (hno : ∀ i, i < e → ¬ Q i) : ∃ L, fl Q (fun x => x) n = e :: L := by
  induction n with
  | zero => omega
  | succ n ih =>
    by_cases h : e = n
    · subst h
      have h0 : fl Q (fun x => x) e = [] := by
        rw [← List.length_eq_zero_iff, fl_len]
        exact cnt_none hno
      rw [fl_t hq, h0]
      exact ⟨[], rfl⟩
    · obtain ⟨L, hL⟩ := ih (by omega)
      by_cases h2 : Q n
      · rw [fl_t h2, hL]; exact ⟨_, rfl⟩
      · rw [fl_f h2, hL]; exact ⟨_, rfl⟩
theorem pick_0 {Q : Nat → Prop} {n v : Nat} (hv : v < n) (hq : Q v) : pick (fl Q (fun x => x) n) 0 = (lea Q n : Int) := by
  have h := lea_lt (P := Q) hv hq
  obtain ⟨L, hL⟩ := fl_first h.2.1 h.2.2 (lea_spec (P := Q) (n := n)).2.2
  rw [hL]
  rfl
end H2
