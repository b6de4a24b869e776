/-! PURE LAYER: more of steps and loops -/
section H1
theorem Ok_tf {β : Type} {o : Option Bool} {P : Prop} {A B : Option β} {R : β → Prop} (h : Ok o (fun r => r = true ↔ P)) (ht : P → Ok A R) (hf : ¬ P → Ok B R) : Ok (o.bind fun g => if g = true then A else B) R :=
  Ok_then h (fun g hg => Ok_ite (fun q => ht (hg.mp q)) (fun q => hf (fun z => q (hg.mpr z))))
theorem Ok_eqv {β : Type} {o : Option Int32} {w : Int32} {a b : Int} {A B : Option β} {R : β → Prop} (h : Ok o (fun r => r.toInt = a)) (hb : w.toInt = b) (ht : a = b → Ok A R) (hf : a ≠ b → Ok B R) : Ok (o.bind fun g => if g = w then A else B) R :=
  Ok_then h (fun g hg => Ok_ite (fun q => ht (by rw [q, hb] at hg; exact hg.symm)) (fun q => hf (fun z => q (i32_ext (by rw [hg, hb]; exact z)))))
theorem Ok_eqr {β : Type} {f : Nat → Int32} {n k : Nat} {i w : Int32} {a b : Int} {A B : Option β} {R : β → Prop} (hi : i.toInt = (k : Int)) (hk : k < n) (ha : (f k).toInt = a) (hb : w.toInt = b) (ht : a = b → Ok A R) (hf : a ≠ b → Ok B R) : Ok ((rd f n i).bind fun g => if g = w then A else B) R :=
  Ok_eqv (Ok_rd1 (P := fun r : Int32 => r.toInt = a) hi hk ha) hb ht hf
theorem Ok_ieq {β : Type} {g w : Int32} {a b : Int} {A B : Option β} {R : β → Prop} (ha : g.toInt = a) (hb : w.toInt = b) (ht : a = b → Ok A R) (hf : a ≠ b → Ok B R) : Ok (if g = w then A else B) R :=
  Ok_ite (fun q => ht (by rw [q, hb] at ha; exact ha.symm)) (fun q => hf (fun z => q (i32_ext (by rw [ha, hb]; exact z))))
theorem Ok_ile {β : Type} {g w : Int32} {a b : Int} {A B : Option β} {R : β → Prop} (ha : g.toInt = a) (hb : w.toInt = b) (ht : a ≤ b → Ok A R) (hf : b < a → Ok B R) : Ok (if g ≤ w then A else B) R :=
  Ok_ite (fun q => ht (by rw [i32_le, ha, hb] at q; exact q)) (fun q => hf (by rw [i32_le, ha, hb] at q; omega))
theorem Ok_ilt {β : Type} {g w : Int32} {a b : Int} {A B : Option β} {R : β → Prop} (ha : g.toInt = a) (hb : w.toInt = b) (ht : a < b → Ok A R) (hf : b ≤ a → Ok B R) : Ok (if g < w then A else B) R :=
  Ok_ite (fun q => ht (by rw [i32_lt, ha, hb] at q; exact q)) (fun q => hf (by rw [i32_lt, ha, hb] at q; omega))
/-- a counting step -/
def Cs {ρ : Type} (Q : Prop) (c i : Int32) (r : (Int32 × Int32) ⊕ ρ) : Prop := (Q ∧ r = .inl (c + 1, i + 1)) ∨ (¬ Q ∧ r = .inl (c, i + 1))
theorem Cs_t {ρ : Type} {Q : Prop} {c i : Int32} (h : Q) : Ok (some (.inl (c + 1, i + 1)) : Option ((Int32 × Int32) ⊕ ρ)) (Cs Q c i) := Ok_some (Or.inl ⟨h, rfl⟩)
theorem Cs_f {ρ : Type} {Q : Prop} {c i : Int32} (h : ¬ Q) : Ok (some (.inl (c, i + 1)) : Option ((Int32 × Int32) ⊕ ρ)) (Cs Q c i) := Ok_some (Or.inr ⟨h, rfl⟩)
theorem Ok_cntw {N : Nat} {Q : Nat → Prop} {w : Int32} {body : Int32 → Int32 → Option ((Int32 × Int32) ⊕ Int32)} {step : Int32 × Int32 → Option ((Int32 × Int32) ⊕ Int32)} (hN : N < 90000) (hw : w.toInt = (N : Int)) (hstep : ∀ c i, step (c, i) = if w ≤ i then omap (some c) else body c i)
    (hb : ∀ k c i, k < N → i.toInt = (k : Int) → Ok (body c i) (Cs (Q k) c i)) : Ok (iter step FU (0, 0)) (fun r => r.toInt = (cnt Q N : Int)) := by
  refine Ok_cnt N Q hN i32_0 i32_0 ?_ ?_
  · intro k c i hk hi
    rw [hstep]
    exact Ok_ite (fun q => by rw [i32_le] at q; omega) (fun _ => hb k c i hk hi)
  · intro c i hi hc
    rw [hstep]
    exact Ok_ite (fun _ => Ok_omap (Ok_some hc)) (fun q => by rw [i32_le] at q; omega)
/-- the same, answered together with a state -/
theorem Ok_cntx {ρ : Type} {N : Nat} {Q : Nat → Prop} {w : Int32} {fin : Int32 → Option ρ} {P : ρ → Prop} {body : Int32 → Int32 → Option ((Int32 × Int32) ⊕ ρ)} {step : Int32 × Int32 → Option ((Int32 × Int32) ⊕ ρ)} (hN : N < 90000) (hw : w.toInt = (N : Int)) (hstep : ∀ c i, step (c, i) = if w ≤ i then omap (fin c) else body c i)
    (hb : ∀ k c i, k < N → i.toInt = (k : Int) → Ok (body c i) (Cs (Q k) c i)) (hf : ∀ c : Int32, c.toInt = (cnt Q N : Int) → Ok (fin c) P) : Ok (iter step FU (0, 0)) P := by
  refine Ok_cnt N Q hN i32_0 i32_0 ?_ ?_
  · intro k c i hk hi
    rw [hstep]
    exact Ok_ite (fun q => by rw [i32_le] at q; omega) (fun _ => hb k c i hk hi)
  · intro c i hi hc
    rw [hstep]
    exact Ok_ite (fun _ => Ok_omap (hf c hc)) (fun q => by rw [i32_le] at q; omega)
theorem i64_w1 (a : Int32) : (a.toInt64 - 1).toInt = a.toInt - 1 := by
  have h := i32_rng a
  rw [Int64.toInt_sub, i32_w]
  exact Int.bmod_eq_of_le (by have : (1 : Int64).toInt = 1 := by decide
                              omega) (by have : (1 : Int64).toInt = 1 := by decide
                                         omega)
theorem i64_0 : (0 : Int64).toInt = 0 := by decide
theorem i64_1 : (1 : Int64).toInt = 1 := by decide
theorem i64_2 : (2 : Int64).toInt = 2 := by decide
theorem i64_3 : (3 : Int64).toInt = 3 := by decide
theorem i64_32 : (32 : Int64).toInt = 32 := by decide
end H1
