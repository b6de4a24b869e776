/-! base: pure pieces -/
def rd {α : Type} (f : Nat → α) (n : Nat) (i : Int32) : Option α := if i < 0 ∨ n ≤ i.toNatClampNeg then none else some (f i.toNatClampNeg)
def wr {α : Type} (f : Nat → α) (n : Nat) (i : Int32) (x : α) : Option (Nat → α) := if i < 0 ∨ n ≤ i.toNatClampNeg then none else some (va_up f i.toNatClampNeg x)
def dv (x y : Int32) : Option Int32 := if y = 0 then none else some (x / y)
def rm (x y : Int32) : Option Int32 := if y = 0 then none else some (x - x / y * y)
theorem rd_some {α : Type} {f : Nat → α} {n : Nat} {i : Int32} {v : α} (h : rd f n i = some v) : vp_in i n ∧ f i.toNatClampNeg = v := by
  unfold rd at h
  by_cases c : i < 0 ∨ n ≤ i.toNatClampNeg
  · rw [if_pos c] at h; cases h
  · rw [if_neg c] at h; exact ⟨c, Option.some.inj h⟩
theorem wr_some {α : Type} {f g : Nat → α} {n : Nat} {i : Int32} {x : α} (h : wr f n i x = some g) : vp_in i n ∧ va_up f i.toNatClampNeg x = g := by
  unfold wr at h
  by_cases c : i < 0 ∨ n ≤ i.toNatClampNeg
  · rw [if_pos c] at h; cases h
  · rw [if_neg c] at h; exact ⟨c, Option.some.inj h⟩
theorem dv_some {x y v : Int32} (h : dv x y = some v) : ¬ y = 0 ∧ x / y = v := by
  unfold dv at h
  by_cases c : y = 0
  · rw [if_pos c] at h; cases h
  · rw [if_neg c] at h; exact ⟨c, Option.some.inj h⟩
theorem rm_some {x y v : Int32} (h : rm x y = some v) : ¬ y = 0 ∧ x - x / y * y = v := by
  unfold rm at h
  by_cases c : y = 0
  · rw [if_pos c] at h; cases h
  · rw [if_neg c] at h; exact ⟨c, Option.some.inj h⟩
def b2i (b : Bool) : Int32 := if b = true then 1 else 0
def FU : Nat := 100000
def iter {σ ρ : Type} (step : σ → Option (σ ⊕ ρ)) : Nat → σ → Option ρ
  | 0, _ => none
  | n + 1, s => match step s with
    | none => none
    | some (.inl s') => iter step n s'
    | some (.inr r) => some r
def itK {σ ρ : Type} (step : σ → Option (σ ⊕ ρ)) (n : Nat) (r : ρ) : σ ⊕ ρ → Prop
  | .inl s => iter step n s = some r
  | .inr t => t = r
theorem iter_zero {σ ρ : Type} {step : σ → Option (σ ⊕ ρ)} {s : σ} {r : ρ} {P : Prop} (h : iter step 0 s = some r) : P := by cases h
theorem iter_succ {σ ρ : Type} {step : σ → Option (σ ⊕ ρ)} {n : Nat} {s : σ} {r : ρ} (h : iter step (n + 1) s = some r) : ∃ q, step s = some q ∧ itK step n r q := by
  unfold iter at h
  cases hs : step s with
  | none => rw [hs] at h; cases h
  | some q =>
    rw [hs] at h
    cases q with
    | inl s' => exact ⟨_, rfl, h⟩
    | inr t => exact ⟨_, rfl, Option.some.inj h⟩
theorem ob_bind {α β : Type} {a : Option α} {f : α → Option β} {r : β} (h : a.bind f = some r) : ∃ x, a = some x ∧ f x = some r := by
  cases a with
  | none => cases h
  | some x => exact ⟨x, rfl, h⟩
theorem narrow_b2i (b : Bool) : narrow .boolean (.int (b2i b)) = .int (b2i b) := by cases b <;> rfl
/-- what the tables say of the calls of another class's private static methods -/
def nwAll (U : State) : Prop := va_Nw (.methodLinkNest RX1 31 yX5_holds RX5) U ∧ va_Nw (.methodLinkNest RX2 63 yX5_bit RX5) U ∧ va_Nw (.methodLinkNest RX2 83 yX5_holds RX5) U ∧ va_Nw (.methodLinkNest RX4 92 yX5_bit RX5) U
theorem nwAll.same {u U : State} (h : u.vm = U.vm) (hN : nwAll u) : nwAll U := ⟨hN.1.same rfl h, hN.2.1.same rfl h, hN.2.2.1.same rfl h, hN.2.2.2.same rfl h⟩
theorem nwAll.warm {s U : State} (hW : s.WarmedH U.vm) (hN : nwAll s) : nwAll U := ⟨va_Nw.warmM hW hN.1, va_Nw.warmM hW hN.2.1, va_Nw.warmM hW hN.2.2.1, va_Nw.warmM hW hN.2.2.2⟩
abbrev vTy (cI cJ : ClassId) : List (ClassId × FieldType) := [(cI, .int), (cJ, .long)]
/-- a contract's start: of a method that writes nothing; of one that writes -/
def PcR (av : List Value) (Hh : Heap) (D : va_G) (tys : List (ClassId × FieldType)) (ws : va_W) : Array Value → State → Prop := va_Pc av (fun U => U.heap = Hh ∧ va_P D vwCl ws Hh ∧ va_K D vwCl tys U ∧ nwAll U)
def PcW (av : List Value) (sz : Nat) (D : va_G) (tys : List (ClassId × FieldType)) (ws : va_W) : Array Value → State → Prop := va_Pc av (fun U => U.heap.size = sz ∧ va_P D vwCl ws U.heap ∧ va_K D vwCl tys U ∧ va_D (fun _ => True) ws ∧ nwAll U)
theorem PcR.blind {av : List Value} {Hh : Heap} {D : va_G} {tys : List (ClassId × FieldType)} {ws : va_W} : FrameBlind (PcR av Hh D tys ws) := by
  intro a U g mk q
  obtain ⟨q0, q1, qP, qK, qN⟩ := q
  exact ⟨q0, q1, qP, va_K.moved (u := U) (U := U.calling g mk a) (Vm.Alike.refl U.vm) qK, nwAll.same (u := U) (U := U.calling g mk a) rfl qN⟩
theorem PcW.blind {av : List Value} {sz : Nat} {D : va_G} {tys : List (ClassId × FieldType)} {ws : va_W} : FrameBlind (PcW av sz D tys ws) := by
  intro a U g mk q
  obtain ⟨q0, q1, qP, qK, qD, qN⟩ := q
  exact ⟨q0, q1, qP, va_K.moved (u := U) (U := U.calling g mk a) (Vm.Alike.refl U.vm) qK, qD, nwAll.same (u := U) (U := U.calling g mk a) rfl qN⟩
abbrev NoA : Nat → Prop := fun _ => False
abbrev QRi (Hh : Heap) (r : Int32) : Array Value → State → Outcome → State → Prop := va_Qi (fun v (_ : Unit) => v = r) (fun _ t => t.heap = Hh) NoA
abbrev QRj (Hh : Heap) (r : Int64) : Array Value → State → Outcome → State → Prop := va_Ql (fun v (_ : Unit) => v = r) (fun _ t => t.heap = Hh) NoA
abbrev QRv (Hh : Heap) : Array Value → State → Outcome → State → Prop := va_Qv (fun (_ : Unit) => True) (fun _ t => t.heap = Hh) NoA
abbrev QWi (D : va_G) (A : Nat → Prop) (w : va_W) (r : Int32) : Array Value → State → Outcome → State → Prop := va_Qi (fun v (_ : Unit) => v = r) (fun _ t => va_P D vwCl w t.heap ∧ va_D A w) A
abbrev QWv (D : va_G) (A : Nat → Prop) (w : va_W) : Array Value → State → Outcome → State → Prop := va_Qv (fun (_ : Unit) => True) (fun _ t => va_P D vwCl w t.heap ∧ va_D A w) A
abbrev MRi (l : Launch) (y : MethodName) (wy : List Cond) (rm : Room) (av : List Value) (Hh : Heap) (D : va_G) (tys : List (ClassId × FieldType)) (ws : va_W) (r : Int32) : Prop := Met l y wy rm (PcR av Hh D tys ws) (QRi Hh r) 0 0 NoA
abbrev MRj (l : Launch) (y : MethodName) (wy : List Cond) (rm : Room) (av : List Value) (Hh : Heap) (D : va_G) (tys : List (ClassId × FieldType)) (ws : va_W) (r : Int64) : Prop := Met l y wy rm (PcR av Hh D tys ws) (QRj Hh r) 0 0 NoA
abbrev MRv (l : Launch) (y : MethodName) (wy : List Cond) (rm : Room) (av : List Value) (Hh : Heap) (D : va_G) (tys : List (ClassId × FieldType)) (ws : va_W) : Prop := Met l y wy rm (PcR av Hh D tys ws) (QRv Hh) 0 0 NoA
abbrev MWi (l : Launch) (y : MethodName) (wy : List Cond) (rm : Room) (av : List Value) (sz : Nat) (D : va_G) (tys : List (ClassId × FieldType)) (ws w' : va_W) (r : Int32) : Prop := Met l y wy rm (PcW av sz D tys ws) (QWi D (va_A ws sz) w' r) 0 0 (va_A ws sz)
abbrev MWv (l : Launch) (y : MethodName) (wy : List Cond) (rm : Room) (av : List Value) (sz : Nat) (D : va_G) (tys : List (ClassId × FieldType)) (ws w' : va_W) : Prop := Met l y wy rm (PcW av sz D tys ws) (QWv D (va_A ws sz) w') 0 0 (va_A ws sz)

/-! a method's opening -/
theorem kg_metR {l : Launch} {y : MethodName} {wy wy' : List Cond} {rm : Room} {cc : ByteArray} {maxL : Nat} {ret : Option FieldType} {av : List Value} {Hh : Heap} {D : va_G} {tys : List (ClassId × FieldType)} {ws : va_W} {Qc : Array Value → State → Outcome → State → Prop}
    (hy : plainName y.cls = true) (hw : wy = Cond.code y cc maxL ret :: wy') (hn : (lg_sl av).length ≤ maxL)
    (body : ∀ (p : Program) (e : Env) (s : State) (m : MethodId) (args : Array Value) (below : List Frame) (meth : Method) (c : Code), p.tables.exec = Jvm.exec → c.code = cc → meth.sig.returnType = ret → (∀ w ∈ wy, w.before args s = true) → s.vm.findClass y.cls = some m.cls → meth.locks = false → c.maxLocals = maxL → s.heap = Hh → va_P D vwCl ws s.heap → va_K D vwCl tys s → nwAll s → ∀ ls : Array Slot, lv_has ls maxL (lv_args 0 av) → W p l e rm s m args below meth c s.heap [] 0 0 (MQ below Qc args s 0 0 NoA) (F0 m 0 ls [])) : Met l y wy rm (PcR av Hh D tys ws) Qc 0 0 NoA := by
  refine Met.ofW (cc := cc) (maxL := maxL) (ret := ret) hy hw ?_
  intro p e s m args below meth c s₁ B hml hv
  obtain ⟨rfl, hH, hP, hK, hN⟩ := hv
  have hl := lv_entry av (n := maxL) hn
  rw [lg_entry_eq]
  subst hH
  exact body p e s m _ below meth c B.exec B.bytes B.returns (atoms_spec (ws := wy) B.pre) (findClass_of_methodNamed B.named) B.notSynchronized hml rfl hP hK hN _ hl
theorem kg_metW {l : Launch} {y : MethodName} {wy wy' : List Cond} {rm : Room} {cc : ByteArray} {maxL : Nat} {ret : Option FieldType} {av : List Value} {sz : Nat} {D : va_G} {tys : List (ClassId × FieldType)} {ws : va_W} {Qc : (Nat → Prop) → Array Value → State → Outcome → State → Prop}
    (hy : plainName y.cls = true) (hw : wy = Cond.code y cc maxL ret :: wy') (hn : (lg_sl av).length ≤ maxL)
    (body : ∀ (p : Program) (e : Env) (s : State) (m : MethodId) (args : Array Value) (below : List Frame) (meth : Method) (c : Code) (A : Nat → Prop), p.tables.exec = Jvm.exec → c.code = cc → meth.sig.returnType = ret → (∀ w ∈ wy, w.before args s = true) → s.vm.findClass y.cls = some m.cls → meth.locks = false → c.maxLocals = maxL → va_P D vwCl ws s.heap → va_K D vwCl tys s → nwAll s → va_D A ws → (∀ q : Nat, s.heap.size ≤ q → A q) → va_S A s.heap s.heap [] → ∀ ls : Array Slot, lv_has ls maxL (lv_args 0 av) → W p l e rm s m args below meth c s.heap [] 0 0 (MQ below (Qc A) args s 0 0 A) (F0 m 0 ls [])) : Met l y wy rm (PcW av sz D tys ws) (Qc (va_A ws sz)) 0 0 (va_A ws sz) := by
  refine Met.ofW (cc := cc) (maxL := maxL) (ret := ret) hy hw ?_
  intro p e s m args below meth c s₁ B hml hv
  obtain ⟨rfl, hsz, hP, hK, hD0, hN⟩ := hv
  have hl := lv_entry av (n := maxL) hn
  rw [lg_entry_eq]
  subst hsz
  exact body p e s m _ below meth c _ B.exec B.bytes B.returns (atoms_spec (ws := wy) B.pre) (findClass_of_methodNamed B.named) B.notSynchronized hml hP hK hN hD0.self (fun q h => Or.inr h) va_S.rf _ hl
section KG
variable {p : Program} {l : Launch} {e : Env} {R : Room} {s : State} {m : MethodId} {args : Array Value} {below : List Frame} {meth : Method} {c : Code} {H : Heap} {locs : List Loc} {cells slots : Nat} {Q : State → Prop}
variable {pc : Nat} {ls : Array Slot} {rest : List Value} {D : va_G} {tys : List (ClassId × FieldType)} {ws : va_W} {A : Nat → Prop} {H0 : Heap} {a : Nat} {cc : ByteArray}

theorem kg_icmp_eq {α : Type} {Ct Cf o : α} (hx : p.tables.exec = Jvm.exec) (hb : c.code = cc) {x y : Int32} {off : Int} {tgt : Nat} (hf : (if x = y then Ct else Cf) = o) (hdg : decode cc pc = .ok (.if_icmp .eq off, 3)) (ht : (pc : Int) + off = (tgt : Int)) (kt : x = y → Ct = o → W p l e R s m args below meth c H locs cells slots Q (F0 m tgt ls rest)) (kf : ¬ x = y → Cf = o → W p l e R s m args below meth c H locs cells slots Q (F0 m (pc + 3) ls rest)) : W p l e R s m args below meth c H locs cells slots Q (F0 m pc ls (.int y :: .int x :: rest)) :=
  lv_icmp_eq hx hb hdg ht (fun q => kt q (by rw [if_pos q] at hf; exact hf)) (fun q => kf q (by rw [if_neg q] at hf; exact hf))
theorem kg_if_eq {α : Type} {Ct Cf o : α} (hx : p.tables.exec = Jvm.exec) (hb : c.code = cc) {x : Int32} {off : Int} {tgt : Nat} (hf : (if x = 0 then Ct else Cf) = o) (hdg : decode cc pc = .ok (.ifCond .eq off, 3)) (ht : (pc : Int) + off = (tgt : Int)) (kt : x = 0 → Ct = o → W p l e R s m args below meth c H locs cells slots Q (F0 m tgt ls rest)) (kf : ¬ x = 0 → Cf = o → W p l e R s m args below meth c H locs cells slots Q (F0 m (pc + 3) ls rest)) : W p l e R s m args below meth c H locs cells slots Q (F0 m pc ls (.int x :: rest)) :=
  lv_if_eq hx hb hdg ht (fun q => kt q (by rw [if_pos q] at hf; exact hf)) (fun q => kf q (by rw [if_neg q] at hf; exact hf))
theorem kg_icmp_ne {α : Type} {Ct Cf o : α} (hx : p.tables.exec = Jvm.exec) (hb : c.code = cc) {x y : Int32} {off : Int} {tgt : Nat} (hf : (if x = y then Cf else Ct) = o) (hdg : decode cc pc = .ok (.if_icmp .ne off, 3)) (ht : (pc : Int) + off = (tgt : Int)) (kt : ¬ x = y → Ct = o → W p l e R s m args below meth c H locs cells slots Q (F0 m tgt ls rest)) (kf : x = y → Cf = o → W p l e R s m args below meth c H locs cells slots Q (F0 m (pc + 3) ls rest)) : W p l e R s m args below meth c H locs cells slots Q (F0 m pc ls (.int y :: .int x :: rest)) := by
  by_cases cq : x = y
  · rw [if_pos cq] at hf
    exact lv_icmp_ne hx hb hdg ht (fun q => absurd cq q) (fun _ => kf cq hf)
  · rw [if_neg cq] at hf
    exact lv_icmp_ne hx hb hdg ht (fun _ => kt cq hf) (fun q => absurd q cq)
theorem kg_if_ne {α : Type} {Ct Cf o : α} (hx : p.tables.exec = Jvm.exec) (hb : c.code = cc) {x : Int32} {off : Int} {tgt : Nat} (hf : (if x = 0 then Cf else Ct) = o) (hdg : decode cc pc = .ok (.ifCond .ne off, 3)) (ht : (pc : Int) + off = (tgt : Int)) (kt : ¬ x = 0 → Ct = o → W p l e R s m args below meth c H locs cells slots Q (F0 m tgt ls rest)) (kf : x = 0 → Cf = o → W p l e R s m args below meth c H locs cells slots Q (F0 m (pc + 3) ls rest)) : W p l e R s m args below meth c H locs cells slots Q (F0 m pc ls (.int x :: rest)) := by
  by_cases cq : x = 0
  · rw [if_pos cq] at hf
    exact lv_if_ne hx hb hdg ht (fun q => absurd cq q) (fun _ => kf cq hf)
  · rw [if_neg cq] at hf
    exact lv_if_ne hx hb hdg ht (fun _ => kt cq hf) (fun q => absurd q cq)
theorem kg_icmp_lt {α : Type} {Ct Cf o : α} (hx : p.tables.exec = Jvm.exec) (hb : c.code = cc) {x y : Int32} {off : Int} {tgt : Nat} (hf : (if x < y then Ct else Cf) = o) (hdg : decode cc pc = .ok (.if_icmp .lt off, 3)) (ht : (pc : Int) + off = (tgt : Int)) (kt : x < y → Ct = o → W p l e R s m args below meth c H locs cells slots Q (F0 m tgt ls rest)) (kf : ¬ x < y → Cf = o → W p l e R s m args below meth c H locs cells slots Q (F0 m (pc + 3) ls rest)) : W p l e R s m args below meth c H locs cells slots Q (F0 m pc ls (.int y :: .int x :: rest)) :=
  lv_icmp_lt hx hb hdg ht (fun q => kt q (by rw [if_pos q] at hf; exact hf)) (fun q => kf q (by rw [if_neg q] at hf; exact hf))
theorem kg_if_lt {α : Type} {Ct Cf o : α} (hx : p.tables.exec = Jvm.exec) (hb : c.code = cc) {x : Int32} {off : Int} {tgt : Nat} (hf : (if x < 0 then Ct else Cf) = o) (hdg : decode cc pc = .ok (.ifCond .lt off, 3)) (ht : (pc : Int) + off = (tgt : Int)) (kt : x < 0 → Ct = o → W p l e R s m args below meth c H locs cells slots Q (F0 m tgt ls rest)) (kf : ¬ x < 0 → Cf = o → W p l e R s m args below meth c H locs cells slots Q (F0 m (pc + 3) ls rest)) : W p l e R s m args below meth c H locs cells slots Q (F0 m pc ls (.int x :: rest)) :=
  lv_if_lt hx hb hdg ht (fun q => kt q (by rw [if_pos q] at hf; exact hf)) (fun q => kf q (by rw [if_neg q] at hf; exact hf))
theorem kg_icmp_ge {α : Type} {Ct Cf o : α} (hx : p.tables.exec = Jvm.exec) (hb : c.code = cc) {x y : Int32} {off : Int} {tgt : Nat} (hf : (if y ≤ x then Ct else Cf) = o) (hdg : decode cc pc = .ok (.if_icmp .ge off, 3)) (ht : (pc : Int) + off = (tgt : Int)) (kt : y ≤ x → Ct = o → W p l e R s m args below meth c H locs cells slots Q (F0 m tgt ls rest)) (kf : ¬ y ≤ x → Cf = o → W p l e R s m args below meth c H locs cells slots Q (F0 m (pc + 3) ls rest)) : W p l e R s m args below meth c H locs cells slots Q (F0 m pc ls (.int y :: .int x :: rest)) :=
  lv_icmp_ge hx hb hdg ht (fun q => kt q (by rw [if_pos q] at hf; exact hf)) (fun q => kf q (by rw [if_neg q] at hf; exact hf))
theorem kg_if_ge {α : Type} {Ct Cf o : α} (hx : p.tables.exec = Jvm.exec) (hb : c.code = cc) {x : Int32} {off : Int} {tgt : Nat} (hf : (if 0 ≤ x then Ct else Cf) = o) (hdg : decode cc pc = .ok (.ifCond .ge off, 3)) (ht : (pc : Int) + off = (tgt : Int)) (kt : 0 ≤ x → Ct = o → W p l e R s m args below meth c H locs cells slots Q (F0 m tgt ls rest)) (kf : ¬ 0 ≤ x → Cf = o → W p l e R s m args below meth c H locs cells slots Q (F0 m (pc + 3) ls rest)) : W p l e R s m args below meth c H locs cells slots Q (F0 m pc ls (.int x :: rest)) :=
  lv_if_ge hx hb hdg ht (fun q => kt q (by rw [if_pos q] at hf; exact hf)) (fun q => kf q (by rw [if_neg q] at hf; exact hf))
theorem kg_icmp_gt {α : Type} {Ct Cf o : α} (hx : p.tables.exec = Jvm.exec) (hb : c.code = cc) {x y : Int32} {off : Int} {tgt : Nat} (hf : (if y < x then Ct else Cf) = o) (hdg : decode cc pc = .ok (.if_icmp .gt off, 3)) (ht : (pc : Int) + off = (tgt : Int)) (kt : y < x → Ct = o → W p l e R s m args below meth c H locs cells slots Q (F0 m tgt ls rest)) (kf : ¬ y < x → Cf = o → W p l e R s m args below meth c H locs cells slots Q (F0 m (pc + 3) ls rest)) : W p l e R s m args below meth c H locs cells slots Q (F0 m pc ls (.int y :: .int x :: rest)) :=
  lv_icmp_gt hx hb hdg ht (fun q => kt q (by rw [if_pos q] at hf; exact hf)) (fun q => kf q (by rw [if_neg q] at hf; exact hf))
theorem kg_if_gt {α : Type} {Ct Cf o : α} (hx : p.tables.exec = Jvm.exec) (hb : c.code = cc) {x : Int32} {off : Int} {tgt : Nat} (hf : (if 0 < x then Ct else Cf) = o) (hdg : decode cc pc = .ok (.ifCond .gt off, 3)) (ht : (pc : Int) + off = (tgt : Int)) (kt : 0 < x → Ct = o → W p l e R s m args below meth c H locs cells slots Q (F0 m tgt ls rest)) (kf : ¬ 0 < x → Cf = o → W p l e R s m args below meth c H locs cells slots Q (F0 m (pc + 3) ls rest)) : W p l e R s m args below meth c H locs cells slots Q (F0 m pc ls (.int x :: rest)) :=
  lv_if_gt hx hb hdg ht (fun q => kt q (by rw [if_pos q] at hf; exact hf)) (fun q => kf q (by rw [if_neg q] at hf; exact hf))
theorem kg_icmp_le {α : Type} {Ct Cf o : α} (hx : p.tables.exec = Jvm.exec) (hb : c.code = cc) {x y : Int32} {off : Int} {tgt : Nat} (hf : (if x ≤ y then Ct else Cf) = o) (hdg : decode cc pc = .ok (.if_icmp .le off, 3)) (ht : (pc : Int) + off = (tgt : Int)) (kt : x ≤ y → Ct = o → W p l e R s m args below meth c H locs cells slots Q (F0 m tgt ls rest)) (kf : ¬ x ≤ y → Cf = o → W p l e R s m args below meth c H locs cells slots Q (F0 m (pc + 3) ls rest)) : W p l e R s m args below meth c H locs cells slots Q (F0 m pc ls (.int y :: .int x :: rest)) :=
  lv_icmp_le hx hb hdg ht (fun q => kt q (by rw [if_pos q] at hf; exact hf)) (fun q => kf q (by rw [if_neg q] at hf; exact hf))
theorem kg_if_le {α : Type} {Ct Cf o : α} (hx : p.tables.exec = Jvm.exec) (hb : c.code = cc) {x : Int32} {off : Int} {tgt : Nat} (hf : (if x ≤ 0 then Ct else Cf) = o) (hdg : decode cc pc = .ok (.ifCond .le off, 3)) (ht : (pc : Int) + off = (tgt : Int)) (kt : x ≤ 0 → Ct = o → W p l e R s m args below meth c H locs cells slots Q (F0 m tgt ls rest)) (kf : ¬ x ≤ 0 → Cf = o → W p l e R s m args below meth c H locs cells slots Q (F0 m (pc + 3) ls rest)) : W p l e R s m args below meth c H locs cells slots Q (F0 m pc ls (.int x :: rest)) :=
  lv_if_le hx hb hdg ht (fun q => kt q (by rw [if_pos q] at hf; exact hf)) (fun q => kf q (by rw [if_neg q] at hf; exact hf))
theorem b2i_t : ¬ b2i true = 0 := by decide
theorem b2i_f : b2i false = 0 := by decide
theorem kg_b_eq {α : Type} {Ct Cf o : α} (hx : p.tables.exec = Jvm.exec) (hb : c.code = cc) {b : Bool} {off : Int} {tgt : Nat} (hf : (if b = true then Cf else Ct) = o) (hdg : decode cc pc = .ok (.ifCond .eq off, 3)) (ht : (pc : Int) + off = (tgt : Int)) (kt : b = false → Ct = o → W p l e R s m args below meth c H locs cells slots Q (F0 m tgt ls rest)) (kf : b = true → Cf = o → W p l e R s m args below meth c H locs cells slots Q (F0 m (pc + 3) ls rest)) : W p l e R s m args below meth c H locs cells slots Q (F0 m pc ls (.int (b2i b) :: rest)) := by
  cases b with
  | true => exact lv_if_eq hx hb hdg ht (fun q => absurd q b2i_t) (fun _ => kf rfl (by simpa using hf))
  | false => exact lv_if_eq hx hb hdg ht (fun _ => kt rfl (by simpa using hf)) (fun q => absurd b2i_f q)
theorem kg_b_ne {α : Type} {Ct Cf o : α} (hx : p.tables.exec = Jvm.exec) (hb : c.code = cc) {b : Bool} {off : Int} {tgt : Nat} (hf : (if b = true then Ct else Cf) = o) (hdg : decode cc pc = .ok (.ifCond .ne off, 3)) (ht : (pc : Int) + off = (tgt : Int)) (kt : b = true → Ct = o → W p l e R s m args below meth c H locs cells slots Q (F0 m tgt ls rest)) (kf : b = false → Cf = o → W p l e R s m args below meth c H locs cells slots Q (F0 m (pc + 3) ls rest)) : W p l e R s m args below meth c H locs cells slots Q (F0 m pc ls (.int (b2i b) :: rest)) := by
  cases b with
  | true => exact lv_if_ne hx hb hdg ht (fun _ => kt rfl (by simpa using hf)) (fun q => absurd q b2i_t)
  | false => exact lv_if_ne hx hb hdg ht (fun q => absurd b2i_f q) (fun _ => kf rfl (by simpa using hf))
theorem kg_iald (hx : p.tables.exec = Jvm.exec) (hb : c.code = cc) (hK : va_K D vwCl tys s) (hP : va_P D vwCl ws H) (q0 t0 : Nat) {cA : ClassId} {n : Nat} {f : Nat → Int32} {i v : Int32} (ha : ws[q0]? = some (a, .inl (cA, n, .inl f))) (ht : tys[t0]? = some (cA, .int)) (hv : rd f n i = some v) (hdg : decode cc pc = .ok (.iaload, 1)) (kk : W p l e R s m args below meth c H locs cells slots Q (F0 m (pc + 1) ls (.int v :: rest))) : W p l e R s m args below meth c H locs cells slots Q (F0 m pc ls (.int i :: .ref a :: rest)) := by
  obtain ⟨h1, h2⟩ := rd_some hv
  exact va_iald hx hb hK hP q0 t0 ha ht h1 hdg (by rw [h2]; exact kk)
theorem kg_lald (hx : p.tables.exec = Jvm.exec) (hb : c.code = cc) (hK : va_K D vwCl tys s) (hP : va_P D vwCl ws H) (q0 t0 : Nat) {cA : ClassId} {n : Nat} {f : Nat → Int64} {i : Int32} {v : Int64} (ha : ws[q0]? = some (a, .inl (cA, n, .inr (.inl f)))) (ht : tys[t0]? = some (cA, .long)) (hv : rd f n i = some v) (hdg : decode cc pc = .ok (.laload, 1)) (kk : W p l e R s m args below meth c H locs cells slots Q (F0 m (pc + 1) ls (.long v :: rest))) : W p l e R s m args below meth c H locs cells slots Q (F0 m pc ls (.int i :: .ref a :: rest)) := by
  obtain ⟨h1, h2⟩ := rd_some hv
  exact va_lald hx hb hK hP q0 t0 ha ht h1 hdg (by rw [h2]; exact kk)
theorem kg_iast (hx : p.tables.exec = Jvm.exec) (hb : c.code = cc) (hK : va_K D vwCl tys s) (hP : va_P D vwCl ws H) (hD : va_D A ws) (hS : va_S A H0 H locs) (q0 t0 : Nat) {cA : ClassId} {n : Nat} {f g : Nat → Int32} {i x : Int32} (ha : ws[q0]? = some (a, .inl (cA, n, .inl f))) (ht : tys[t0]? = some (cA, .int)) (hv : wr f n i x = some g) (hdg : decode cc pc = .ok (.iastore, 1)) {wz : va_W} (hz : ws.set q0 (a, .inl (cA, n, .inl g)) = wz) (kk : ∀ (H1 : Heap) (locs1 : List Loc), va_P D vwCl wz H1 → va_D A wz → va_S A H0 H1 locs1 → W p l e R s m args below meth c H1 locs1 cells slots Q (F0 m (pc + 1) ls rest)) : W p l e R s m args below meth c H locs cells slots Q (F0 m pc ls (.int x :: .int i :: .ref a :: rest)) := by
  obtain ⟨h1, h2⟩ := wr_some hv
  subst hz
  subst h2
  exact va_iast hx hb hK hP hD hS q0 t0 ha ht h1 hdg kk
theorem kg_last (hx : p.tables.exec = Jvm.exec) (hb : c.code = cc) (hK : va_K D vwCl tys s) (hP : va_P D vwCl ws H) (hD : va_D A ws) (hS : va_S A H0 H locs) (q0 t0 : Nat) {cA : ClassId} {n : Nat} {f g : Nat → Int64} {i : Int32} {x : Int64} (ha : ws[q0]? = some (a, .inl (cA, n, .inr (.inl f)))) (ht : tys[t0]? = some (cA, .long)) (hv : wr f n i x = some g) (hdg : decode cc pc = .ok (.lastore, 1)) {wz : va_W} (hz : ws.set q0 (a, .inl (cA, n, .inr (.inl g))) = wz) (kk : ∀ (H1 : Heap) (locs1 : List Loc), va_P D vwCl wz H1 → va_D A wz → va_S A H0 H1 locs1 → W p l e R s m args below meth c H1 locs1 cells slots Q (F0 m (pc + 1) ls rest)) : W p l e R s m args below meth c H locs cells slots Q (F0 m pc ls (.long x :: .int i :: .ref a :: rest)) := by
  obtain ⟨h1, h2⟩ := wr_some hv
  subst hz
  subst h2
  exact va_last hx hb hK hP hD hS q0 t0 ha ht h1 hdg kk
theorem kg_idiv (hx : p.tables.exec = Jvm.exec) (hb : c.code = cc) {x y v : Int32} (hv : dv x y = some v) (hdg : decode cc pc = .ok (.idiv, 1)) (kk : W p l e R s m args below meth c H locs cells slots Q (F0 m (pc + 1) ls (.int v :: rest))) : W p l e R s m args below meth c H locs cells slots Q (F0 m pc ls (.int y :: .int x :: rest)) := by
  obtain ⟨h1, h2⟩ := dv_some hv
  exact lv_idiv hx hb hdg h1 (by rw [h2]; exact kk)
theorem kg_irem (hx : p.tables.exec = Jvm.exec) (hb : c.code = cc) {x y v : Int32} (hv : rm x y = some v) (hdg : decode cc pc = .ok (.irem, 1)) (kk : W p l e R s m args below meth c H locs cells slots Q (F0 m (pc + 1) ls (.int v :: rest))) : W p l e R s m args below meth c H locs cells slots Q (F0 m pc ls (.int y :: .int x :: rest)) := by
  obtain ⟨h1, h2⟩ := rm_some hv
  exact lv_irem hx hb hdg h1 (by rw [h2]; exact kk)
end KG
section KGR
variable {p : Program} {l : Launch} {e : Env} {R : Room} {s : State} {m : MethodId} {args : Array Value} {below : List Frame} {meth : Method} {c : Code} {H : Heap} {locs : List Loc} {cells slots : Nat} {Q : State → Prop}
variable {pc : Nat} {ls : Array Slot} {rest st0 : List Value} {D : va_G} {tys : List (ClassId × FieldType)} {ws : va_W} {A : Nat → Prop} {H0 : Heap} {cc : ByteArray} {aa : Array Value}
theorem NoA.nil {L : List Loc} (h : ∀ q ∈ L, NoA q.base) : L = [] := by
  cases L with
  | nil => rfl
  | cons x xs => exact absurd (h x List.mem_cons_self) (fun q => q)

theorem kg_retRi {r : Int32} (hr : va_Run p l e R s m args below meth c H locs cells slots 0 0 (F0 m pc ls st0) rest (QRi H r aa) NoA) (kk : W p l e R s m args below meth c H locs cells slots Q (F0 m (pc + 3) ls (.int r :: rest))) : W p l e R s m args below meth c H locs cells slots Q (F0 m pc ls st0) := by
  intro T hT X
  obtain ⟨v, st₀, t, T', L, h0, X', hL, e1, e2, ⟨⟨r2, u, hv, hw, hb⟩, -⟩, st⟩ := hr T hT X
  cases hv
  have hw : _ = _ := hw
  subst hw
  have hL0 := NoA.nil hL
  subst hL0
  rw [List.append_nil] at X'
  obtain ⟨t2, a1, b1⟩ := kk T' (e1.trans hb) X'
  exact ⟨t2, st t2 a1, b1⟩
theorem kg_retRj {r : Int64} (hr : va_Run p l e R s m args below meth c H locs cells slots 0 0 (F0 m pc ls st0) rest (QRj H r aa) NoA) (kk : W p l e R s m args below meth c H locs cells slots Q (F0 m (pc + 3) ls (.long r :: rest))) : W p l e R s m args below meth c H locs cells slots Q (F0 m pc ls st0) := by
  intro T hT X
  obtain ⟨v, st₀, t, T', L, h0, X', hL, e1, e2, ⟨⟨r2, u, hv, hw, hb⟩, -⟩, st⟩ := hr T hT X
  cases hv
  have hw : _ = _ := hw
  subst hw
  have hL0 := NoA.nil hL
  subst hL0
  rw [List.append_nil] at X'
  obtain ⟨t2, a1, b1⟩ := kk T' (e1.trans hb) X'
  exact ⟨t2, st t2 a1, b1⟩
theorem kg_retRv  (hr : va_Run p l e R s m args below meth c H locs cells slots 0 0 (F0 m pc ls st0) rest (QRv H aa) NoA) (kk : W p l e R s m args below meth c H locs cells slots Q (F0 m (pc + 3) ls (rest))) : W p l e R s m args below meth c H locs cells slots Q (F0 m pc ls st0) := by
  intro T hT X
  obtain ⟨v, st₀, t, T', L, h0, X', hL, e1, e2, ⟨⟨u, hv, -, hb⟩, -⟩, st⟩ := hr T hT X
  cases hv
  have hL0 := NoA.nil hL
  subst hL0
  rw [List.append_nil] at X'
  obtain ⟨t2, a1, b1⟩ := kk T' (e1.trans hb) X'
  exact ⟨t2, st t2 a1, b1⟩
/-- what a call gives back beside the cells that it couldn't reach -/
theorem kg_join {pre wc post w1 : va_W} {H1 : Heap} (hP : va_P D vwCl (pre ++ (wc ++ post)) H) (hD : va_D A (pre ++ (wc ++ post)))
    (hk : ∀ q : Nat, q < H.size → ¬ va_A wc H.size q → H1[q]? = H[q]?) (hF : ∀ q, va_A wc H.size q → A q) (hP1 : va_P D vwCl w1 H1) (hD1 : va_D (va_A wc H.size) w1) : va_P D vwCl (pre ++ (w1 ++ post)) H1 ∧ va_D A (pre ++ (w1 ++ post)) := by
  have ipre : ∀ (k : Nat) (q : Nat × va_E), pre[k]? = some q → (pre ++ (wc ++ post))[k]? = some q := fun k q h => by
    rw [List.getElem?_append_left (List.getElem?_eq_some_iff.mp h).1]; exact h
  have iwc : ∀ (k : Nat) (q : Nat × va_E), wc[k]? = some q → (pre ++ (wc ++ post))[pre.length + k]? = some q := fun k q h => by
    rw [List.getElem?_append_right (by omega), Nat.add_sub_cancel_left, List.getElem?_append_left (List.getElem?_eq_some_iff.mp h).1]; exact h
  have ipost : ∀ (k : Nat) (q : Nat × va_E), post[k]? = some q → (pre ++ (wc ++ post))[pre.length + (wc.length + k)]? = some q := fun k q h => by
    rw [List.getElem?_append_right (by omega), Nat.add_sub_cancel_left, List.getElem?_append_right (by omega), Nat.add_sub_cancel_left]; exact h
  have apart : ∀ (i : Nat) (q : Nat × va_E), (pre ++ (wc ++ post))[i]? = some q → (i < pre.length ∨ pre.length + wc.length ≤ i) → q.1 < H.size ∧ ¬ va_A wc H.size q.1 := by
    intro i q h2 hi
    have hl := (hP i q h2).lt
    refine ⟨hl, fun h => ?_⟩
    rcases h with ⟨k2, e, h⟩ | h
    · have hij := hD.1 i _ q (q.1, e) h2 (iwc k2 _ h) rfl
      have := (List.getElem?_eq_some_iff.mp h).1
      omega
    · omega
  have kpre : va_P D vwCl pre H1 := fun k q hq => by
    obtain ⟨g1, g2⟩ := apart k q (ipre k q hq) (Or.inl (List.getElem?_eq_some_iff.mp hq).1)
    exact (hP _ q (ipre k q hq)).kept (hk q.1 g1 g2)
  have kpost : va_P D vwCl post H1 := fun k q hq => by
    obtain ⟨g1, g2⟩ := apart _ q (ipost k q hq) (Or.inr (by omega))
    exact (hP _ q (ipost k q hq)).kept (hk q.1 g1 g2)
  have dpre : va_D A pre := ⟨fun i j p q hi hj h => hD.1 i j p q (ipre i p hi) (ipre j q hj) h, fun k q hq => hD.2 k q (ipre k q hq)⟩
  have dpost : va_D A post := ⟨fun i j p q hi hj h => by
    have := hD.1 _ _ p q (ipost i p hi) (ipost j q hj) h
    omega, fun k q hq => hD.2 _ q (ipost k q hq)⟩
  have d1 : va_D A w1 := hD1.weaken (fun k q _ h => hF q.1 h)
  have x1 : ∀ (i j : Nat) (p q : Nat × va_E), w1[i]? = some p → post[j]? = some q → p.1 ≠ q.1 := fun i j p q hi hj h => (apart _ q (ipost j q hj) (Or.inr (by omega))).2 (h ▸ hD1.2 i p hi)
  have x2 : ∀ (i j : Nat) (p q : Nat × va_E), pre[i]? = some p → (w1 ++ post)[j]? = some q → p.1 ≠ q.1 := fun i j p q hi hj h => by
    by_cases hl : j < w1.length
    · rw [List.getElem?_append_left hl] at hj
      exact (apart _ p (ipre i p hi) (Or.inl (List.getElem?_eq_some_iff.mp hi).1)).2 (h ▸ hD1.2 j q hj)
    · rw [List.getElem?_append_right (by omega)] at hj
      have := hD.1 _ _ p q (ipre i p hi) (ipost _ q hj) h
      have := (List.getElem?_eq_some_iff.mp hi).1
      omega
  exact ⟨va_P.app kpre (va_P.app hP1 kpost), va_D.app dpre (va_D.app d1 dpost x1) x2⟩
theorem kg_free {pre wc post : va_W} (hD : va_D A (pre ++ (wc ++ post))) (hS : va_S A H0 H locs) (hA : ∀ q, H0.size ≤ q → A q) : ∀ q, va_A wc H.size q → A q := by
  intro q h
  rcases h with ⟨k, e, h⟩ | h
  · have : (pre ++ (wc ++ post))[pre.length + k]? = some (q, e) := by
      rw [List.getElem?_append_right (by omega), Nat.add_sub_cancel_left, List.getElem?_append_left (List.getElem?_eq_some_iff.mp h).1]; exact h
    exact hD.2 _ _ this
  · exact hA q (Nat.le_trans hS.1 h)
theorem kg_cutP {pre wc post : va_W} (hP : va_P D vwCl (pre ++ (wc ++ post)) H) : va_P D vwCl wc H := fun k q h => hP (pre.length + k) q (by
    rw [List.getElem?_append_right (by omega), Nat.add_sub_cancel_left, List.getElem?_append_left (List.getElem?_eq_some_iff.mp h).1]; exact h)
theorem kg_cutD {pre wc post : va_W} (hD : va_D A (pre ++ (wc ++ post))) : va_D (fun _ => True) wc := ⟨fun i j p q hi hj h => by
    have f : ∀ (k : Nat) (q : Nat × va_E), wc[k]? = some q → (pre ++ (wc ++ post))[pre.length + k]? = some q := fun k q h => by
      rw [List.getElem?_append_right (by omega), Nat.add_sub_cancel_left, List.getElem?_append_left (List.getElem?_eq_some_iff.mp h).1]; exact h
    have := hD.1 _ _ p q (f i p hi) (f j q hj) h
    omega, fun _ _ _ => trivial⟩

theorem kg_retWi {r : Int32} {pre wc post w1 wz : va_W} (hz : pre ++ (w1 ++ post) = wz) (hP : va_P D vwCl (pre ++ (wc ++ post)) H) (hD : va_D A (pre ++ (wc ++ post))) (hS : va_S A H0 H locs) (hA : ∀ q, H0.size ≤ q → A q) (hr : va_Run p l e R s m args below meth c H locs cells slots 0 0 (F0 m pc ls st0) rest (QWi D (va_A wc H.size) w1 r aa) (va_A wc H.size)) (kk : ∀ (H1 : Heap) (locs1 : List Loc), va_P D vwCl wz H1 → va_D A wz → va_S A H0 H1 locs1 → W p l e R s m args below meth c H1 locs1 cells slots Q (F0 m (pc + 3) ls (.int r :: rest))) : W p l e R s m args below meth c H locs cells slots Q (F0 m pc ls st0) := by
  intro T hT X
  subst hz
  have hF := kg_free hD hS hA
  obtain ⟨v, st₀, t, T', L, h0, X', hL, e1, e2, ⟨⟨r2, u, hv, hw, hP1, hD1⟩, hz, hk⟩, st⟩ := hr T hT X
  cases hv
  have hw : _ = _ := hw
  subst hw
  rw [h0] at hz hk
  rw [← e1] at hP1 hz hk
  obtain ⟨hP2, hD2⟩ := kg_join hP hD hk hF hP1 hD1
  obtain ⟨t2, a1, b1⟩ := kk T'.heap (locs ++ L) hP2 hD2 ⟨Nat.le_trans hS.1 hz, fun q h1 h2 => by
      rw [hk q (Nat.lt_of_lt_of_le h1 hS.1) (fun z => h2 (hF q z))]; exact hS.2.1 q h1 h2, fun q hq => by
      rcases List.mem_append.mp hq with h | h
      · exact hS.2.2 q h
      · exact hF _ (hL q h)⟩ T' rfl X'
  exact ⟨t2, st t2 a1, b1⟩
theorem kg_retWv  {pre wc post w1 wz : va_W} (hz : pre ++ (w1 ++ post) = wz) (hP : va_P D vwCl (pre ++ (wc ++ post)) H) (hD : va_D A (pre ++ (wc ++ post))) (hS : va_S A H0 H locs) (hA : ∀ q, H0.size ≤ q → A q) (hr : va_Run p l e R s m args below meth c H locs cells slots 0 0 (F0 m pc ls st0) rest (QWv D (va_A wc H.size) w1 aa) (va_A wc H.size)) (kk : ∀ (H1 : Heap) (locs1 : List Loc), va_P D vwCl wz H1 → va_D A wz → va_S A H0 H1 locs1 → W p l e R s m args below meth c H1 locs1 cells slots Q (F0 m (pc + 3) ls (rest))) : W p l e R s m args below meth c H locs cells slots Q (F0 m pc ls st0) := by
  intro T hT X
  subst hz
  have hF := kg_free hD hS hA
  obtain ⟨v, st₀, t, T', L, h0, X', hL, e1, e2, ⟨⟨u, hv, -, hP1, hD1⟩, hz, hk⟩, st⟩ := hr T hT X
  cases hv
  rw [h0] at hz hk
  rw [← e1] at hP1 hz hk
  obtain ⟨hP2, hD2⟩ := kg_join hP hD hk hF hP1 hD1
  obtain ⟨t2, a1, b1⟩ := kk T'.heap (locs ++ L) hP2 hD2 ⟨Nat.le_trans hS.1 hz, fun q h1 h2 => by
      rw [hk q (Nat.lt_of_lt_of_le h1 hS.1) (fun z => h2 (hF q z))]; exact hS.2.1 q h1 h2, fun q hq => by
      rcases List.mem_append.mp hq with h | h
      · exact hS.2.2 q h
      · exact hF _ (hL q h)⟩ T' rfl X'
  exact ⟨t2, st t2 a1, b1⟩
theorem kg_preVR {av : List Value} {b q0 ci : Nat} {q : vw_C} {fs : List Value} (hP : va_P D vwCl ws H) (hK : va_K D vwCl tys s) (hN : nwAll s) (hc : vwCl[ci]? = some q) (he : ws[q0]? = some (b, .inr (ci, fs))) : PreV s H q.1 b (PcR (.ref b :: av) H D tys ws) av :=
  ⟨PcR.blind, va_recv hK hP hc he, fun _ hU hW => ⟨rfl, hU, hP, va_K.moved hW.alike hK, hN.warm hW⟩⟩
theorem kg_preSR {av : List Value} (hP : va_P D vwCl ws H) (hK : va_K D vwCl tys s) (hN : nwAll s) : PreS s H (PcR av H D tys ws) av :=
  ⟨PcR.blind, fun _ hU hW => ⟨rfl, hU, hP, va_K.moved hW.alike hK, hN.warm hW⟩⟩
theorem kg_preVW {av : List Value} {b q0 ci : Nat} {q : vw_C} {fs : List Value} (hP : va_P D vwCl ws H) (hD : va_D (fun _ => True) ws) (hK : va_K D vwCl tys s) (hN : nwAll s) (hc : vwCl[ci]? = some q) (he : ws[q0]? = some (b, .inr (ci, fs))) : PreV s H q.1 b (PcW (.ref b :: av) H.size D tys ws) av :=
  ⟨PcW.blind, va_recv hK hP hc he, fun _ hU hW => ⟨rfl, by rw [hU], by rw [hU]; exact hP, va_K.moved hW.alike hK, hD, hN.warm hW⟩⟩
theorem kg_preSW {av : List Value} (hP : va_P D vwCl ws H) (hD : va_D (fun _ => True) ws) (hK : va_K D vwCl tys s) (hN : nwAll s) : PreS s H (PcW av H.size D tys ws) av :=
  ⟨PcW.blind, fun _ hU hW => ⟨rfl, by rw [hU], by rw [hU]; exact hP, va_K.moved hW.alike hK, hD, hN.warm hW⟩⟩
theorem kg_F {t : State} (ht : t.heap = s.heap) : va_F NoA s t := ⟨by rw [ht]; exact Nat.le_refl _, fun _ _ _ => by rw [ht]⟩

theorem kg_iretR (hx : p.tables.exec = Jvm.exec) (hb : c.code = cc) {v r : Int32} (hr : meth.sig.returnType = some .int) (hlocks : meth.locks = false) (hv : v = r) (hdg : decode cc pc = .ok (.ireturn, 1)) : W p l e R s m args below meth c s.heap [] 0 0 (MQ below (QRi s.heap r) args s 0 0 NoA) (F0 m pc ls [.int v]) :=
  W.iret hx hb hr (fun t ht _ => ⟨⟨v, (), rfl, hv, ht⟩, kg_F ht⟩) (fun q h => by cases h) hdg hlocks
theorem kg_zretR (hx : p.tables.exec = Jvm.exec) (hb : c.code = cc) {b : Bool} {v r : Int32} (hr : meth.sig.returnType = some .boolean) (hlocks : meth.locks = false) (hb2 : v = b2i b) (hv : v = r) (hdg : decode cc pc = .ok (.ireturn, 1)) : W p l e R s m args below meth c s.heap [] 0 0 (MQ below (QRi s.heap r) args s 0 0 NoA) (F0 m pc ls [.int v]) :=
  W.zret hx hb hr (by rw [hb2]; exact narrow_b2i b) (fun t ht _ => ⟨⟨v, (), rfl, hv, ht⟩, kg_F ht⟩) (fun q h => by cases h) hdg hlocks
theorem kg_lretR (hx : p.tables.exec = Jvm.exec) (hb : c.code = cc) {v r : Int64} (hr : meth.sig.returnType = some .long) (hlocks : meth.locks = false) (hv : v = r) (hdg : decode cc pc = .ok (.lreturn, 1)) : W p l e R s m args below meth c s.heap [] 0 0 (MQ below (QRj s.heap r) args s 0 0 NoA) (F0 m pc ls [.long v]) :=
  W.lret hx hb hr (fun t ht _ => ⟨⟨v, (), rfl, hv, ht⟩, kg_F ht⟩) (fun q h => by cases h) hdg hlocks
theorem kg_vretR (hx : p.tables.exec = Jvm.exec) (hb : c.code = cc) (hr : meth.sig.returnType = none) (hlocks : meth.locks = false) (hdg : decode cc pc = .ok (.return_, 1)) : W p l e R s m args below meth c s.heap [] 0 0 (MQ below (QRv s.heap) args s 0 0 NoA) (F0 m pc ls []) :=
  W.vret hx hb hr (fun t ht _ => ⟨⟨(), rfl, trivial, ht⟩, kg_F ht⟩) (fun q h => by cases h) hdg hlocks
theorem kg_iretW (hx : p.tables.exec = Jvm.exec) (hb : c.code = cc) {v r : Int32} (hr : meth.sig.returnType = some .int) (hlocks : meth.locks = false) (hv : v = r) (hP : va_P D vwCl ws H) (hD : va_D A ws) (hS : va_S A s.heap H locs) (hdg : decode cc pc = .ok (.ireturn, 1)) : W p l e R s m args below meth c H locs 0 0 (MQ below (QWi D A ws r) args s 0 0 A) (F0 m pc ls [.int v]) :=
  W.iret hx hb hr (fun t ht _ => ⟨⟨v, (), rfl, hv, by rw [ht]; exact hP, hD⟩, hS.F ht⟩) hS.2.2 hdg hlocks
theorem kg_zretW (hx : p.tables.exec = Jvm.exec) (hb : c.code = cc) {b : Bool} {v r : Int32} (hr : meth.sig.returnType = some .boolean) (hlocks : meth.locks = false) (hb2 : v = b2i b) (hv : v = r) (hP : va_P D vwCl ws H) (hD : va_D A ws) (hS : va_S A s.heap H locs) (hdg : decode cc pc = .ok (.ireturn, 1)) : W p l e R s m args below meth c H locs 0 0 (MQ below (QWi D A ws r) args s 0 0 A) (F0 m pc ls [.int v]) :=
  W.zret hx hb hr (by rw [hb2]; exact narrow_b2i b) (fun t ht _ => ⟨⟨v, (), rfl, hv, by rw [ht]; exact hP, hD⟩, hS.F ht⟩) hS.2.2 hdg hlocks
theorem kg_vretW (hx : p.tables.exec = Jvm.exec) (hb : c.code = cc) (hr : meth.sig.returnType = none) (hlocks : meth.locks = false) (hP : va_P D vwCl ws H) (hD : va_D A ws) (hS : va_S A s.heap H locs) (hdg : decode cc pc = .ok (.return_, 1)) : W p l e R s m args below meth c H locs 0 0 (MQ below (QWv D A ws) args s 0 0 A) (F0 m pc ls []) :=
  W.vret hx hb hr (fun t ht _ => ⟨⟨(), rfl, trivial, by rw [ht]; exact hP, hD⟩, hS.F ht⟩) hS.2.2 hdg hlocks
end KGR
