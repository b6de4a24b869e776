/-! the base's second half -/
def omap {α β : Type} (o : Option β) : Option (α ⊕ β) := o.map Sum.inr
theorem omap_some {α β : Type} {o : Option β} {q : α ⊕ β} (h : omap o = some q) : ∃ r, o = some r ∧ Sum.inr r = q := by
  cases o with
  | none => cases h
  | some r => exact ⟨r, rfl, Option.some.inj h⟩
def fillF {α : Type} (f : Nat → α) (n : Nat) (v : α) : Nat → α := fun j => if j < n then v else f j
theorem fillF_0 {α : Type} (f : Nat → α) (v : α) : fillF f 0 v = f := by funext j; simp [fillF]
theorem fillF_s {α : Type} (f : Nat → α) (n : Nat) (v : α) : (fun j => if j = n then v else fillF f n v j) = fillF f (n + 1) v := by
  funext j
  simp only [fillF]
  by_cases h : j = n
  · subst h; simp
  · by_cases h2 : j < n
    · rw [if_neg h, if_pos h2, if_pos (by omega)]
    · rw [if_neg h, if_neg h2, if_neg (by omega)]
theorem ne_toInt {x c : Int32} {k : Int} (h : ¬ x = c) (hc : c.toInt = k) : x.toInt ≠ k := fun q => h (Int32.toInt_inj.mp (q.trans hc.symm))
section KGP
variable {p : Program} {l : Launch} {e : Env} {R : Room} {s : State} {m : MethodId} {args : Array Value} {below : List Frame} {meth : Method} {c : Code} {H : Heap} {locs : List Loc} {cells slots : Nat} {Q : State → Prop}
variable {pc : Nat} {ls : Array Slot} {rest : List Value} {D : va_G} {tys : List (ClassId × FieldType)} {ws : va_W} {A : Nat → Prop} {H0 : Heap} {a : Nat} {cc : ByteArray}
theorem kg_put (hx : p.tables.exec = Jvm.exec) (hb : c.code = cc) {own ref C : String} {T : u_T} {N ci index : Nat} {Ts : List Cond} (hts : ∀ w ∈ Ts, w.before args s = true) (hin : ∀ w ∈ u_ws C T N, w ∈ Ts) (ty0 : Nat → FieldType) (hty : ∀ k, k < N → parseFieldDescriptor (T k).2.2.1 = some (ty0 k)) (hnm : ∀ a, a < N → ∀ b, b < N → a ≠ b → (T a).2.1 ≠ (T b).2.1) (hown : s.vm.findClass own = some m.cls) (hK : va_K D vwCl tys s) (hP : va_P D vwCl ws H) (hD : va_D A ws) (hS0 : va_S A H0 H locs) (q0 : Nat) {fs : List Value} (he : ws[q0]? = some (a, .inr (ci, fs))) (hc : vwCl[ci]? = some (C, T, N)) (k : Nat) (hk : k < N) (hlink : (Cond.fieldLink own index ref (T k).2.1 (T k).2.2.1).before args s = true) (hsame : ∀ x, s.fieldFound? (T k).1 (T k).2.1 (T k).2.2.1 = some x → s.fieldFound? ref (T k).2.1 (T k).2.2.1 = some x) (hfin : (T k).2.2.2 = false) {ty : FieldType} {v : Value} (hd : parseFieldDescriptor (T k).2.2.1 = some ty) (hn : narrow ty v = v) (hfit : fits ty v = true) (hl : k < fs.length)
    (hdg : decode cc pc = .ok (.putfield index, 3)) {wz : va_W} (hz : ws.set q0 (a, .inr (ci, fs.set k v)) = wz) (kk : ∀ (H1 : Heap) (locs1 : List Loc), va_P D vwCl wz H1 → va_D A wz → va_S A H0 H1 locs1 → W p l e R s m args below meth c H1 locs1 cells slots Q (F0 m (pc + 3) ls rest)) : W p l e R s m args below meth c H locs cells slots Q (F0 m pc ls (v :: .ref a :: rest)) := by
  subst hz
  exact va_put hx hb hts hin ty0 hty hnm hown hK hP hD hS0 q0 he hc k hk hlink hsame hfin hd hn hfit hl hdg kk
end KGP
theorem qJ13_bitCount_95d88 : yJ13_bitCount_95d88.cls = RJ13 ∧ yJ13_bitCount_95d88.cls ≠ "java/lang/invoke/MethodHandle" ∧ yJ13_bitCount_95d88.cls ≠ "java/lang/invoke/VarHandle" ∧ (parseMethodDescriptor yJ13_bitCount_95d88.desc).map (fun d => d.parameters.length) = some 1 := by decide +kernel
theorem qJ13_bitCount_95d88_n : yJ13_bitCount_95d88.cls ≠ "java/lang/invoke/MethodHandle" ∧ yJ13_bitCount_95d88.cls ≠ "java/lang/invoke/VarHandle" ∧ (parseMethodDescriptor yJ13_bitCount_95d88.desc).map (fun d => d.parameters.length) = some 1 := qJ13_bitCount_95d88.2
theorem qJ13_bitCount_95d88_o : yJ13_bitCount_95d88.cls ≠ "java/lang/invoke/MethodHandle" ∧ yJ13_bitCount_95d88.cls ≠ "java/lang/invoke/VarHandle" ∧ (parseMethodDescriptor yJ13_bitCount_95d88.desc).map (fun d => d.parameters.length) = some 1 := qJ13_bitCount_95d88.2
theorem qJ7_fill_53178 : yJ7_fill_53178.cls = RJ7 ∧ yJ7_fill_53178.cls ≠ "java/lang/invoke/MethodHandle" ∧ yJ7_fill_53178.cls ≠ "java/lang/invoke/VarHandle" ∧ (parseMethodDescriptor yJ7_fill_53178.desc).map (fun d => d.parameters.length) = some 2 := by decide +kernel
theorem qJ7_fill_53178_n : yJ7_fill_53178.cls ≠ "java/lang/invoke/MethodHandle" ∧ yJ7_fill_53178.cls ≠ "java/lang/invoke/VarHandle" ∧ (parseMethodDescriptor yJ7_fill_53178.desc).map (fun d => d.parameters.length) = some 2 := qJ7_fill_53178.2
theorem qJ7_fill_53178_o : yJ7_fill_53178.cls ≠ "java/lang/invoke/MethodHandle" ∧ yJ7_fill_53178.cls ≠ "java/lang/invoke/VarHandle" ∧ (parseMethodDescriptor yJ7_fill_53178.desc).map (fun d => d.parameters.length) = some 2 := qJ7_fill_53178.2
theorem qJ7_fill_d0a16 : yJ7_fill_d0a16.cls = RJ7 ∧ yJ7_fill_d0a16.cls ≠ "java/lang/invoke/MethodHandle" ∧ yJ7_fill_d0a16.cls ≠ "java/lang/invoke/VarHandle" ∧ (parseMethodDescriptor yJ7_fill_d0a16.desc).map (fun d => d.parameters.length) = some 2 := by decide +kernel
theorem qJ7_fill_d0a16_n : yJ7_fill_d0a16.cls ≠ "java/lang/invoke/MethodHandle" ∧ yJ7_fill_d0a16.cls ≠ "java/lang/invoke/VarHandle" ∧ (parseMethodDescriptor yJ7_fill_d0a16.desc).map (fun d => d.parameters.length) = some 2 := qJ7_fill_d0a16.2
theorem qJ7_fill_d0a16_o : yJ7_fill_d0a16.cls ≠ "java/lang/invoke/MethodHandle" ∧ yJ7_fill_d0a16.cls ≠ "java/lang/invoke/VarHandle" ∧ (parseMethodDescriptor yJ7_fill_d0a16.desc).map (fun d => d.parameters.length) = some 2 := qJ7_fill_d0a16.2
theorem qX0_blocksOf : yX0_blocksOf.cls = RX0 ∧ yX0_blocksOf.cls ≠ "java/lang/invoke/MethodHandle" ∧ yX0_blocksOf.cls ≠ "java/lang/invoke/VarHandle" ∧ (parseMethodDescriptor yX0_blocksOf.desc).map (fun d => d.parameters.length) = some 2 := by decide +kernel
theorem qX0_deepest : yX0_deepest.cls = RX0 ∧ yX0_deepest.cls ≠ "java/lang/invoke/MethodHandle" ∧ yX0_deepest.cls ≠ "java/lang/invoke/VarHandle" ∧ (parseMethodDescriptor yX0_deepest.desc).map (fun d => d.parameters.length) = some 0 := by decide +kernel
theorem qX0_farthest : yX0_farthest.cls = RX0 ∧ yX0_farthest.cls ≠ "java/lang/invoke/MethodHandle" ∧ yX0_farthest.cls ≠ "java/lang/invoke/VarHandle" ∧ (parseMethodDescriptor yX0_farthest.desc).map (fun d => d.parameters.length) = some 1 := by decide +kernel
theorem qX0_hangChildren : yX0_hangChildren.cls = RX0 ∧ yX0_hangChildren.cls ≠ "java/lang/invoke/MethodHandle" ∧ yX0_hangChildren.cls ≠ "java/lang/invoke/VarHandle" ∧ (parseMethodDescriptor yX0_hangChildren.desc).map (fun d => d.parameters.length) = some 0 := by decide +kernel
theorem qX0_isBlockOf : yX0_isBlockOf.cls = RX0 ∧ yX0_isBlockOf.cls ≠ "java/lang/invoke/MethodHandle" ∧ yX0_isBlockOf.cls ≠ "java/lang/invoke/VarHandle" ∧ (parseMethodDescriptor yX0_isBlockOf.desc).map (fun d => d.parameters.length) = some 3 := by decide +kernel
theorem qX0_leaf : yX0_leaf.cls = RX0 ∧ yX0_leaf.cls ≠ "java/lang/invoke/MethodHandle" ∧ yX0_leaf.cls ≠ "java/lang/invoke/VarHandle" ∧ (parseMethodDescriptor yX0_leaf.desc).map (fun d => d.parameters.length) = some 3 := by decide +kernel
theorem qX0_leavesOf : yX0_leavesOf.cls = RX0 ∧ yX0_leavesOf.cls ≠ "java/lang/invoke/MethodHandle" ∧ yX0_leavesOf.cls ≠ "java/lang/invoke/VarHandle" ∧ (parseMethodDescriptor yX0_leavesOf.desc).map (fun d => d.parameters.length) = some 2 := by decide +kernel
theorem qX0_longest : yX0_longest.cls = RX0 ∧ yX0_longest.cls ≠ "java/lang/invoke/MethodHandle" ∧ yX0_longest.cls ≠ "java/lang/invoke/VarHandle" ∧ (parseMethodDescriptor yX0_longest.desc).map (fun d => d.parameters.length) = some 2 := by decide +kernel
theorem qX0_longestLesser : yX0_longestLesser.cls = RX0 ∧ yX0_longestLesser.cls ≠ "java/lang/invoke/MethodHandle" ∧ yX0_longestLesser.cls ≠ "java/lang/invoke/VarHandle" ∧ (parseMethodDescriptor yX0_longestLesser.desc).map (fun d => d.parameters.length) = some 2 := by decide +kernel
theorem qX0_longestOther : yX0_longestOther.cls = RX0 ∧ yX0_longestOther.cls ≠ "java/lang/invoke/MethodHandle" ∧ yX0_longestOther.cls ≠ "java/lang/invoke/VarHandle" ∧ (parseMethodDescriptor yX0_longestOther.desc).map (fun d => d.parameters.length) = some 2 := by decide +kernel
theorem qX0_measure : yX0_measure.cls = RX0 ∧ yX0_measure.cls ≠ "java/lang/invoke/MethodHandle" ∧ yX0_measure.cls ≠ "java/lang/invoke/VarHandle" ∧ (parseMethodDescriptor yX0_measure.desc).map (fun d => d.parameters.length) = some 1 := by decide +kernel
theorem qX0_middle : yX0_middle.cls = RX0 ∧ yX0_middle.cls ≠ "java/lang/invoke/MethodHandle" ∧ yX0_middle.cls ≠ "java/lang/invoke/VarHandle" ∧ (parseMethodDescriptor yX0_middle.desc).map (fun d => d.parameters.length) = some 2 := by decide +kernel
theorem qX0_putInOrder : yX0_putInOrder.cls = RX0 ∧ yX0_putInOrder.cls ≠ "java/lang/invoke/MethodHandle" ∧ yX0_putInOrder.cls ≠ "java/lang/invoke/VarHandle" ∧ (parseMethodDescriptor yX0_putInOrder.desc).map (fun d => d.parameters.length) = some 1 := by decide +kernel
theorem qX0_read : yX0_read.cls = RX0 ∧ yX0_read.cls ≠ "java/lang/invoke/MethodHandle" ∧ yX0_read.cls ≠ "java/lang/invoke/VarHandle" ∧ (parseMethodDescriptor yX0_read.desc).map (fun d => d.parameters.length) = some 1 := by decide +kernel
theorem qX0_readNodes : yX0_readNodes.cls = RX0 ∧ yX0_readNodes.cls ≠ "java/lang/invoke/MethodHandle" ∧ yX0_readNodes.cls ≠ "java/lang/invoke/VarHandle" ∧ (parseMethodDescriptor yX0_readNodes.desc).map (fun d => d.parameters.length) = some 1 := by decide +kernel
theorem qX0_rootOf : yX0_rootOf.cls = RX0 ∧ yX0_rootOf.cls ≠ "java/lang/invoke/MethodHandle" ∧ yX0_rootOf.cls ≠ "java/lang/invoke/VarHandle" ∧ (parseMethodDescriptor yX0_rootOf.desc).map (fun d => d.parameters.length) = some 2 := by decide +kernel
theorem qX0_sumUp : yX0_sumUp.cls = RX0 ∧ yX0_sumUp.cls ≠ "java/lang/invoke/MethodHandle" ∧ yX0_sumUp.cls ≠ "java/lang/invoke/VarHandle" ∧ (parseMethodDescriptor yX0_sumUp.desc).map (fun d => d.parameters.length) = some 0 := by decide +kernel
theorem qX1_begin : yX1_begin.cls = RX1 ∧ yX1_begin.cls ≠ "java/lang/invoke/MethodHandle" ∧ yX1_begin.cls ≠ "java/lang/invoke/VarHandle" ∧ (parseMethodDescriptor yX1_begin.desc).map (fun d => d.parameters.length) = some 0 := by decide +kernel
theorem qX1_clear : yX1_clear.cls = RX1 ∧ yX1_clear.cls ≠ "java/lang/invoke/MethodHandle" ∧ yX1_clear.cls ≠ "java/lang/invoke/VarHandle" ∧ (parseMethodDescriptor yX1_clear.desc).map (fun d => d.parameters.length) = some 0 := by decide +kernel
theorem qX1_endsBefore : yX1_endsBefore.cls = RX1 ∧ yX1_endsBefore.cls ≠ "java/lang/invoke/MethodHandle" ∧ yX1_endsBefore.cls ≠ "java/lang/invoke/VarHandle" ∧ (parseMethodDescriptor yX1_endsBefore.desc).map (fun d => d.parameters.length) = some 2 := by decide +kernel
theorem qX1_heir : yX1_heir.cls = RX1 ∧ yX1_heir.cls ≠ "java/lang/invoke/MethodHandle" ∧ yX1_heir.cls ≠ "java/lang/invoke/VarHandle" ∧ (parseMethodDescriptor yX1_heir.desc).map (fun d => d.parameters.length) = some 1 := by decide +kernel
theorem qX1_join : yX1_join.cls = RX1 ∧ yX1_join.cls ≠ "java/lang/invoke/MethodHandle" ∧ yX1_join.cls ≠ "java/lang/invoke/VarHandle" ∧ (parseMethodDescriptor yX1_join.desc).map (fun d => d.parameters.length) = some 2 := by decide +kernel
theorem qX1_keeper : yX1_keeper.cls = RX1 ∧ yX1_keeper.cls ≠ "java/lang/invoke/MethodHandle" ∧ yX1_keeper.cls ≠ "java/lang/invoke/VarHandle" ∧ (parseMethodDescriptor yX1_keeper.desc).map (fun d => d.parameters.length) = some 1 := by decide +kernel
theorem qX1_lives : yX1_lives.cls = RX1 ∧ yX1_lives.cls ≠ "java/lang/invoke/MethodHandle" ∧ yX1_lives.cls ≠ "java/lang/invoke/VarHandle" ∧ (parseMethodDescriptor yX1_lives.desc).map (fun d => d.parameters.length) = some 1 := by decide +kernel
theorem qX1_meeting : yX1_meeting.cls = RX1 ∧ yX1_meeting.cls ≠ "java/lang/invoke/MethodHandle" ∧ yX1_meeting.cls ≠ "java/lang/invoke/VarHandle" ∧ (parseMethodDescriptor yX1_meeting.desc).map (fun d => d.parameters.length) = some 2 := by decide +kernel
theorem qX1_pairs : yX1_pairs.cls = RX1 ∧ yX1_pairs.cls ≠ "java/lang/invoke/MethodHandle" ∧ yX1_pairs.cls ≠ "java/lang/invoke/VarHandle" ∧ (parseMethodDescriptor yX1_pairs.desc).map (fun d => d.parameters.length) = some 0 := by decide +kernel
theorem qX1_sizeOf : yX1_sizeOf.cls = RX1 ∧ yX1_sizeOf.cls ≠ "java/lang/invoke/MethodHandle" ∧ yX1_sizeOf.cls ≠ "java/lang/invoke/VarHandle" ∧ (parseMethodDescriptor yX1_sizeOf.desc).map (fun d => d.parameters.length) = some 1 := by decide +kernel
theorem qX2_allAt : yX2_allAt.cls = RX2 ∧ yX2_allAt.cls ≠ "java/lang/invoke/MethodHandle" ∧ yX2_allAt.cls ≠ "java/lang/invoke/VarHandle" ∧ (parseMethodDescriptor yX2_allAt.desc).map (fun d => d.parameters.length) = some 2 := by decide +kernel
theorem qX2_allCuts : yX2_allCuts.cls = RX2 ∧ yX2_allCuts.cls ≠ "java/lang/invoke/MethodHandle" ∧ yX2_allCuts.cls ≠ "java/lang/invoke/VarHandle" ∧ (parseMethodDescriptor yX2_allCuts.desc).map (fun d => d.parameters.length) = some 0 := by decide +kernel
theorem qX2_cutsOf : yX2_cutsOf.cls = RX2 ∧ yX2_cutsOf.cls ≠ "java/lang/invoke/MethodHandle" ∧ yX2_cutsOf.cls ≠ "java/lang/invoke/VarHandle" ∧ (parseMethodDescriptor yX2_cutsOf.desc).map (fun d => d.parameters.length) = some 2 := by decide +kernel
theorem qX2_cutsWithin : yX2_cutsWithin.cls = RX2 ∧ yX2_cutsWithin.cls ≠ "java/lang/invoke/MethodHandle" ∧ yX2_cutsWithin.cls ≠ "java/lang/invoke/VarHandle" ∧ (parseMethodDescriptor yX2_cutsWithin.desc).map (fun d => d.parameters.length) = some 2 := by decide +kernel
theorem qX2_isCut : yX2_isCut.cls = RX2 ∧ yX2_isCut.cls ≠ "java/lang/invoke/MethodHandle" ∧ yX2_isCut.cls ≠ "java/lang/invoke/VarHandle" ∧ (parseMethodDescriptor yX2_isCut.desc).map (fun d => d.parameters.length) = some 1 := by decide +kernel
theorem qX2_nodesAt : yX2_nodesAt.cls = RX2 ∧ yX2_nodesAt.cls ≠ "java/lang/invoke/MethodHandle" ∧ yX2_nodesAt.cls ≠ "java/lang/invoke/VarHandle" ∧ (parseMethodDescriptor yX2_nodesAt.desc).map (fun d => d.parameters.length) = some 1 := by decide +kernel
theorem qX2_read : yX2_read.cls = RX2 ∧ yX2_read.cls ≠ "java/lang/invoke/MethodHandle" ∧ yX2_read.cls ≠ "java/lang/invoke/VarHandle" ∧ (parseMethodDescriptor yX2_read.desc).map (fun d => d.parameters.length) = some 1 := by decide +kernel
theorem qX2_ringPairs : yX2_ringPairs.cls = RX2 ∧ yX2_ringPairs.cls ≠ "java/lang/invoke/MethodHandle" ∧ yX2_ringPairs.cls ≠ "java/lang/invoke/VarHandle" ∧ (parseMethodDescriptor yX2_ringPairs.desc).map (fun d => d.parameters.length) = some 0 := by decide +kernel
theorem qX2_shareRing : yX2_shareRing.cls = RX2 ∧ yX2_shareRing.cls ≠ "java/lang/invoke/MethodHandle" ∧ yX2_shareRing.cls ≠ "java/lang/invoke/VarHandle" ∧ (parseMethodDescriptor yX2_shareRing.desc).map (fun d => d.parameters.length) = some 2 := by decide +kernel
theorem qX3_leastNearer : yX3_leastNearer.cls = RX3 ∧ yX3_leastNearer.cls ≠ "java/lang/invoke/MethodHandle" ∧ yX3_leastNearer.cls ≠ "java/lang/invoke/VarHandle" ∧ (parseMethodDescriptor yX3_leastNearer.desc).map (fun d => d.parameters.length) = some 3 := by decide +kernel
theorem qX3_measure : yX3_measure.cls = RX3 ∧ yX3_measure.cls ≠ "java/lang/invoke/MethodHandle" ∧ yX3_measure.cls ≠ "java/lang/invoke/VarHandle" ∧ (parseMethodDescriptor yX3_measure.desc).map (fun d => d.parameters.length) = some 2 := by decide +kernel
theorem qX3_nodeAt : yX3_nodeAt.cls = RX3 ∧ yX3_nodeAt.cls ≠ "java/lang/invoke/MethodHandle" ∧ yX3_nodeAt.cls ≠ "java/lang/invoke/VarHandle" ∧ (parseMethodDescriptor yX3_nodeAt.desc).map (fun d => d.parameters.length) = some 3 := by decide +kernel
theorem qX3_spread : yX3_spread.cls = RX3 ∧ yX3_spread.cls ≠ "java/lang/invoke/MethodHandle" ∧ yX3_spread.cls ≠ "java/lang/invoke/VarHandle" ∧ (parseMethodDescriptor yX3_spread.desc).map (fun d => d.parameters.length) = some 3 := by decide +kernel
theorem qX4_add : yX4_add.cls = RX4 ∧ yX4_add.cls ≠ "java/lang/invoke/MethodHandle" ∧ yX4_add.cls ≠ "java/lang/invoke/VarHandle" ∧ (parseMethodDescriptor yX4_add.desc).map (fun d => d.parameters.length) = some 2 := by decide +kernel
theorem qX4_apart : yX4_apart.cls = RX4 ∧ yX4_apart.cls ≠ "java/lang/invoke/MethodHandle" ∧ yX4_apart.cls ≠ "java/lang/invoke/VarHandle" ∧ (parseMethodDescriptor yX4_apart.desc).map (fun d => d.parameters.length) = some 4 := by decide +kernel
theorem qX4_blockSince : yX4_blockSince.cls = RX4 ∧ yX4_blockSince.cls ≠ "java/lang/invoke/MethodHandle" ∧ yX4_blockSince.cls ≠ "java/lang/invoke/VarHandle" ∧ (parseMethodDescriptor yX4_blockSince.desc).map (fun d => d.parameters.length) = some 1 := by decide +kernel
theorem qX4_blocksOnWay : yX4_blocksOnWay.cls = RX4 ∧ yX4_blocksOnWay.cls ≠ "java/lang/invoke/MethodHandle" ∧ yX4_blocksOnWay.cls ≠ "java/lang/invoke/VarHandle" ∧ (parseMethodDescriptor yX4_blocksOnWay.desc).map (fun d => d.parameters.length) = some 1 := by decide +kernel
theorem qX4_bridgesAmong : yX4_bridgesAmong.cls = RX4 ∧ yX4_bridgesAmong.cls ≠ "java/lang/invoke/MethodHandle" ∧ yX4_bridgesAmong.cls ≠ "java/lang/invoke/VarHandle" ∧ (parseMethodDescriptor yX4_bridgesAmong.desc).map (fun d => d.parameters.length) = some 1 := by decide +kernel
theorem qX4_bridgesAt : yX4_bridgesAt.cls = RX4 ∧ yX4_bridgesAt.cls ≠ "java/lang/invoke/MethodHandle" ∧ yX4_bridgesAt.cls ≠ "java/lang/invoke/VarHandle" ∧ (parseMethodDescriptor yX4_bridgesAt.desc).map (fun d => d.parameters.length) = some 1 := by decide +kernel
theorem qX4_bridgesOf : yX4_bridgesOf.cls = RX4 ∧ yX4_bridgesOf.cls ≠ "java/lang/invoke/MethodHandle" ∧ yX4_bridgesOf.cls ≠ "java/lang/invoke/VarHandle" ∧ (parseMethodDescriptor yX4_bridgesOf.desc).map (fun d => d.parameters.length) = some 1 := by decide +kernel
theorem qX4_bridgesOnWay : yX4_bridgesOnWay.cls = RX4 ∧ yX4_bridgesOnWay.cls ≠ "java/lang/invoke/MethodHandle" ∧ yX4_bridgesOnWay.cls ≠ "java/lang/invoke/VarHandle" ∧ (parseMethodDescriptor yX4_bridgesOnWay.desc).map (fun d => d.parameters.length) = some 1 := by decide +kernel
theorem qX4_clear : yX4_clear.cls = RX4 ∧ yX4_clear.cls ≠ "java/lang/invoke/MethodHandle" ∧ yX4_clear.cls ≠ "java/lang/invoke/VarHandle" ∧ (parseMethodDescriptor yX4_clear.desc).map (fun d => d.parameters.length) = some 1 := by decide +kernel
theorem qX4_closeRing : yX4_closeRing.cls = RX4 ∧ yX4_closeRing.cls ≠ "java/lang/invoke/MethodHandle" ∧ yX4_closeRing.cls ≠ "java/lang/invoke/VarHandle" ∧ (parseMethodDescriptor yX4_closeRing.desc).map (fun d => d.parameters.length) = some 2 := by decide +kernel
theorem qX4_growAgain : yX4_growAgain.cls = RX4 ∧ yX4_growAgain.cls ≠ "java/lang/invoke/MethodHandle" ∧ yX4_growAgain.cls ≠ "java/lang/invoke/VarHandle" ∧ (parseMethodDescriptor yX4_growAgain.desc).map (fun d => d.parameters.length) = some 1 := by decide +kernel
theorem qX4_high : yX4_high.cls = RX4 ∧ yX4_high.cls ≠ "java/lang/invoke/MethodHandle" ∧ yX4_high.cls ≠ "java/lang/invoke/VarHandle" ∧ (parseMethodDescriptor yX4_high.desc).map (fun d => d.parameters.length) = some 1 := by decide +kernel
theorem qX4_isAt : yX4_isAt.cls = RX4 ∧ yX4_isAt.cls ≠ "java/lang/invoke/MethodHandle" ∧ yX4_isAt.cls ≠ "java/lang/invoke/VarHandle" ∧ (parseMethodDescriptor yX4_isAt.desc).map (fun d => d.parameters.length) = some 2 := by decide +kernel
theorem qX4_isBridge : yX4_isBridge.cls = RX4 ∧ yX4_isBridge.cls ≠ "java/lang/invoke/MethodHandle" ∧ yX4_isBridge.cls ≠ "java/lang/invoke/VarHandle" ∧ (parseMethodDescriptor yX4_isBridge.desc).map (fun d => d.parameters.length) = some 1 := by decide +kernel
theorem qX4_joinLands : yX4_joinLands.cls = RX4 ∧ yX4_joinLands.cls ≠ "java/lang/invoke/MethodHandle" ∧ yX4_joinLands.cls ≠ "java/lang/invoke/VarHandle" ∧ (parseMethodDescriptor yX4_joinLands.desc).map (fun d => d.parameters.length) = some 3 := by decide +kernel
theorem qX4_landSince : yX4_landSince.cls = RX4 ∧ yX4_landSince.cls ≠ "java/lang/invoke/MethodHandle" ∧ yX4_landSince.cls ≠ "java/lang/invoke/VarHandle" ∧ (parseMethodDescriptor yX4_landSince.desc).map (fun d => d.parameters.length) = some 1 := by decide +kernel
theorem qX4_leavesPart : yX4_leavesPart.cls = RX4 ∧ yX4_leavesPart.cls ≠ "java/lang/invoke/MethodHandle" ∧ yX4_leavesPart.cls ≠ "java/lang/invoke/VarHandle" ∧ (parseMethodDescriptor yX4_leavesPart.desc).map (fun d => d.parameters.length) = some 1 := by decide +kernel
theorem qX4_linksAt : yX4_linksAt.cls = RX4 ∧ yX4_linksAt.cls ≠ "java/lang/invoke/MethodHandle" ∧ yX4_linksAt.cls ≠ "java/lang/invoke/VarHandle" ∧ (parseMethodDescriptor yX4_linksAt.desc).map (fun d => d.parameters.length) = some 1 := by decide +kernel
theorem qX4_linksOf : yX4_linksOf.cls = RX4 ∧ yX4_linksOf.cls ≠ "java/lang/invoke/MethodHandle" ∧ yX4_linksOf.cls ≠ "java/lang/invoke/VarHandle" ∧ (parseMethodDescriptor yX4_linksOf.desc).map (fun d => d.parameters.length) = some 1 := by decide +kernel
theorem qX4_linksWithin : yX4_linksWithin.cls = RX4 ∧ yX4_linksWithin.cls ≠ "java/lang/invoke/MethodHandle" ∧ yX4_linksWithin.cls ≠ "java/lang/invoke/VarHandle" ∧ (parseMethodDescriptor yX4_linksWithin.desc).map (fun d => d.parameters.length) = some 1 := by decide +kernel
theorem qX4_ringSince : yX4_ringSince.cls = RX4 ∧ yX4_ringSince.cls ≠ "java/lang/invoke/MethodHandle" ∧ yX4_ringSince.cls ≠ "java/lang/invoke/VarHandle" ∧ (parseMethodDescriptor yX4_ringSince.desc).map (fun d => d.parameters.length) = some 1 := by decide +kernel
theorem qX4_trace : yX4_trace.cls = RX4 ∧ yX4_trace.cls ≠ "java/lang/invoke/MethodHandle" ∧ yX4_trace.cls ≠ "java/lang/invoke/VarHandle" ∧ (parseMethodDescriptor yX4_trace.desc).map (fun d => d.parameters.length) = some 2 := by decide +kernel
theorem qX4_turn : yX4_turn.cls = RX4 ∧ yX4_turn.cls ≠ "java/lang/invoke/MethodHandle" ∧ yX4_turn.cls ≠ "java/lang/invoke/VarHandle" ∧ (parseMethodDescriptor yX4_turn.desc).map (fun d => d.parameters.length) = some 3 := by decide +kernel
theorem qX5_areTwoNodes : yX5_areTwoNodes.cls = RX5 ∧ yX5_areTwoNodes.cls ≠ "java/lang/invoke/MethodHandle" ∧ yX5_areTwoNodes.cls ≠ "java/lang/invoke/VarHandle" ∧ (parseMethodDescriptor yX5_areTwoNodes.desc).map (fun d => d.parameters.length) = some 2 := by decide +kernel
theorem qX5_best : yX5_best.cls = RX5 ∧ yX5_best.cls ≠ "java/lang/invoke/MethodHandle" ∧ yX5_best.cls ≠ "java/lang/invoke/VarHandle" ∧ (parseMethodDescriptor yX5_best.desc).map (fun d => d.parameters.length) = some 1 := by decide +kernel
theorem qX5_between : yX5_between.cls = RX5 ∧ yX5_between.cls ≠ "java/lang/invoke/MethodHandle" ∧ yX5_between.cls ≠ "java/lang/invoke/VarHandle" ∧ (parseMethodDescriptor yX5_between.desc).map (fun d => d.parameters.length) = some 3 := by decide +kernel
theorem qX5_bit : yX5_bit.cls = RX5 ∧ yX5_bit.cls ≠ "java/lang/invoke/MethodHandle" ∧ yX5_bit.cls ≠ "java/lang/invoke/VarHandle" ∧ (parseMethodDescriptor yX5_bit.desc).map (fun d => d.parameters.length) = some 1 := by decide +kernel
theorem qX5_bit_n : yX5_bit.cls ≠ "java/lang/invoke/MethodHandle" ∧ yX5_bit.cls ≠ "java/lang/invoke/VarHandle" ∧ (parseMethodDescriptor yX5_bit.desc).map (fun d => d.parameters.length) = some 1 := qX5_bit.2
theorem qX5_bit_o : yX5_bit.cls ≠ "java/lang/invoke/MethodHandle" ∧ yX5_bit.cls ≠ "java/lang/invoke/VarHandle" ∧ (parseMethodDescriptor yX5_bit.desc).map (fun d => d.parameters.length) = some 1 := qX5_bit.2
theorem qX5_block : yX5_block.cls = RX5 ∧ yX5_block.cls ≠ "java/lang/invoke/MethodHandle" ∧ yX5_block.cls ≠ "java/lang/invoke/VarHandle" ∧ (parseMethodDescriptor yX5_block.desc).map (fun d => d.parameters.length) = some 2 := by decide +kernel
theorem qX5_bridge : yX5_bridge.cls = RX5 ∧ yX5_bridge.cls ≠ "java/lang/invoke/MethodHandle" ∧ yX5_bridge.cls ≠ "java/lang/invoke/VarHandle" ∧ (parseMethodDescriptor yX5_bridge.desc).map (fun d => d.parameters.length) = some 1 := by decide +kernel
theorem qX5_bridgesBy : yX5_bridgesBy.cls = RX5 ∧ yX5_bridgesBy.cls ≠ "java/lang/invoke/MethodHandle" ∧ yX5_bridgesBy.cls ≠ "java/lang/invoke/VarHandle" ∧ (parseMethodDescriptor yX5_bridgesBy.desc).map (fun d => d.parameters.length) = some 1 := by decide +kernel
theorem qX5_centre : yX5_centre.cls = RX5 ∧ yX5_centre.cls ≠ "java/lang/invoke/MethodHandle" ∧ yX5_centre.cls ≠ "java/lang/invoke/VarHandle" ∧ (parseMethodDescriptor yX5_centre.desc).map (fun d => d.parameters.length) = some 1 := by decide +kernel
theorem qX5_child : yX5_child.cls = RX5 ∧ yX5_child.cls ≠ "java/lang/invoke/MethodHandle" ∧ yX5_child.cls ≠ "java/lang/invoke/VarHandle" ∧ (parseMethodDescriptor yX5_child.desc).map (fun d => d.parameters.length) = some 2 := by decide +kernel
theorem qX5_doubleSafe : yX5_doubleSafe.cls = RX5 ∧ yX5_doubleSafe.cls ≠ "java/lang/invoke/MethodHandle" ∧ yX5_doubleSafe.cls ≠ "java/lang/invoke/VarHandle" ∧ (parseMethodDescriptor yX5_doubleSafe.desc).map (fun d => d.parameters.length) = some 2 := by decide +kernel
theorem qX5_draw : yX5_draw.cls = RX5 ∧ yX5_draw.cls ≠ "java/lang/invoke/MethodHandle" ∧ yX5_draw.cls ≠ "java/lang/invoke/VarHandle" ∧ (parseMethodDescriptor yX5_draw.desc).map (fun d => d.parameters.length) = some 1 := by decide +kernel
theorem qX5_holds : yX5_holds.cls = RX5 ∧ yX5_holds.cls ≠ "java/lang/invoke/MethodHandle" ∧ yX5_holds.cls ≠ "java/lang/invoke/VarHandle" ∧ (parseMethodDescriptor yX5_holds.desc).map (fun d => d.parameters.length) = some 2 := by decide +kernel
theorem qX5_holds_n : yX5_holds.cls ≠ "java/lang/invoke/MethodHandle" ∧ yX5_holds.cls ≠ "java/lang/invoke/VarHandle" ∧ (parseMethodDescriptor yX5_holds.desc).map (fun d => d.parameters.length) = some 2 := qX5_holds.2
theorem qX5_holds_o : yX5_holds.cls ≠ "java/lang/invoke/MethodHandle" ∧ yX5_holds.cls ≠ "java/lang/invoke/VarHandle" ∧ (parseMethodDescriptor yX5_holds.desc).map (fun d => d.parameters.length) = some 2 := qX5_holds.2
theorem qX5_isLink : yX5_isLink.cls = RX5 ∧ yX5_isLink.cls ≠ "java/lang/invoke/MethodHandle" ∧ yX5_isLink.cls ≠ "java/lang/invoke/VarHandle" ∧ (parseMethodDescriptor yX5_isLink.desc).map (fun d => d.parameters.length) = some 1 := by decide +kernel
theorem qX5_isNode : yX5_isNode.cls = RX5 ∧ yX5_isNode.cls ≠ "java/lang/invoke/MethodHandle" ∧ yX5_isNode.cls ≠ "java/lang/invoke/VarHandle" ∧ (parseMethodDescriptor yX5_isNode.desc).map (fun d => d.parameters.length) = some 1 := by decide +kernel
theorem qX5_land : yX5_land.cls = RX5 ∧ yX5_land.cls ≠ "java/lang/invoke/MethodHandle" ∧ yX5_land.cls ≠ "java/lang/invoke/VarHandle" ∧ (parseMethodDescriptor yX5_land.desc).map (fun d => d.parameters.length) = some 2 := by decide +kernel
theorem qX5_latest : yX5_latest.cls = RX5 ∧ yX5_latest.cls ≠ "java/lang/invoke/MethodHandle" ∧ yX5_latest.cls ≠ "java/lang/invoke/VarHandle" ∧ (parseMethodDescriptor yX5_latest.desc).map (fun d => d.parameters.length) = some 1 := by decide +kernel
theorem qX5_link : yX5_link.cls = RX5 ∧ yX5_link.cls ≠ "java/lang/invoke/MethodHandle" ∧ yX5_link.cls ≠ "java/lang/invoke/VarHandle" ∧ (parseMethodDescriptor yX5_link.desc).map (fun d => d.parameters.length) = some 2 := by decide +kernel
theorem qX5_linkOf : yX5_linkOf.cls = RX5 ∧ yX5_linkOf.cls ≠ "java/lang/invoke/MethodHandle" ∧ yX5_linkOf.cls ≠ "java/lang/invoke/VarHandle" ∧ (parseMethodDescriptor yX5_linkOf.desc).map (fun d => d.parameters.length) = some 2 := by decide +kernel
theorem qX5_look : yX5_look.cls = RX5 ∧ yX5_look.cls ≠ "java/lang/invoke/MethodHandle" ∧ yX5_look.cls ≠ "java/lang/invoke/VarHandle" ∧ (parseMethodDescriptor yX5_look.desc).map (fun d => d.parameters.length) = some 1 := by decide +kernel
theorem qX5_member : yX5_member.cls = RX5 ∧ yX5_member.cls ≠ "java/lang/invoke/MethodHandle" ∧ yX5_member.cls ≠ "java/lang/invoke/VarHandle" ∧ (parseMethodDescriptor yX5_member.desc).map (fun d => d.parameters.length) = some 2 := by decide +kernel
theorem qX5_mendOf : yX5_mendOf.cls = RX5 ∧ yX5_mendOf.cls ≠ "java/lang/invoke/MethodHandle" ∧ yX5_mendOf.cls ≠ "java/lang/invoke/VarHandle" ∧ (parseMethodDescriptor yX5_mendOf.desc).map (fun d => d.parameters.length) = some 1 := by decide +kernel
theorem qX5_mendOfAll : yX5_mendOfAll.cls = RX5 ∧ yX5_mendOfAll.cls ≠ "java/lang/invoke/MethodHandle" ∧ yX5_mendOfAll.cls ≠ "java/lang/invoke/VarHandle" ∧ (parseMethodDescriptor yX5_mendOfAll.desc).map (fun d => d.parameters.length) = some 0 := by decide +kernel
theorem qX5_mending : yX5_mending.cls = RX5 ∧ yX5_mending.cls ≠ "java/lang/invoke/MethodHandle" ∧ yX5_mending.cls ≠ "java/lang/invoke/VarHandle" ∧ (parseMethodDescriptor yX5_mending.desc).map (fun d => d.parameters.length) = some 3 := by decide +kernel
theorem qX5_node : yX5_node.cls = RX5 ∧ yX5_node.cls ≠ "java/lang/invoke/MethodHandle" ∧ yX5_node.cls ≠ "java/lang/invoke/VarHandle" ∧ (parseMethodDescriptor yX5_node.desc).map (fun d => d.parameters.length) = some 2 := by decide +kernel
theorem qX5_nodes : yX5_nodes.cls = RX5 ∧ yX5_nodes.cls ≠ "java/lang/invoke/MethodHandle" ∧ yX5_nodes.cls ≠ "java/lang/invoke/VarHandle" ∧ (parseMethodDescriptor yX5_nodes.desc).map (fun d => d.parameters.length) = some 1 := by decide +kernel
theorem qX5_part : yX5_part.cls = RX5 ∧ yX5_part.cls ≠ "java/lang/invoke/MethodHandle" ∧ yX5_part.cls ≠ "java/lang/invoke/VarHandle" ∧ (parseMethodDescriptor yX5_part.desc).map (fun d => d.parameters.length) = some 2 := by decide +kernel
theorem qX5_productOfSides : yX5_productOfSides.cls = RX5 ∧ yX5_productOfSides.cls ≠ "java/lang/invoke/MethodHandle" ∧ yX5_productOfSides.cls ≠ "java/lang/invoke/VarHandle" ∧ (parseMethodDescriptor yX5_productOfSides.desc).map (fun d => d.parameters.length) = some 1 := by decide +kernel
theorem qX5_rain : yX5_rain.cls = RX5 ∧ yX5_rain.cls ≠ "java/lang/invoke/MethodHandle" ∧ yX5_rain.cls ≠ "java/lang/invoke/VarHandle" ∧ (parseMethodDescriptor yX5_rain.desc).map (fun d => d.parameters.length) = some 1 := by decide +kernel
theorem qX5_readAgain : yX5_readAgain.cls = RX5 ∧ yX5_readAgain.cls ≠ "java/lang/invoke/MethodHandle" ∧ yX5_readAgain.cls ≠ "java/lang/invoke/VarHandle" ∧ (parseMethodDescriptor yX5_readAgain.desc).map (fun d => d.parameters.length) = some 0 := by decide +kernel
theorem qX5_ring : yX5_ring.cls = RX5 ∧ yX5_ring.cls ≠ "java/lang/invoke/MethodHandle" ∧ yX5_ring.cls ≠ "java/lang/invoke/VarHandle" ∧ (parseMethodDescriptor yX5_ring.desc).map (fun d => d.parameters.length) = some 2 := by decide +kernel
theorem qX5_sideOf : yX5_sideOf.cls = RX5 ∧ yX5_sideOf.cls ≠ "java/lang/invoke/MethodHandle" ∧ yX5_sideOf.cls ≠ "java/lang/invoke/VarHandle" ∧ (parseMethodDescriptor yX5_sideOf.desc).map (fun d => d.parameters.length) = some 3 := by decide +kernel
theorem qX5_since : yX5_since.cls = RX5 ∧ yX5_since.cls ≠ "java/lang/invoke/MethodHandle" ∧ yX5_since.cls ≠ "java/lang/invoke/VarHandle" ∧ (parseMethodDescriptor yX5_since.desc).map (fun d => d.parameters.length) = some 3 := by decide +kernel
theorem qX5_state : yX5_state.cls = RX5 ∧ yX5_state.cls ≠ "java/lang/invoke/MethodHandle" ∧ yX5_state.cls ≠ "java/lang/invoke/VarHandle" ∧ (parseMethodDescriptor yX5_state.desc).map (fun d => d.parameters.length) = some 1 := by decide +kernel
theorem qX5_story : yX5_story.cls = RX5 ∧ yX5_story.cls ≠ "java/lang/invoke/MethodHandle" ∧ yX5_story.cls ≠ "java/lang/invoke/VarHandle" ∧ (parseMethodDescriptor yX5_story.desc).map (fun d => d.parameters.length) = some 3 := by decide +kernel
theorem qX5_undo : yX5_undo.cls = RX5 ∧ yX5_undo.cls ≠ "java/lang/invoke/MethodHandle" ∧ yX5_undo.cls ≠ "java/lang/invoke/VarHandle" ∧ (parseMethodDescriptor yX5_undo.desc).map (fun d => d.parameters.length) = some 1 := by decide +kernel
theorem qX5_way : yX5_way.cls = RX5 ∧ yX5_way.cls ≠ "java/lang/invoke/MethodHandle" ∧ yX5_way.cls ≠ "java/lang/invoke/VarHandle" ∧ (parseMethodDescriptor yX5_way.desc).map (fun d => d.parameters.length) = some 3 := by decide +kernel
theorem qX5_without : yX5_without.cls = RX5 ∧ yX5_without.cls ≠ "java/lang/invoke/MethodHandle" ∧ yX5_without.cls ≠ "java/lang/invoke/VarHandle" ∧ (parseMethodDescriptor yX5_without.desc).map (fun d => d.parameters.length) = some 3 := by decide +kernel
theorem qX5_worst : yX5_worst.cls = RX5 ∧ yX5_worst.cls ≠ "java/lang/invoke/MethodHandle" ∧ yX5_worst.cls ≠ "java/lang/invoke/VarHandle" ∧ (parseMethodDescriptor yX5_worst.desc).map (fun d => d.parameters.length) = some 1 := by decide +kernel
theorem qX5_would : yX5_would.cls = RX5 ∧ yX5_would.cls ≠ "java/lang/invoke/MethodHandle" ∧ yX5_would.cls ≠ "java/lang/invoke/VarHandle" ∧ (parseMethodDescriptor yX5_would.desc).map (fun d => d.parameters.length) = some 3 := by decide +kernel
theorem qX5_wouldBeOne : yX5_wouldBeOne.cls = RX5 ∧ yX5_wouldBeOne.cls ≠ "java/lang/invoke/MethodHandle" ∧ yX5_wouldBeOne.cls ≠ "java/lang/invoke/VarHandle" ∧ (parseMethodDescriptor yX5_wouldBeOne.desc).map (fun d => d.parameters.length) = some 2 := by decide +kernel
theorem qX5_wouldName : yX5_wouldName.cls = RX5 ∧ yX5_wouldName.cls ≠ "java/lang/invoke/MethodHandle" ∧ yX5_wouldName.cls ≠ "java/lang/invoke/VarHandle" ∧ (parseMethodDescriptor yX5_wouldName.desc).map (fun d => d.parameters.length) = some 3 := by decide +kernel
theorem qX6_apart : yX6_apart.cls = RX6 ∧ yX6_apart.cls ≠ "java/lang/invoke/MethodHandle" ∧ yX6_apart.cls ≠ "java/lang/invoke/VarHandle" ∧ (parseMethodDescriptor yX6_apart.desc).map (fun d => d.parameters.length) = some 2 := by decide +kernel
theorem qX6_areBy : yX6_areBy.cls = RX6 ∧ yX6_areBy.cls ≠ "java/lang/invoke/MethodHandle" ∧ yX6_areBy.cls ≠ "java/lang/invoke/VarHandle" ∧ (parseMethodDescriptor yX6_areBy.desc).map (fun d => d.parameters.length) = some 4 := by decide +kernel
theorem qX6_areSafe : yX6_areSafe.cls = RX6 ∧ yX6_areSafe.cls ≠ "java/lang/invoke/MethodHandle" ∧ yX6_areSafe.cls ≠ "java/lang/invoke/VarHandle" ∧ (parseMethodDescriptor yX6_areSafe.desc).map (fun d => d.parameters.length) = some 2 := by decide +kernel
theorem qX6_areTwo : yX6_areTwo.cls = RX6 ∧ yX6_areTwo.cls ≠ "java/lang/invoke/MethodHandle" ∧ yX6_areTwo.cls ≠ "java/lang/invoke/VarHandle" ∧ (parseMethodDescriptor yX6_areTwo.desc).map (fun d => d.parameters.length) = some 2 := by decide +kernel
theorem qX6_begins : yX6_begins.cls = RX6 ∧ yX6_begins.cls ≠ "java/lang/invoke/MethodHandle" ∧ yX6_begins.cls ≠ "java/lang/invoke/VarHandle" ∧ (parseMethodDescriptor yX6_begins.desc).map (fun d => d.parameters.length) = some 0 := by decide +kernel
theorem qX6_below : yX6_below.cls = RX6 ∧ yX6_below.cls ≠ "java/lang/invoke/MethodHandle" ∧ yX6_below.cls ≠ "java/lang/invoke/VarHandle" ∧ (parseMethodDescriptor yX6_below.desc).map (fun d => d.parameters.length) = some 1 := by decide +kernel
theorem qX6_best : yX6_best.cls = RX6 ∧ yX6_best.cls ≠ "java/lang/invoke/MethodHandle" ∧ yX6_best.cls ≠ "java/lang/invoke/VarHandle" ∧ (parseMethodDescriptor yX6_best.desc).map (fun d => d.parameters.length) = some 1 := by decide +kernel
theorem qX6_between : yX6_between.cls = RX6 ∧ yX6_between.cls ≠ "java/lang/invoke/MethodHandle" ∧ yX6_between.cls ≠ "java/lang/invoke/VarHandle" ∧ (parseMethodDescriptor yX6_between.desc).map (fun d => d.parameters.length) = some 3 := by decide +kernel
theorem qX6_block : yX6_block.cls = RX6 ∧ yX6_block.cls ≠ "java/lang/invoke/MethodHandle" ∧ yX6_block.cls ≠ "java/lang/invoke/VarHandle" ∧ (parseMethodDescriptor yX6_block.desc).map (fun d => d.parameters.length) = some 2 := by decide +kernel
theorem qX6_blockAt : yX6_blockAt.cls = RX6 ∧ yX6_blockAt.cls ≠ "java/lang/invoke/MethodHandle" ∧ yX6_blockAt.cls ≠ "java/lang/invoke/VarHandle" ∧ (parseMethodDescriptor yX6_blockAt.desc).map (fun d => d.parameters.length) = some 1 := by decide +kernel
theorem qX6_blocksIf : yX6_blocksIf.cls = RX6 ∧ yX6_blocksIf.cls ≠ "java/lang/invoke/MethodHandle" ∧ yX6_blocksIf.cls ≠ "java/lang/invoke/VarHandle" ∧ (parseMethodDescriptor yX6_blocksIf.desc).map (fun d => d.parameters.length) = some 2 := by decide +kernel
theorem qX6_blocksOf : yX6_blocksOf.cls = RX6 ∧ yX6_blocksOf.cls ≠ "java/lang/invoke/MethodHandle" ∧ yX6_blocksOf.cls ≠ "java/lang/invoke/VarHandle" ∧ (parseMethodDescriptor yX6_blocksOf.desc).map (fun d => d.parameters.length) = some 1 := by decide +kernel
theorem qX6_bridge : yX6_bridge.cls = RX6 ∧ yX6_bridge.cls ≠ "java/lang/invoke/MethodHandle" ∧ yX6_bridge.cls ≠ "java/lang/invoke/VarHandle" ∧ (parseMethodDescriptor yX6_bridge.desc).map (fun d => d.parameters.length) = some 1 := by decide +kernel
theorem qX6_bridges : yX6_bridges.cls = RX6 ∧ yX6_bridges.cls ≠ "java/lang/invoke/MethodHandle" ∧ yX6_bridges.cls ≠ "java/lang/invoke/VarHandle" ∧ (parseMethodDescriptor yX6_bridges.desc).map (fun d => d.parameters.length) = some 0 := by decide +kernel
theorem qX6_bridgesAt : yX6_bridgesAt.cls = RX6 ∧ yX6_bridgesAt.cls ≠ "java/lang/invoke/MethodHandle" ∧ yX6_bridgesAt.cls ≠ "java/lang/invoke/VarHandle" ∧ (parseMethodDescriptor yX6_bridgesAt.desc).map (fun d => d.parameters.length) = some 1 := by decide +kernel
theorem qX6_bridgesBy : yX6_bridgesBy.cls = RX6 ∧ yX6_bridgesBy.cls ≠ "java/lang/invoke/MethodHandle" ∧ yX6_bridgesBy.cls ≠ "java/lang/invoke/VarHandle" ∧ (parseMethodDescriptor yX6_bridgesBy.desc).map (fun d => d.parameters.length) = some 1 := by decide +kernel
theorem qX6_bridgesWithout : yX6_bridgesWithout.cls = RX6 ∧ yX6_bridgesWithout.cls ≠ "java/lang/invoke/MethodHandle" ∧ yX6_bridgesWithout.cls ≠ "java/lang/invoke/VarHandle" ∧ (parseMethodDescriptor yX6_bridgesWithout.desc).map (fun d => d.parameters.length) = some 2 := by decide +kernel
theorem qX6_centre : yX6_centre.cls = RX6 ∧ yX6_centre.cls ≠ "java/lang/invoke/MethodHandle" ∧ yX6_centre.cls ≠ "java/lang/invoke/VarHandle" ∧ (parseMethodDescriptor yX6_centre.desc).map (fun d => d.parameters.length) = some 1 := by decide +kernel
theorem qX6_child : yX6_child.cls = RX6 ∧ yX6_child.cls ≠ "java/lang/invoke/MethodHandle" ∧ yX6_child.cls ≠ "java/lang/invoke/VarHandle" ∧ (parseMethodDescriptor yX6_child.desc).map (fun d => d.parameters.length) = some 2 := by decide +kernel
theorem qX6_childOf : yX6_childOf.cls = RX6 ∧ yX6_childOf.cls ≠ "java/lang/invoke/MethodHandle" ∧ yX6_childOf.cls ≠ "java/lang/invoke/VarHandle" ∧ (parseMethodDescriptor yX6_childOf.desc).map (fun d => d.parameters.length) = some 2 := by decide +kernel
theorem qX6_children : yX6_children.cls = RX6 ∧ yX6_children.cls ≠ "java/lang/invoke/MethodHandle" ∧ yX6_children.cls ≠ "java/lang/invoke/VarHandle" ∧ (parseMethodDescriptor yX6_children.desc).map (fun d => d.parameters.length) = some 1 := by decide +kernel
theorem qX6_comes : yX6_comes.cls = RX6 ∧ yX6_comes.cls ≠ "java/lang/invoke/MethodHandle" ∧ yX6_comes.cls ≠ "java/lang/invoke/VarHandle" ∧ (parseMethodDescriptor yX6_comes.desc).map (fun d => d.parameters.length) = some 1 := by decide +kernel
theorem qX6_count : yX6_count.cls = RX6 ∧ yX6_count.cls ≠ "java/lang/invoke/MethodHandle" ∧ yX6_count.cls ≠ "java/lang/invoke/VarHandle" ∧ (parseMethodDescriptor yX6_count.desc).map (fun d => d.parameters.length) = some 1 := by decide +kernel
theorem qX6_cuts : yX6_cuts.cls = RX6 ∧ yX6_cuts.cls ≠ "java/lang/invoke/MethodHandle" ∧ yX6_cuts.cls ≠ "java/lang/invoke/VarHandle" ∧ (parseMethodDescriptor yX6_cuts.desc).map (fun d => d.parameters.length) = some 0 := by decide +kernel
theorem qX6_cutsIn : yX6_cutsIn.cls = RX6 ∧ yX6_cutsIn.cls ≠ "java/lang/invoke/MethodHandle" ∧ yX6_cutsIn.cls ≠ "java/lang/invoke/VarHandle" ∧ (parseMethodDescriptor yX6_cutsIn.desc).map (fun d => d.parameters.length) = some 1 := by decide +kernel
theorem qX6_cutsOf : yX6_cutsOf.cls = RX6 ∧ yX6_cutsOf.cls ≠ "java/lang/invoke/MethodHandle" ∧ yX6_cutsOf.cls ≠ "java/lang/invoke/VarHandle" ∧ (parseMethodDescriptor yX6_cutsOf.desc).map (fun d => d.parameters.length) = some 1 := by decide +kernel
theorem qX6_deep : yX6_deep.cls = RX6 ∧ yX6_deep.cls ≠ "java/lang/invoke/MethodHandle" ∧ yX6_deep.cls ≠ "java/lang/invoke/VarHandle" ∧ (parseMethodDescriptor yX6_deep.desc).map (fun d => d.parameters.length) = some 1 := by decide +kernel
theorem qX6_deepest : yX6_deepest.cls = RX6 ∧ yX6_deepest.cls ≠ "java/lang/invoke/MethodHandle" ∧ yX6_deepest.cls ≠ "java/lang/invoke/VarHandle" ∧ (parseMethodDescriptor yX6_deepest.desc).map (fun d => d.parameters.length) = some 0 := by decide +kernel
theorem qX6_doubleSafe : yX6_doubleSafe.cls = RX6 ∧ yX6_doubleSafe.cls ≠ "java/lang/invoke/MethodHandle" ∧ yX6_doubleSafe.cls ≠ "java/lang/invoke/VarHandle" ∧ (parseMethodDescriptor yX6_doubleSafe.desc).map (fun d => d.parameters.length) = some 2 := by decide +kernel
theorem qX6_draw : yX6_draw.cls = RX6 ∧ yX6_draw.cls ≠ "java/lang/invoke/MethodHandle" ∧ yX6_draw.cls ≠ "java/lang/invoke/VarHandle" ∧ (parseMethodDescriptor yX6_draw.desc).map (fun d => d.parameters.length) = some 1 := by decide +kernel
theorem qX6_endedIf : yX6_endedIf.cls = RX6 ∧ yX6_endedIf.cls ≠ "java/lang/invoke/MethodHandle" ∧ yX6_endedIf.cls ≠ "java/lang/invoke/VarHandle" ∧ (parseMethodDescriptor yX6_endedIf.desc).map (fun d => d.parameters.length) = some 2 := by decide +kernel
theorem qX6_frail : yX6_frail.cls = RX6 ∧ yX6_frail.cls ≠ "java/lang/invoke/MethodHandle" ∧ yX6_frail.cls ≠ "java/lang/invoke/VarHandle" ∧ (parseMethodDescriptor yX6_frail.desc).map (fun d => d.parameters.length) = some 0 := by decide +kernel
theorem qX6_goesDown : yX6_goesDown.cls = RX6 ∧ yX6_goesDown.cls ≠ "java/lang/invoke/MethodHandle" ∧ yX6_goesDown.cls ≠ "java/lang/invoke/VarHandle" ∧ (parseMethodDescriptor yX6_goesDown.desc).map (fun d => d.parameters.length) = some 1 := by decide +kernel
theorem qX6_has : yX6_has.cls = RX6 ∧ yX6_has.cls ≠ "java/lang/invoke/MethodHandle" ∧ yX6_has.cls ≠ "java/lang/invoke/VarHandle" ∧ (parseMethodDescriptor yX6_has.desc).map (fun d => d.parameters.length) = some 2 := by decide +kernel
theorem qX6_isBlock : yX6_isBlock.cls = RX6 ∧ yX6_isBlock.cls ≠ "java/lang/invoke/MethodHandle" ∧ yX6_isBlock.cls ≠ "java/lang/invoke/VarHandle" ∧ (parseMethodDescriptor yX6_isBlock.desc).map (fun d => d.parameters.length) = some 1 := by decide +kernel
theorem qX6_isBlockOf : yX6_isBlockOf.cls = RX6 ∧ yX6_isBlockOf.cls ≠ "java/lang/invoke/MethodHandle" ∧ yX6_isBlockOf.cls ≠ "java/lang/invoke/VarHandle" ∧ (parseMethodDescriptor yX6_isBlockOf.desc).map (fun d => d.parameters.length) = some 2 := by decide +kernel
theorem qX6_isBridge : yX6_isBridge.cls = RX6 ∧ yX6_isBridge.cls ≠ "java/lang/invoke/MethodHandle" ∧ yX6_isBridge.cls ≠ "java/lang/invoke/VarHandle" ∧ (parseMethodDescriptor yX6_isBridge.desc).map (fun d => d.parameters.length) = some 1 := by decide +kernel
theorem qX6_isCut : yX6_isCut.cls = RX6 ∧ yX6_isCut.cls ≠ "java/lang/invoke/MethodHandle" ∧ yX6_isCut.cls ≠ "java/lang/invoke/VarHandle" ∧ (parseMethodDescriptor yX6_isCut.desc).map (fun d => d.parameters.length) = some 1 := by decide +kernel
theorem qX6_isIn : yX6_isIn.cls = RX6 ∧ yX6_isIn.cls ≠ "java/lang/invoke/MethodHandle" ∧ yX6_isIn.cls ≠ "java/lang/invoke/VarHandle" ∧ (parseMethodDescriptor yX6_isIn.desc).map (fun d => d.parameters.length) = some 3 := by decide +kernel
theorem qX6_isLand : yX6_isLand.cls = RX6 ∧ yX6_isLand.cls ≠ "java/lang/invoke/MethodHandle" ∧ yX6_isLand.cls ≠ "java/lang/invoke/VarHandle" ∧ (parseMethodDescriptor yX6_isLand.desc).map (fun d => d.parameters.length) = some 1 := by decide +kernel
theorem qX6_isLink : yX6_isLink.cls = RX6 ∧ yX6_isLink.cls ≠ "java/lang/invoke/MethodHandle" ∧ yX6_isLink.cls ≠ "java/lang/invoke/VarHandle" ∧ (parseMethodDescriptor yX6_isLink.desc).map (fun d => d.parameters.length) = some 1 := by decide +kernel
theorem qX6_isNode : yX6_isNode.cls = RX6 ∧ yX6_isNode.cls ≠ "java/lang/invoke/MethodHandle" ∧ yX6_isNode.cls ≠ "java/lang/invoke/VarHandle" ∧ (parseMethodDescriptor yX6_isNode.desc).map (fun d => d.parameters.length) = some 1 := by decide +kernel
theorem qX6_isOut : yX6_isOut.cls = RX6 ∧ yX6_isOut.cls ≠ "java/lang/invoke/MethodHandle" ∧ yX6_isOut.cls ≠ "java/lang/invoke/VarHandle" ∧ (parseMethodDescriptor yX6_isOut.desc).map (fun d => d.parameters.length) = some 3 := by decide +kernel
theorem qX6_joinsParts : yX6_joinsParts.cls = RX6 ∧ yX6_joinsParts.cls ≠ "java/lang/invoke/MethodHandle" ∧ yX6_joinsParts.cls ≠ "java/lang/invoke/VarHandle" ∧ (parseMethodDescriptor yX6_joinsParts.desc).map (fun d => d.parameters.length) = some 2 := by decide +kernel
theorem qX6_land : yX6_land.cls = RX6 ∧ yX6_land.cls ≠ "java/lang/invoke/MethodHandle" ∧ yX6_land.cls ≠ "java/lang/invoke/VarHandle" ∧ (parseMethodDescriptor yX6_land.desc).map (fun d => d.parameters.length) = some 2 := by decide +kernel
theorem qX6_landOf : yX6_landOf.cls = RX6 ∧ yX6_landOf.cls ≠ "java/lang/invoke/MethodHandle" ∧ yX6_landOf.cls ≠ "java/lang/invoke/VarHandle" ∧ (parseMethodDescriptor yX6_landOf.desc).map (fun d => d.parameters.length) = some 1 := by decide +kernel
theorem qX6_landsWithout : yX6_landsWithout.cls = RX6 ∧ yX6_landsWithout.cls ≠ "java/lang/invoke/MethodHandle" ∧ yX6_landsWithout.cls ≠ "java/lang/invoke/VarHandle" ∧ (parseMethodDescriptor yX6_landsWithout.desc).map (fun d => d.parameters.length) = some 2 := by decide +kernel
theorem qX6_latest : yX6_latest.cls = RX6 ∧ yX6_latest.cls ≠ "java/lang/invoke/MethodHandle" ∧ yX6_latest.cls ≠ "java/lang/invoke/VarHandle" ∧ (parseMethodDescriptor yX6_latest.desc).map (fun d => d.parameters.length) = some 1 := by decide +kernel
theorem qX6_lays : yX6_lays.cls = RX6 ∧ yX6_lays.cls ≠ "java/lang/invoke/MethodHandle" ∧ yX6_lays.cls ≠ "java/lang/invoke/VarHandle" ∧ (parseMethodDescriptor yX6_lays.desc).map (fun d => d.parameters.length) = some 2 := by decide +kernel
theorem qX6_laysAllParts : yX6_laysAllParts.cls = RX6 ∧ yX6_laysAllParts.cls ≠ "java/lang/invoke/MethodHandle" ∧ yX6_laysAllParts.cls ≠ "java/lang/invoke/VarHandle" ∧ (parseMethodDescriptor yX6_laysAllParts.desc).map (fun d => d.parameters.length) = some 0 := by decide +kernel
theorem qX6_laysParts : yX6_laysParts.cls = RX6 ∧ yX6_laysParts.cls ≠ "java/lang/invoke/MethodHandle" ∧ yX6_laysParts.cls ≠ "java/lang/invoke/VarHandle" ∧ (parseMethodDescriptor yX6_laysParts.desc).map (fun d => d.parameters.length) = some 3 := by decide +kernel
theorem qX6_laysWay : yX6_laysWay.cls = RX6 ∧ yX6_laysWay.cls ≠ "java/lang/invoke/MethodHandle" ∧ yX6_laysWay.cls ≠ "java/lang/invoke/VarHandle" ∧ (parseMethodDescriptor yX6_laysWay.desc).map (fun d => d.parameters.length) = some 3 := by decide +kernel
theorem qX6_least : yX6_least.cls = RX6 ∧ yX6_least.cls ≠ "java/lang/invoke/MethodHandle" ∧ yX6_least.cls ≠ "java/lang/invoke/VarHandle" ∧ (parseMethodDescriptor yX6_least.desc).map (fun d => d.parameters.length) = some 1 := by decide +kernel
theorem qX6_link : yX6_link.cls = RX6 ∧ yX6_link.cls ≠ "java/lang/invoke/MethodHandle" ∧ yX6_link.cls ≠ "java/lang/invoke/VarHandle" ∧ (parseMethodDescriptor yX6_link.desc).map (fun d => d.parameters.length) = some 2 := by decide +kernel
theorem qX6_linkOf : yX6_linkOf.cls = RX6 ∧ yX6_linkOf.cls ≠ "java/lang/invoke/MethodHandle" ∧ yX6_linkOf.cls ≠ "java/lang/invoke/VarHandle" ∧ (parseMethodDescriptor yX6_linkOf.desc).map (fun d => d.parameters.length) = some 2 := by decide +kernel
theorem qX6_linksAt : yX6_linksAt.cls = RX6 ∧ yX6_linksAt.cls ≠ "java/lang/invoke/MethodHandle" ∧ yX6_linksAt.cls ≠ "java/lang/invoke/VarHandle" ∧ (parseMethodDescriptor yX6_linksAt.desc).map (fun d => d.parameters.length) = some 2 := by decide +kernel
theorem qX6_linksIn : yX6_linksIn.cls = RX6 ∧ yX6_linksIn.cls ≠ "java/lang/invoke/MethodHandle" ∧ yX6_linksIn.cls ≠ "java/lang/invoke/VarHandle" ∧ (parseMethodDescriptor yX6_linksIn.desc).map (fun d => d.parameters.length) = some 1 := by decide +kernel
theorem qX6_linksNamed : yX6_linksNamed.cls = RX6 ∧ yX6_linksNamed.cls ≠ "java/lang/invoke/MethodHandle" ∧ yX6_linksNamed.cls ≠ "java/lang/invoke/VarHandle" ∧ (parseMethodDescriptor yX6_linksNamed.desc).map (fun d => d.parameters.length) = some 2 := by decide +kernel
theorem qX6_linksOf : yX6_linksOf.cls = RX6 ∧ yX6_linksOf.cls ≠ "java/lang/invoke/MethodHandle" ∧ yX6_linksOf.cls ≠ "java/lang/invoke/VarHandle" ∧ (parseMethodDescriptor yX6_linksOf.desc).map (fun d => d.parameters.length) = some 2 := by decide +kernel
theorem qX6_lone : yX6_lone.cls = RX6 ∧ yX6_lone.cls ≠ "java/lang/invoke/MethodHandle" ∧ yX6_lone.cls ≠ "java/lang/invoke/VarHandle" ∧ (parseMethodDescriptor yX6_lone.desc).map (fun d => d.parameters.length) = some 1 := by decide +kernel
theorem qX6_longest : yX6_longest.cls = RX6 ∧ yX6_longest.cls ≠ "java/lang/invoke/MethodHandle" ∧ yX6_longest.cls ≠ "java/lang/invoke/VarHandle" ∧ (parseMethodDescriptor yX6_longest.desc).map (fun d => d.parameters.length) = some 2 := by decide +kernel
theorem qX6_look : yX6_look.cls = RX6 ∧ yX6_look.cls ≠ "java/lang/invoke/MethodHandle" ∧ yX6_look.cls ≠ "java/lang/invoke/VarHandle" ∧ (parseMethodDescriptor yX6_look.desc).map (fun d => d.parameters.length) = some 1 := by decide +kernel
theorem qX6_member : yX6_member.cls = RX6 ∧ yX6_member.cls ≠ "java/lang/invoke/MethodHandle" ∧ yX6_member.cls ≠ "java/lang/invoke/VarHandle" ∧ (parseMethodDescriptor yX6_member.desc).map (fun d => d.parameters.length) = some 2 := by decide +kernel
theorem qX6_mend : yX6_mend.cls = RX6 ∧ yX6_mend.cls ≠ "java/lang/invoke/MethodHandle" ∧ yX6_mend.cls ≠ "java/lang/invoke/VarHandle" ∧ (parseMethodDescriptor yX6_mend.desc).map (fun d => d.parameters.length) = some 1 := by decide +kernel
theorem qX6_mending : yX6_mending.cls = RX6 ∧ yX6_mending.cls ≠ "java/lang/invoke/MethodHandle" ∧ yX6_mending.cls ≠ "java/lang/invoke/VarHandle" ∧ (parseMethodDescriptor yX6_mending.desc).map (fun d => d.parameters.length) = some 3 := by decide +kernel
theorem qX6_mends : yX6_mends.cls = RX6 ∧ yX6_mends.cls ≠ "java/lang/invoke/MethodHandle" ∧ yX6_mends.cls ≠ "java/lang/invoke/VarHandle" ∧ (parseMethodDescriptor yX6_mends.desc).map (fun d => d.parameters.length) = some 0 := by decide +kernel
theorem qX6_nameIf : yX6_nameIf.cls = RX6 ∧ yX6_nameIf.cls ≠ "java/lang/invoke/MethodHandle" ∧ yX6_nameIf.cls ≠ "java/lang/invoke/VarHandle" ∧ (parseMethodDescriptor yX6_nameIf.desc).map (fun d => d.parameters.length) = some 2 := by decide +kernel
theorem qX6_names : yX6_names.cls = RX6 ∧ yX6_names.cls ≠ "java/lang/invoke/MethodHandle" ∧ yX6_names.cls ≠ "java/lang/invoke/VarHandle" ∧ (parseMethodDescriptor yX6_names.desc).map (fun d => d.parameters.length) = some 1 := by decide +kernel
theorem qX6_namesPart : yX6_namesPart.cls = RX6 ∧ yX6_namesPart.cls ≠ "java/lang/invoke/MethodHandle" ∧ yX6_namesPart.cls ≠ "java/lang/invoke/VarHandle" ∧ (parseMethodDescriptor yX6_namesPart.desc).map (fun d => d.parameters.length) = some 1 := by decide +kernel
theorem qX6_node : yX6_node.cls = RX6 ∧ yX6_node.cls ≠ "java/lang/invoke/MethodHandle" ∧ yX6_node.cls ≠ "java/lang/invoke/VarHandle" ∧ (parseMethodDescriptor yX6_node.desc).map (fun d => d.parameters.length) = some 2 := by decide +kernel
theorem qX6_nodes : yX6_nodes.cls = RX6 ∧ yX6_nodes.cls ≠ "java/lang/invoke/MethodHandle" ∧ yX6_nodes.cls ≠ "java/lang/invoke/VarHandle" ∧ (parseMethodDescriptor yX6_nodes.desc).map (fun d => d.parameters.length) = some 1 := by decide +kernel
theorem qX6_nodesOf : yX6_nodesOf.cls = RX6 ∧ yX6_nodesOf.cls ≠ "java/lang/invoke/MethodHandle" ∧ yX6_nodesOf.cls ≠ "java/lang/invoke/VarHandle" ∧ (parseMethodDescriptor yX6_nodesOf.desc).map (fun d => d.parameters.length) = some 2 := by decide +kernel
theorem qX6_nodesOfPart : yX6_nodesOfPart.cls = RX6 ∧ yX6_nodesOfPart.cls ≠ "java/lang/invoke/MethodHandle" ∧ yX6_nodesOfPart.cls ≠ "java/lang/invoke/VarHandle" ∧ (parseMethodDescriptor yX6_nodesOfPart.desc).map (fun d => d.parameters.length) = some 1 := by decide +kernel
theorem qX6_onWay : yX6_onWay.cls = RX6 ∧ yX6_onWay.cls ≠ "java/lang/invoke/MethodHandle" ∧ yX6_onWay.cls ≠ "java/lang/invoke/VarHandle" ∧ (parseMethodDescriptor yX6_onWay.desc).map (fun d => d.parameters.length) = some 2 := by decide +kernel
theorem qX6_otherEnd : yX6_otherEnd.cls = RX6 ∧ yX6_otherEnd.cls ≠ "java/lang/invoke/MethodHandle" ∧ yX6_otherEnd.cls ≠ "java/lang/invoke/VarHandle" ∧ (parseMethodDescriptor yX6_otherEnd.desc).map (fun d => d.parameters.length) = some 2 := by decide +kernel
theorem qX6_part : yX6_part.cls = RX6 ∧ yX6_part.cls ≠ "java/lang/invoke/MethodHandle" ∧ yX6_part.cls ≠ "java/lang/invoke/VarHandle" ∧ (parseMethodDescriptor yX6_part.desc).map (fun d => d.parameters.length) = some 2 := by decide +kernel
theorem qX6_partNumber : yX6_partNumber.cls = RX6 ∧ yX6_partNumber.cls ≠ "java/lang/invoke/MethodHandle" ∧ yX6_partNumber.cls ≠ "java/lang/invoke/VarHandle" ∧ (parseMethodDescriptor yX6_partNumber.desc).map (fun d => d.parameters.length) = some 1 := by decide +kernel
theorem qX6_partsAt : yX6_partsAt.cls = RX6 ∧ yX6_partsAt.cls ≠ "java/lang/invoke/MethodHandle" ∧ yX6_partsAt.cls ≠ "java/lang/invoke/VarHandle" ∧ (parseMethodDescriptor yX6_partsAt.desc).map (fun d => d.parameters.length) = some 2 := by decide +kernel
theorem qX6_partsIn : yX6_partsIn.cls = RX6 ∧ yX6_partsIn.cls ≠ "java/lang/invoke/MethodHandle" ∧ yX6_partsIn.cls ≠ "java/lang/invoke/VarHandle" ∧ (parseMethodDescriptor yX6_partsIn.desc).map (fun d => d.parameters.length) = some 2 := by decide +kernel
theorem qX6_rain : yX6_rain.cls = RX6 ∧ yX6_rain.cls ≠ "java/lang/invoke/MethodHandle" ∧ yX6_rain.cls ≠ "java/lang/invoke/VarHandle" ∧ (parseMethodDescriptor yX6_rain.desc).map (fun d => d.parameters.length) = some 1 := by decide +kernel
theorem qX6_reached : yX6_reached.cls = RX6 ∧ yX6_reached.cls ≠ "java/lang/invoke/MethodHandle" ∧ yX6_reached.cls ≠ "java/lang/invoke/VarHandle" ∧ (parseMethodDescriptor yX6_reached.desc).map (fun d => d.parameters.length) = some 4 := by decide +kernel
theorem qX6_reachedBut : yX6_reachedBut.cls = RX6 ∧ yX6_reachedBut.cls ≠ "java/lang/invoke/MethodHandle" ∧ yX6_reachedBut.cls ≠ "java/lang/invoke/VarHandle" ∧ (parseMethodDescriptor yX6_reachedBut.desc).map (fun d => d.parameters.length) = some 4 := by decide +kernel
theorem qX6_reachedWithout : yX6_reachedWithout.cls = RX6 ∧ yX6_reachedWithout.cls ≠ "java/lang/invoke/MethodHandle" ∧ yX6_reachedWithout.cls ≠ "java/lang/invoke/VarHandle" ∧ (parseMethodDescriptor yX6_reachedWithout.desc).map (fun d => d.parameters.length) = some 5 := by decide +kernel
theorem qX6_ring : yX6_ring.cls = RX6 ∧ yX6_ring.cls ≠ "java/lang/invoke/MethodHandle" ∧ yX6_ring.cls ≠ "java/lang/invoke/VarHandle" ∧ (parseMethodDescriptor yX6_ring.desc).map (fun d => d.parameters.length) = some 2 := by decide +kernel
theorem qX6_rootOf : yX6_rootOf.cls = RX6 ∧ yX6_rootOf.cls ≠ "java/lang/invoke/MethodHandle" ∧ yX6_rootOf.cls ≠ "java/lang/invoke/VarHandle" ∧ (parseMethodDescriptor yX6_rootOf.desc).map (fun d => d.parameters.length) = some 1 := by decide +kernel
theorem qX6_runs : yX6_runs.cls = RX6 ∧ yX6_runs.cls ≠ "java/lang/invoke/MethodHandle" ∧ yX6_runs.cls ≠ "java/lang/invoke/VarHandle" ∧ (parseMethodDescriptor yX6_runs.desc).map (fun d => d.parameters.length) = some 1 := by decide +kernel
theorem qX6_runsAll : yX6_runsAll.cls = RX6 ∧ yX6_runsAll.cls ≠ "java/lang/invoke/MethodHandle" ∧ yX6_runsAll.cls ≠ "java/lang/invoke/VarHandle" ∧ (parseMethodDescriptor yX6_runsAll.desc).map (fun d => d.parameters.length) = some 0 := by decide +kernel
theorem qX6_runsParts : yX6_runsParts.cls = RX6 ∧ yX6_runsParts.cls ≠ "java/lang/invoke/MethodHandle" ∧ yX6_runsParts.cls ≠ "java/lang/invoke/VarHandle" ∧ (parseMethodDescriptor yX6_runsParts.desc).map (fun d => d.parameters.length) = some 0 := by decide +kernel
theorem qX6_safePairs : yX6_safePairs.cls = RX6 ∧ yX6_safePairs.cls ≠ "java/lang/invoke/MethodHandle" ∧ yX6_safePairs.cls ≠ "java/lang/invoke/VarHandle" ∧ (parseMethodDescriptor yX6_safePairs.desc).map (fun d => d.parameters.length) = some 0 := by decide +kernel
theorem qX6_shrinks : yX6_shrinks.cls = RX6 ∧ yX6_shrinks.cls ≠ "java/lang/invoke/MethodHandle" ∧ yX6_shrinks.cls ≠ "java/lang/invoke/VarHandle" ∧ (parseMethodDescriptor yX6_shrinks.desc).map (fun d => d.parameters.length) = some 2 := by decide +kernel
theorem qX6_side : yX6_side.cls = RX6 ∧ yX6_side.cls ≠ "java/lang/invoke/MethodHandle" ∧ yX6_side.cls ≠ "java/lang/invoke/VarHandle" ∧ (parseMethodDescriptor yX6_side.desc).map (fun d => d.parameters.length) = some 2 := by decide +kernel
theorem qX6_since : yX6_since.cls = RX6 ∧ yX6_since.cls ≠ "java/lang/invoke/MethodHandle" ∧ yX6_since.cls ≠ "java/lang/invoke/VarHandle" ∧ (parseMethodDescriptor yX6_since.desc).map (fun d => d.parameters.length) = some 3 := by decide +kernel
theorem qX6_sizeOf : yX6_sizeOf.cls = RX6 ∧ yX6_sizeOf.cls ≠ "java/lang/invoke/MethodHandle" ∧ yX6_sizeOf.cls ≠ "java/lang/invoke/VarHandle" ∧ (parseMethodDescriptor yX6_sizeOf.desc).map (fun d => d.parameters.length) = some 2 := by decide +kernel
theorem qX6_state : yX6_state.cls = RX6 ∧ yX6_state.cls ≠ "java/lang/invoke/MethodHandle" ∧ yX6_state.cls ≠ "java/lang/invoke/VarHandle" ∧ (parseMethodDescriptor yX6_state.desc).map (fun d => d.parameters.length) = some 1 := by decide +kernel
theorem qX6_steps : yX6_steps.cls = RX6 ∧ yX6_steps.cls ≠ "java/lang/invoke/MethodHandle" ∧ yX6_steps.cls ≠ "java/lang/invoke/VarHandle" ∧ (parseMethodDescriptor yX6_steps.desc).map (fun d => d.parameters.length) = some 3 := by decide +kernel
theorem qX6_story : yX6_story.cls = RX6 ∧ yX6_story.cls ≠ "java/lang/invoke/MethodHandle" ∧ yX6_story.cls ≠ "java/lang/invoke/VarHandle" ∧ (parseMethodDescriptor yX6_story.desc).map (fun d => d.parameters.length) = some 3 := by decide +kernel
theorem qX6_storyOfPart : yX6_storyOfPart.cls = RX6 ∧ yX6_storyOfPart.cls ≠ "java/lang/invoke/MethodHandle" ∧ yX6_storyOfPart.cls ≠ "java/lang/invoke/VarHandle" ∧ (parseMethodDescriptor yX6_storyOfPart.desc).map (fun d => d.parameters.length) = some 2 := by decide +kernel
theorem qX6_turns : yX6_turns.cls = RX6 ∧ yX6_turns.cls ≠ "java/lang/invoke/MethodHandle" ∧ yX6_turns.cls ≠ "java/lang/invoke/VarHandle" ∧ (parseMethodDescriptor yX6_turns.desc).map (fun d => d.parameters.length) = some 3 := by decide +kernel
theorem qX6_undo : yX6_undo.cls = RX6 ∧ yX6_undo.cls ≠ "java/lang/invoke/MethodHandle" ∧ yX6_undo.cls ≠ "java/lang/invoke/VarHandle" ∧ (parseMethodDescriptor yX6_undo.desc).map (fun d => d.parameters.length) = some 1 := by decide +kernel
theorem qX6_unites : yX6_unites.cls = RX6 ∧ yX6_unites.cls ≠ "java/lang/invoke/MethodHandle" ∧ yX6_unites.cls ≠ "java/lang/invoke/VarHandle" ∧ (parseMethodDescriptor yX6_unites.desc).map (fun d => d.parameters.length) = some 3 := by decide +kernel
theorem qX6_way : yX6_way.cls = RX6 ∧ yX6_way.cls ≠ "java/lang/invoke/MethodHandle" ∧ yX6_way.cls ≠ "java/lang/invoke/VarHandle" ∧ (parseMethodDescriptor yX6_way.desc).map (fun d => d.parameters.length) = some 3 := by decide +kernel
theorem qX6_without : yX6_without.cls = RX6 ∧ yX6_without.cls ≠ "java/lang/invoke/MethodHandle" ∧ yX6_without.cls ≠ "java/lang/invoke/VarHandle" ∧ (parseMethodDescriptor yX6_without.desc).map (fun d => d.parameters.length) = some 3 := by decide +kernel
theorem qX6_worst : yX6_worst.cls = RX6 ∧ yX6_worst.cls ≠ "java/lang/invoke/MethodHandle" ∧ yX6_worst.cls ≠ "java/lang/invoke/VarHandle" ∧ (parseMethodDescriptor yX6_worst.desc).map (fun d => d.parameters.length) = some 1 := by decide +kernel
theorem qX6_would : yX6_would.cls = RX6 ∧ yX6_would.cls ≠ "java/lang/invoke/MethodHandle" ∧ yX6_would.cls ≠ "java/lang/invoke/VarHandle" ∧ (parseMethodDescriptor yX6_would.desc).map (fun d => d.parameters.length) = some 3 := by decide +kernel
theorem qX6_wouldName : yX6_wouldName.cls = RX6 ∧ yX6_wouldName.cls ≠ "java/lang/invoke/MethodHandle" ∧ yX6_wouldName.cls ≠ "java/lang/invoke/VarHandle" ∧ (parseMethodDescriptor yX6_wouldName.desc).map (fun d => d.parameters.length) = some 3 := by decide +kernel
set_option maxHeartbeats 4000000 in
set_option maxRecDepth 100000 in
theorem c_J7_fillI (l : Launch) (dC : Nat → ClassId) (dI : Nat → Nat → Nat) (cI cJ : ClassId) (h n : Nat) (f : Nat → Int32) (hq : Nat) (v : Int32) (hn : n ≤ 1000) : MWv l yJ7_fill_53178 (wAll yJ7_fill_53178 cJ7_fill_53178 4 none) ({ frames := 1, cells := 0, slots := 0, locals := 40 } : Room) [.ref h, .int v] hq (dC, dI) (vTy cI cJ) [(h, .inl (cI, n, .inl (f)))] [(h, .inl (cI, n, .inl (fillF f n v)))] := by
  refine kg_metW (Qc := fun Q => QWv (dC, dI) Q [(h, .inl (cI, n, .inl (fillF f n v)))]) (cc := cJ7_fill_53178) (maxL := 4) (ret := none) (by decide) rfl (Nat.le_of_ble_eq_true rfl) ?_
  intro p e s m args below meth c Q hx hb hr hts hown hlk hml hP hK hN hD hA hS ls hl
  have hl : lv_has ls 4 [(0, .ref h), (1, .int v)] := hl
  have hlp : ∀ (k i : Nat), i ≤ n → n - i < k → ∀ (H : Heap) (locs : List Loc) (ls : Array Slot), va_P (dC, dI) vwCl [(h, .inl (cI, n, .inl (fillF f i v)))] H → va_D Q [(h, .inl (cI, n, .inl (fillF f i v)))] → va_S Q s.heap H locs → lv_has ls 4 [(3, .int (nI n)), (2, .int (nI i)), (0, .ref h), (1, .int v)] → W p l e ({ frames := 1, cells := 0, slots := 0, locals := 40 } : Room) s m args below meth c H locs 0 0 (MQ below (QWv (dC, dI) Q [(h, .inl (cI, n, .inl (fillF f n v)))]) args s 0 0 Q) (F0 m 5 ls []) := by
    intro k
    induction k with
    | zero => intro i h1 h2; omega
    | succ k ih =>
      intro i h1 h2 H locs ls hP hD hS hl
      refine lv_iload_n hx hb dJ7_fill_53178_5 rfl (lv_at hl 1 rfl) ?_
      refine lv_iload_n hx hb dJ7_fill_53178_6 rfl (lv_at hl 0 rfl) ?_
      refine lv_icmp_ge (tgt := 20) hx hb dJ7_fill_53178_7 (by decide) (fun hc => ?_) (fun hc => ?_)
      · have hi : i = n := by
          rcases Nat.lt_or_ge i n with q | q
          · exact absurd hc (nI_ge q (by omega))
          · omega
        subst hi
        exact kg_vretW hx hb hr hlk hP hD hS dJ7_fill_53178_20
      · have hi : i < n := by
          rcases Nat.lt_or_ge i n with q | q
          · exact q
          · exact absurd (nI_le q (by omega)) hc
        refine lv_aload_n hx hb dJ7_fill_53178_10 rfl (lv_at hl 2 rfl) ?_
        refine lv_iload_n hx hb dJ7_fill_53178_11 rfl (lv_at hl 1 rfl) ?_
        refine lv_iload_n hx hb dJ7_fill_53178_12 rfl (lv_at hl 3 rfl) ?_
        refine va_iast hx hb hK hP hD hS 0 0 rfl rfl (vp_in_nI hi (by omega)) dJ7_fill_53178_13 (fun H locs hP hD hS => ?_)
        have hcl : (nI i).toNatClampNeg = i := nI_clamp (by omega)
        rw [hcl] at hP hD
        have he : upd (fillF f i v) i v = fillF f (i + 1) v := fillF_s f i v
        have hP : va_P (dC, dI) vwCl [(h, .inl (cI, n, .inl (upd (fillF f i v) i v)))] H := hP
        have hD : va_D Q [(h, .inl (cI, n, .inl (upd (fillF f i v) i v)))] := hD
        rw [he] at hP hD
        refine lv_iinc (v := nI (i + 1)) (lv' := [(2, .int (nI (i + 1))), (3, .int (nI n)), (0, .ref h), (1, .int v)]) hx hb dJ7_fill_53178_14 hl (k := 1) rfl (nI_1 i) (by decide) rfl (fun ls hl => ?_)
        refine lv_goto (tgt := 5) hx hb dJ7_fill_53178_17 (by decide) ?_
        exact ih (i + 1) hi (by omega) H locs _ hP hD hS (lv_sub hl [1, 0, 2, 3] rfl)
  suffices hgo : ∀ (H : Heap) (locs : List Loc), va_P (dC, dI) vwCl [(h, .inl (cI, n, .inl (f)))] H → va_S Q s.heap H locs → W p l e ({ frames := 1, cells := 0, slots := 0, locals := 40 } : Room) s m args below meth c H locs 0 0 (MQ below (QWv (dC, dI) Q [(h, .inl (cI, n, .inl (fillF f n v)))]) args s 0 0 Q) (F0 m 0 ls []) from hgo _ _ hP hS
  clear hP hS
  intro H locs hP hS
  refine lv_iconst (v := 0) hx hb dJ7_fill_53178_0 (by decide) ?_
  refine lv_istore_n (lv' := [(2, .int 0), (0, .ref h), (1, .int v)]) hx hb dJ7_fill_53178_1 rfl hl (by decide) rfl (fun ls hl => ?_)
  refine lv_aload_n hx hb dJ7_fill_53178_2 rfl (lv_at hl 1 rfl) ?_
  refine va_alen (v := nI n) (ty := .int) hx hb hK hP 0 0 rfl rfl rfl dJ7_fill_53178_3 ?_
  refine lv_istore_n (lv' := [(3, .int (nI n)), (2, .int 0), (0, .ref h), (1, .int v)]) hx hb dJ7_fill_53178_4 rfl hl (by decide) rfl (fun ls hl => ?_)
  exact hlp (n + 1) 0 (Nat.zero_le _) (by omega) H locs _ (by rw [fillF_0]; exact hP) (by rw [fillF_0]; exact hD) hS hl
set_option maxHeartbeats 4000000 in
set_option maxRecDepth 100000 in
theorem c_J7_fillJ (l : Launch) (dC : Nat → ClassId) (dI : Nat → Nat → Nat) (cI cJ : ClassId) (h n : Nat) (f : Nat → Int64) (hq : Nat) (v : Int64) (hn : n ≤ 1000) : MWv l yJ7_fill_d0a16 (wAll yJ7_fill_d0a16 cJ7_fill_d0a16 5 none) ({ frames := 1, cells := 0, slots := 0, locals := 40 } : Room) [.ref h, .long v] hq (dC, dI) (vTy cI cJ) [(h, .inl (cJ, n, .inr (.inl (f))))] [(h, .inl (cJ, n, .inr (.inl (fillF f n v))))] := by
  refine kg_metW (Qc := fun Q => QWv (dC, dI) Q [(h, .inl (cJ, n, .inr (.inl (fillF f n v))))]) (cc := cJ7_fill_d0a16) (maxL := 5) (ret := none) (by decide) rfl (Nat.le_of_ble_eq_true rfl) ?_
  intro p e s m args below meth c Q hx hb hr hts hown hlk hml hP hK hN hD hA hS ls hl
  have hl : lv_has ls 5 [(0, .ref h), (1, .long v)] := hl
  have hlp : ∀ (k i : Nat), i ≤ n → n - i < k → ∀ (H : Heap) (locs : List Loc) (ls : Array Slot), va_P (dC, dI) vwCl [(h, .inl (cJ, n, .inr (.inl (fillF f i v))))] H → va_D Q [(h, .inl (cJ, n, .inr (.inl (fillF f i v))))] → va_S Q s.heap H locs → lv_has ls 5 [(4, .int (nI n)), (3, .int (nI i)), (0, .ref h), (1, .long v)] → W p l e ({ frames := 1, cells := 0, slots := 0, locals := 40 } : Room) s m args below meth c H locs 0 0 (MQ below (QWv (dC, dI) Q [(h, .inl (cJ, n, .inr (.inl (fillF f n v))))]) args s 0 0 Q) (F0 m 6 ls []) := by
    intro k
    induction k with
    | zero => intro i h1 h2; omega
    | succ k ih =>
      intro i h1 h2 H locs ls hP hD hS hl
      refine lv_iload_n hx hb dJ7_fill_d0a16_6 rfl (lv_at hl 1 rfl) ?_
      refine lv_iload hx hb dJ7_fill_d0a16_7 (lv_at hl 0 rfl) ?_
      refine lv_icmp_ge (tgt := 22) hx hb dJ7_fill_d0a16_9 (by decide) (fun hc => ?_) (fun hc => ?_)
      · have hi : i = n := by
          rcases Nat.lt_or_ge i n with q | q
          · exact absurd hc (nI_ge q (by omega))
          · omega
        subst hi
        exact kg_vretW hx hb hr hlk hP hD hS dJ7_fill_d0a16_22
      · have hi : i < n := by
          rcases Nat.lt_or_ge i n with q | q
          · exact q
          · exact absurd (nI_le q (by omega)) hc
        refine lv_aload_n hx hb dJ7_fill_d0a16_12 rfl (lv_at hl 2 rfl) ?_
        refine lv_iload_n hx hb dJ7_fill_d0a16_13 rfl (lv_at hl 1 rfl) ?_
        refine lv_lload_n hx hb dJ7_fill_d0a16_14 rfl (lv_at hl 3 rfl) ?_
        refine va_last hx hb hK hP hD hS 0 1 rfl rfl (vp_in_nI hi (by omega)) dJ7_fill_d0a16_15 (fun H locs hP hD hS => ?_)
        have hcl : (nI i).toNatClampNeg = i := nI_clamp (by omega)
        rw [hcl] at hP hD
        have he : vp_updL (fillF f i v) i v = fillF f (i + 1) v := fillF_s f i v
        have hP : va_P (dC, dI) vwCl [(h, .inl (cJ, n, .inr (.inl (vp_updL (fillF f i v) i v))))] H := hP
        have hD : va_D Q [(h, .inl (cJ, n, .inr (.inl (vp_updL (fillF f i v) i v))))] := hD
        rw [he] at hP hD
        refine lv_iinc (v := nI (i + 1)) (lv' := [(3, .int (nI (i + 1))), (4, .int (nI n)), (0, .ref h), (1, .long v)]) hx hb dJ7_fill_d0a16_16 hl (k := 1) rfl (nI_1 i) (by decide) rfl (fun ls hl => ?_)
        refine lv_goto (tgt := 6) hx hb dJ7_fill_d0a16_19 (by decide) ?_
        exact ih (i + 1) hi (by omega) H locs _ hP hD hS (lv_sub hl [1, 0, 2, 3] rfl)
  suffices hgo : ∀ (H : Heap) (locs : List Loc), va_P (dC, dI) vwCl [(h, .inl (cJ, n, .inr (.inl (f))))] H → va_S Q s.heap H locs → W p l e ({ frames := 1, cells := 0, slots := 0, locals := 40 } : Room) s m args below meth c H locs 0 0 (MQ below (QWv (dC, dI) Q [(h, .inl (cJ, n, .inr (.inl (fillF f n v))))]) args s 0 0 Q) (F0 m 0 ls []) from hgo _ _ hP hS
  clear hP hS
  intro H locs hP hS
  refine lv_iconst (v := 0) hx hb dJ7_fill_d0a16_0 (by decide) ?_
  refine lv_istore_n (lv' := [(3, .int 0), (0, .ref h), (1, .long v)]) hx hb dJ7_fill_d0a16_1 rfl hl (by decide) rfl (fun ls hl => ?_)
  refine lv_aload_n hx hb dJ7_fill_d0a16_2 rfl (lv_at hl 1 rfl) ?_
  refine va_alen (v := nI n) (ty := .long) hx hb hK hP 0 1 rfl rfl rfl dJ7_fill_d0a16_3 ?_
  refine lv_istore (lv' := [(4, .int (nI n)), (3, .int 0), (0, .ref h), (1, .long v)]) hx hb dJ7_fill_d0a16_4 hl (by decide) rfl (fun ls hl => ?_)
  exact hlp (n + 1) 0 (Nat.zero_le _) (by omega) H locs _ (by rw [fillF_0]; exact hP) (by rw [fillF_0]; exact hD) hS hl
