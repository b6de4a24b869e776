/-! THEORY 12: a ring closes: the steps of a kind that are none any more -/
section W12
variable {fa fb : Nat → Nat} {q : Nat → Bool} {nm : Nat → Nat} {n k u v x y w t r z a b : Nat} {L L1 L2 : List (Nat × Nat)}
/-- x is on the way from a to b -/
def onW (fa fb : Nat → Nat) (k a b x : Nat) : Prop := ld fa fb k a = ld fa fb k x ∧ pa fa fb k a b = pa fa fb k a x ++ pa fa fb k x b
theorem onW_a (h : ld fa fb k a = ld fa fb k b) : onW fa fb k a b a := ⟨rfl, by rw [pa_self]; rfl⟩
theorem onW_b (h : ld fa fb k a = ld fa fb k b) : onW fa fb k a b b := ⟨h, by rw [pa_self, List.append_nil]⟩
/-- both ends of a link of the way are on it -/
theorem onW_lk (h : ld fa fb k a = ld fa fb k b) (ht : t ∈ lks (pa fa fb k a b)) (he : isE fa fb t z y) : onW fa fb k a b z ∧ onW fa fb k a b y := by
  obtain ⟨A, y', B, e, -⟩ := cut_at ht
  obtain ⟨w, w1, w2, w3, w4⟩ := pa_cut h e
  have hd := pa_hd w4 w2.symm
  have o1 : onW fa fb k a b w := ⟨w3, by rw [← w1, ← w2]; exact e⟩
  have o2 : onW fa fb k a b y' := by
    have hc : pa fa fb k a b = (A ++ [(t, y')]) ++ B := by rw [e]; simp
    obtain ⟨c, c1, c2, c3, c4⟩ := pa_cut h hc
    have ec : c = y' := by
      have hW := pa_W c3
      rw [← c1] at hW
      obtain ⟨d, d1, d2⟩ := hW.split
      exact d2.2.2.symm
    subst ec
    exact ⟨c3, by rw [← c1, ← c2]; exact hc⟩
  rcases hd.2.2.1 with ⟨e1, e2⟩ | ⟨e1, e2⟩ <;> rcases he with ⟨f1, f2⟩ | ⟨f1, f2⟩
  · rw [← f1, ← f2, e1, e2]; exact ⟨o1, o2⟩
  · rw [← f1, ← f2, e1, e2]; exact ⟨o2, o1⟩
  · rw [← f1, ← f2, e1, e2]; exact ⟨o2, o1⟩
  · rw [← f1, ← f2, e1, e2]; exact ⟨o1, o2⟩
/-- links between two nodes of a way are links of the way -/
theorem onW_sub (h : ld fa fb k a = ld fa fb k b) (hx : onW fa fb k a b x) (hy : onW fa fb k a b y) (ht : t ∈ lks (pa fa fb k x y)) : t ∈ lks (pa fa fb k a b) := by
  have h1 : ld fa fb k x = ld fa fb k a := hx.1.symm
  rcases pa_tri h1 hy.1 ht with g | g
  · rw [pa_mem_rev hx.1] at g
    rw [hx.2, lks_app, List.mem_append]; exact Or.inl g
  · rw [hy.2, lks_app, List.mem_append]; exact Or.inl g
/-- names on the way -/
theorem onW_nm (hV : Vd fa fb n k) (hN : NmQ fa fb q nm n k) (ha : a < n) (hx : x < n) (h : onW fa fb k a b x) : nm x ∈ nm a :: nmL nm (fw fa fb q k a b) := nm_on hV hN ha hx h.1 h.2
theorem nm_onW (hV : Vd fa fb n k) (ha : a < n) (h : ld fa fb k a = ld fa fb k b) {c : Nat} (hc : c ∈ nm a :: nmL nm (fw fa fb q k a b)) : ∃ x, x < n ∧ onW fa fb k a b x ∧ nm x = c := by
  rcases List.mem_cons.mp hc with hc | hc
  · exact ⟨a, ha, onW_a h, hc.symm⟩
  · obtain ⟨s, hs, hse⟩ := List.mem_map.mp hc
    have hm := (fw_mem.mp hs).1
    have ht : s.1 ∈ lks (pa fa fb k a b) := List.mem_map_of_mem hm
    obtain ⟨A, B, hAB⟩ := List.append_of_mem hm
    have hAB2 : pa fa fb k a b = A ++ (s.1, s.2) :: B := hAB
    obtain ⟨w, w1, w2, w3, w4⟩ := pa_cut h hAB2
    have hd := pa_hd w4 w2.symm
    exact ⟨s.2, (isE_lt hV hd.1 hd.2.2.1).2, (onW_lk h ht hd.2.2.1).2, hse⟩
/-- a node of the way whose first step up is not on the way is the nearest to the root -/
theorem top_near (h : ld fa fb k a = ld fa fb k b) (hr : ld fa fb k a = ld fa fb k r) (hx : onW fa fb k a b x) (hw : onW fa fb k a b w)
    (ht : fw fa fb q k x r = [] ∨ ∃ t y M, fw fa fb q k x r = (t, y) :: M ∧ t ∉ lks (pa fa fb k a b)) : (fw fa fb q k w r).length = (fw fa fb q k w x).length + (fw fa fb q k x r).length := by
  have hwx : ld fa fb k w = ld fa fb k x := hw.1.symm.trans hx.1
  have hxr : ld fa fb k x = ld fa fb k r := hx.1.symm.trans hr
  rcases ht with ht | ⟨t, y, M, e, ht⟩
  · have h2 := fw_len_same (q := q) (k := k) (v := w) hxr ht (hxr.symm.trans hwx.symm)
    rw [ht, h2]
    rfl
  · obtain ⟨z, g1, g2, g3, g4, g5, g6, g7, g8, g9, g10⟩ := fw_hd hxr e
    have hzw : ld fa fb k z = ld fa fb k w := g1.symm.trans hwx.symm
    have hn : t ∉ lks (pa fa fb k z w) := by
      intro hh
      rcases pa_tri g1.symm hwx.symm hh with c | c
      · have := fw_nil.mp g2 t ((pa_mem_rev g1).mp c)
        rw [g5] at this; cases this
      · exact ht (onW_sub h hx hw c)
    have h1 := fw_cat2 (b := w) (g9.trans (hxr.symm.trans hwx.symm)) g6 g7 g8 hn
    have hc := pa_cat hzw (g1.symm.trans hxr) h1 g3
    have hlen : (fw fa fb q k w r).length = (fw fa fb q k w z).length + (fw fa fb q k z r).length := by
      unfold fw; rw [hc, List.filter_append, List.length_append]
    rw [hlen, ← fw_same g1 g2 (g1.symm.trans hxr), fw_len_same g1 g2 hzw]
/-- the step up of another one is on the way -/
theorem top_not (hx : onW fa fb k a b x) (hr : ld fa fb k a = ld fa fb k r) (e : fw fa fb q k x r = (t, y) :: L) (ht : t ∈ lks (pa fa fb k a b)) (h : ld fa fb k a = ld fa fb k b) : onW fa fb k a b y ∧ (fw fa fb q k y r).length < (fw fa fb q k x r).length := by
  have hxr : ld fa fb k x = ld fa fb k r := hx.1.symm.trans hr
  obtain ⟨z, g1, g2, g3, g4, g5, g6, g7, g8, g9, g10⟩ := fw_hd hxr e
  refine ⟨(onW_lk h ht g8).2, ?_⟩
  rw [e, g4, List.length_cons]
  omega
/-- each link of the kind on the way is the step up of a node of the way -/
theorem top_up (h : ld fa fb k a = ld fa fb k b) (hr : ld fa fb k a = ld fa fb k r) (ht : t ∈ lks (pa fa fb k a b)) (hq : q t = true) : ∃ x y, onW fa fb k a b x ∧ isE fa fb t x y ∧ fw fa fb q k x r = (t, y) :: fw fa fb q k y r := by
  obtain ⟨A, y, B, e, -⟩ := cut_at ht
  obtain ⟨z, w1, w2, w3, w4⟩ := pa_cut h e
  have hd := pa_hd w4 w2.symm
  have hyr : ld fa fb k y = ld fa fb k r := hd.2.2.2.2.trans (h.symm.trans hr)
  have ho := onW_lk h ht hd.2.2.1
  rcases fw_step hyr hd.1 hd.2.1 hd.2.2.1 hq with g | g
  · exact ⟨z, y, ho.1, hd.2.2.1, g⟩
  · exact ⟨y, z, ho.2, hd.2.2.1.symm, g⟩
/-- the kind afterwards: without the links of the way -/
theorem fw_close {q2 : Nat → Bool} (hl : ld fa fb k u = ld fa fb k v) (hq : ∀ t, t < k → (q2 t = true ↔ q t = true ∧ t ∉ lks (pa fa fb k a b))) : fw fa fb q2 (k + 1) u v = (fw fa fb q k u v).filter (fun s => decide (s.1 ∉ lks (pa fa fb k a b))) := by
  unfold fw
  rw [pa_later hl (by omega), List.filter_filter]
  refine List.filter_congr (fun s hs => ?_)
  have hlt := pa_red.2 _ (List.mem_map_of_mem (f := Prod.fst) hs)
  have := hq s.1 hlt
  by_cases c : q2 s.1 = true
  · have hc := this.mp c
    rw [c, hc.1, decide_eq_true hc.2]; rfl
  · have c' : q2 s.1 = false := by simpa using c
    rw [c']
    by_cases d : s.1 ∉ lks (pa fa fb k a b)
    · have : ¬ q s.1 = true := fun z => c (this.mpr ⟨z, d⟩)
      rw [decide_eq_true d]
      simp only [Bool.not_eq_true] at this
      rw [this]; rfl
    · rw [decide_eq_false d]; rfl
/-- a first step that is not on the way stays the first -/
theorem fw_close_hd {q2 : Nat → Bool} (hl : ld fa fb k u = ld fa fb k v) (hq : ∀ t, t < k → (q2 t = true ↔ q t = true ∧ t ∉ lks (pa fa fb k a b))) (e : fw fa fb q k u v = (t, y) :: L) (ht : t ∉ lks (pa fa fb k a b)) :
    ∃ M, fw fa fb q2 (k + 1) u v = (t, y) :: M := by
  rw [fw_close hl hq, e, List.filter_cons, if_pos (by simpa using ht)]
  exact ⟨_, rfl⟩
theorem fw_close_nil {q2 : Nat → Bool} (hl : ld fa fb k u = ld fa fb k v) (hq : ∀ t, t < k → (q2 t = true ↔ q t = true ∧ t ∉ lks (pa fa fb k a b))) (e : fw fa fb q k u v = []) : fw fa fb q2 (k + 1) u v = [] := by
  rw [fw_close hl hq, e]; rfl
/-- a node whose name is not on the way: its first step is not on the way -/
theorem off_hd (hV : Vd fa fb n k) (hN : NmQ fa fb q nm n k) (ha : a < n) (h : ld fa fb k a = ld fa fb k b) (hl : ld fa fb k u = ld fa fb k v) (hu : u < n) (e : fw fa fb q k u v = (t, y) :: L) (hn : nm u ∉ nm a :: nmL nm (fw fa fb q k a b)) : t ∉ lks (pa fa fb k a b) := by
  intro ht
  obtain ⟨z, g1, g2, g3, g4, g5, g6, g7, g8, g9, g10⟩ := fw_hd hl e
  have hz := (onW_lk h ht g8).1
  have hzn := (isE_lt hV g6 g8).1
  apply hn
  rw [(hN u z hu hzn).mpr ⟨g1, g2⟩]
  exact onW_nm hV hN ha hzn hz
end W12
