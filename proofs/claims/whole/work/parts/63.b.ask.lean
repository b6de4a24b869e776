/-! REFERENCE 27: small questions to the replay -/
def RY (n m : Nat) (fa fb : Nat → Nat) (y : MdS) : Prop := (Md_n y).toInt = (n : Int) ∧ (Md_m y).toInt = (m : Int) ∧ (∀ l, l < m → (Md_first y l).toInt = (fa l : Int) ∧ (Md_second y l).toInt = (fb l : Int)) ∧ RefK n fa fb m y
section R27
variable {fa fb : Nat → Nat} {n k m u v b c l t off kd : Nat} {x y : MdS}
theorem isInt_ok {lo hi : Int64} {w : Int32} {a c : Int} (h1 : lo.toInt = a) (h2 : hi.toInt = c) : Ok (Md_m_isIn x w.toInt64 lo hi) (fun r => r = true ↔ a ≤ w.toInt ∧ w.toInt ≤ c) := by
  rw [Md_isIn_ok, i32_w, h1, h2]
  exact Ok_some decide_eq_true_iff
theorem isNodeR_ok {w : Int32} (hn : (Md_n x).toInt = (n : Int)) : Ok (Md_m_isNode x w) (fun r => r = true ↔ 0 ≤ w.toInt ∧ w.toInt < n) := by
  unfold Md_m_isNode
  refine Ok_then (isInt_ok i64_0 (i64_w1 _)) (fun g hg => Ok_some ?_)
  rw [hg, hn]
  omega
theorem isLinkR_ok {w : Int32} (hm : (Md_m x).toInt = (m : Int)) : Ok (Md_m_isLink x w) (fun r => r = true ↔ 0 ≤ w.toInt ∧ w.toInt < m) := by
  unfold Md_m_isLink
  refine Ok_then (isInt_ok i64_0 (i64_w1 _)) (fun g hg => Ok_some ?_)
  rw [hg, hm]
  omega
theorem areTwoR_ok {w1 w2 : Int32} (hn : (Md_n x).toInt = (n : Int)) : Ok (Md_m_areTwo x w1 w2) (fun r => r = true ↔ (0 ≤ w1.toInt ∧ w1.toInt < n) ∧ (0 ≤ w2.toInt ∧ w2.toInt < n) ∧ w1.toInt ≠ w2.toInt) := by
  unfold Md_m_areTwo
  refine Ok_tf (isNodeR_ok hn) (fun h1 => Ok_tf (isNodeR_ok hn) (fun h2 => Ok_ieq rfl rfl (fun e => ?_) (fun e => ?_)) (fun h2 => ?_)) (fun h1 => ?_)
  · exact Ok_some ⟨fun z => absurd z Bool.false_ne_true, fun z => absurd e z.2.2⟩
  · exact Ok_some ⟨fun _ => ⟨h1, h2, e⟩, fun _ => rfl⟩
  · exact Ok_some ⟨fun z => absurd z Bool.false_ne_true, fun z => absurd z.2.1 h2⟩
  · exact Ok_some ⟨fun z => absurd z Bool.false_ne_true, fun z => absurd z.1 h1⟩
theorem isBrR_ok {w : Int32} (hC : ∀ l, l < k → (Md_closedBy x l).toInt = hC fa fb k l) (hk : k ≤ 64) (hw : w.toInt = (t : Int)) (ht : t < k) : Ok (Md_m_isBridge x w) (fun r => r = true ↔ brg fa fb k t) := by
  unfold Md_m_isBridge
  refine Ok_eqr hw (by omega) (hC t ht) i32_m1 (fun e => ?_) (fun e => ?_)
  · exact Ok_some ⟨fun _ => (hC_brg ht).mp e, fun _ => rfl⟩
  · exact Ok_some ⟨fun z => absurd z Bool.false_ne_true, fun z => absurd ((hC_brg ht).mpr z) e⟩
theorem ry_blk (h : RY n m fa fb y) : ∀ j, j < n → (Md_nameOf y (32 * 0 + j)).toInt = (bnm n fa fb m j : Int) := fun j hj => (h.2.2.2.1 j hj).1
theorem ry_lnd (h : RY n m fa fb y) : ∀ j, j < n → (Md_nameOf y (32 * 1 + j)).toInt = (lnm n fa fb m j : Int) := fun j hj => (h.2.2.2.2.1 j hj).1
theorem ry_br {w : Int32} (h : RY n m fa fb y) (hm : m ≤ 64) (hw : w.toInt = (t : Int)) (ht : t < m) : Ok (Md_m_isBridge y w) (fun r => r = true ↔ brg fa fb m t) := isBrR_ok h.2.2.2.2.2.2 hm hw ht
theorem ry_ba {w : Int32} (h : RY n m fa fb y) (hn : n ≤ 32) (hw : w.toInt = (v : Int)) (hv : v < n) : Ok (Md_m_blockAt y w) (fun q => q.toInt = (bnm n fa fb m v : Int)) := blockAt_ok hw hv hn (ry_blk h)
theorem ry_la {w : Int32} (h : RY n m fa fb y) (hn : n ≤ 32) (hw : w.toInt = (v : Int)) (hv : v < n) : Ok (Md_m_landOf y w) (fun q => q.toInt = (lnm n fa fb m v : Int)) := landOf_ok hw hv hn (ry_lnd h)
/-- a living block, by an int -/
def isB (n : Nat) (fa fb : Nat → Nat) (m : Nat) (w : Int) : Prop := ∃ b : Nat, w = (b : Int) ∧ b < n ∧ liv (hB n fa fb m) b
def isL (n : Nat) (fa fb : Nat → Nat) (m : Nat) (w : Int) : Prop := ∃ b : Nat, w = (b : Int) ∧ b < n ∧ liv (hL n fa fb m) b
theorem isBlockR_ok {w : Int32} (hV : Vd fa fb n m) (hn : n ≤ 32) (h : RY n m fa fb y) : Ok (Md_m_isBlock y w) (fun r => r = true ↔ isB n fa fb m w.toInt) := by
  unfold Md_m_isBlock
  refine Ok_tf (isNodeR_ok h.1) (fun h1 => ?_) (fun h1 => ?_)
  · have hw : w.toInt = (w.toInt.toNat : Int) := by omega
    have hr := (h.2.2.2.1 w.toInt.toNat (by omega)).2.1
    rw [show 32 * 0 + w.toInt.toNat = w.toInt.toNat by omega] at hr
    have hnm := (NI_B (n := n) (k := m) hV).2.1 w.toInt.toNat (by omega)
    refine Ok_eqr hw (by omega) hr i32_m1 (fun e => ?_) (fun e => ?_)
    · exact Ok_some ⟨fun _ => ⟨_, hw, by omega, hnm.mp e⟩, fun _ => rfl⟩
    · refine Ok_some ⟨fun z => absurd z Bool.false_ne_true, fun ⟨b, e1, e2, e3⟩ => absurd (hnm.mpr ?_) e⟩
      have : w.toInt.toNat = b := by omega
      rw [this]; exact e3
  · exact Ok_some ⟨fun z => absurd z Bool.false_ne_true, fun ⟨b, e1, e2, e3⟩ => absurd ⟨by omega, by omega⟩ h1⟩
theorem isLandR_ok {w : Int32} (hV : Vd fa fb n m) (hn : n ≤ 32) (h : RY n m fa fb y) : Ok (Md_m_isLand y w) (fun r => r = true ↔ isL n fa fb m w.toInt) := by
  unfold Md_m_isLand
  refine Ok_tf (isNodeR_ok h.1) (fun h1 => ?_) (fun h1 => ?_)
  · have hw : w.toInt = (w.toInt.toNat : Int) := by omega
    have hr := (h.2.2.2.2.1 w.toInt.toNat (by omega)).2.1
    have hnm := (NI_L (n := n) (k := m) hV).2.1 w.toInt.toNat (by omega)
    refine Ok_eqr (landAt hw (by omega)) (by omega) hr i32_m1 (fun e => ?_) (fun e => ?_)
    · exact Ok_some ⟨fun _ => ⟨_, hw, by omega, hnm.mp e⟩, fun _ => rfl⟩
    · refine Ok_some ⟨fun z => absurd z Bool.false_ne_true, fun ⟨b, e1, e2, e3⟩ => absurd (hnm.mpr ?_) e⟩
      have : w.toInt.toNat = b := by omega
      rw [this]; exact e3
  · exact Ok_some ⟨fun z => absurd z Bool.false_ne_true, fun ⟨b, e1, e2, e3⟩ => absurd ⟨by omega, by omega⟩ h1⟩
theorem isBlockOfR_ok {w w2 : Int32} (hV : Vd fa fb n m) (hn : n ≤ 32) (h : RY n m fa fb y) (hw : w.toInt = (b : Int)) (h2 : w2.toInt = (l : Int)) : Ok (Md_m_isBlockOf y w w2) (fun r => r = true ↔ b < n ∧ liv (hB n fa fb m) b ∧ lnm n fa fb m b = l) := by
  unfold Md_m_isBlockOf
  refine Ok_tf (isBlockR_ok hV hn h) (fun ⟨b2, e1, e2, e3⟩ => ?_) (fun h1 => ?_)
  · have : b2 = b := by omega
    subst this
    refine Ok_eqv (ry_la h hn hw e2) h2 (fun e => ?_) (fun e => ?_)
    · exact Ok_some ⟨fun _ => ⟨e2, e3, by omega⟩, fun _ => rfl⟩
    · exact Ok_some ⟨fun z => absurd z Bool.false_ne_true, fun z => by omega⟩
  · exact Ok_some ⟨fun z => absurd z Bool.false_ne_true, fun z => absurd ⟨b, hw, z.1, z.2.1⟩ h1⟩
/-- bridges of the replay -/
theorem bridgesR_ok (hC : ∀ l, l < k → (Md_closedBy x l).toInt = hC fa fb k l) (hk : k ≤ 64) (hr : (Md_run x).toInt = (k : Int)) : Ok (Md_m_bridges x) (fun r => r.toInt = (cnt (brg fa fb k) k : Int)) := by
  unfold Md_m_bridges
  refine Ok_cntw (N := k) (Q := brg fa fb k) (by omega) hr (fun c i => rfl) (fun j c i hj hi => ?_)
  exact Ok_eqr hi (by omega) (hC j hj) i32_m1 (fun e => Cs_t ((hC_brg hj).mp e)) (fun e => Cs_f (fun z => e ((hC_brg hj).mpr z)))
theorem linksAt_ok {w w2 : Int32} (hm : m ≤ 64) (h : RY n m fa fb y) (hw : w.toInt = (v : Int)) : Ok (Md_m_linksAt y w w2) (fun r => r.toInt = (cnt (fun l => atN fa fb l v ∧ (w2.toInt ≠ 0 → brg fa fb m l)) m : Int)) := by
  unfold Md_m_linksAt
  refine Ok_cntw (N := m) (Q := fun l => atN fa fb l v ∧ (w2.toInt ≠ 0 → brg fa fb m l)) (by omega) h.2.1 (fun c i => rfl) (fun j c i hj hi => ?_)
  have hf := h.2.2.1 j hj
  have key : atN fa fb j v → Ok (Md_m_linksAt_j36 y w w2 c i) (Cs (atN fa fb j v ∧ (w2.toInt ≠ 0 → brg fa fb m j)) c i) := by
    intro ha
    unfold Md_m_linksAt_j36 Md_m_linksAt_j49
    refine Ok_ieq rfl i32_0 (fun e => Cs_t ⟨ha, fun z => absurd e z⟩) (fun e => Ok_tf (ry_br h hm hi hj) (fun q => Cs_t ⟨ha, fun _ => q⟩) (fun q => Cs_f (fun z => q (z.2 e))))
  refine Ok_eqr hi (by omega) hf.1 hw (fun e => key (Or.inl (by omega))) (fun e => Ok_eqr hi (by omega) hf.2 hw (fun e2 => key (Or.inr (by omega))) (fun e2 => Cs_f (fun z => ?_)))
  rcases z.1 with z | z
  · exact e (by rw [z])
  · exact e2 (by rw [z])
theorem linksIn_ok {w : Int32} (hV : Vd fa fb n m) (hn : n ≤ 32) (hm : m ≤ 64) (h : RY n m fa fb y) (hw : w.toInt = (b : Int)) : Ok (Md_m_linksIn y w) (fun r => r.toInt = (cnt (fun l => bnm n fa fb m (fa l) = b ∧ bnm n fa fb m (fb l) = b) m : Int)) := by
  unfold Md_m_linksIn
  refine Ok_cntw (N := m) (Q := fun l => bnm n fa fb m (fa l) = b ∧ bnm n fa fb m (fb l) = b) (by omega) h.2.1 (fun c i => rfl) (fun j c i hj hi => ?_)
  have hf := h.2.2.1 j hj
  refine Ok_rdb hi (by omega) (Ok_eqv (ry_ba h hn hf.1 (hV j hj).1) hw (fun e => Ok_rdb hi (by omega) (Ok_eqv (ry_ba h hn hf.2 (hV j hj).2) hw (fun e2 => Cs_t ⟨by omega, by omega⟩) (fun e2 => Cs_f (fun z => e2 (by rw [z.2]))))) (fun e => Cs_f (fun z => e (by rw [z.1]))))
theorem bridgesAtR_ok {w : Int32} (hV : Vd fa fb n m) (hn : n ≤ 32) (hm : m ≤ 64) (h : RY n m fa fb y) (hw : w.toInt = (b : Int)) : Ok (Md_m_bridgesAt y w) (fun r => r.toInt = (cnt (fun l => brg fa fb m l ∧ (bnm n fa fb m (fa l) = b ∨ bnm n fa fb m (fb l) = b)) m : Int)) := by
  unfold Md_m_bridgesAt
  refine Ok_cntw (N := m) (Q := fun l => brg fa fb m l ∧ (bnm n fa fb m (fa l) = b ∨ bnm n fa fb m (fb l) = b)) (by omega) h.2.1 (fun c i => rfl) (fun j c i hj hi => ?_)
  have hf := h.2.2.1 j hj
  refine Ok_tf (ry_br h hm hi hj) (fun q => ?_) (fun q => Cs_f (fun z => q z.1))
  refine Ok_rdb hi (by omega) (Ok_eqv (ry_ba h hn hf.1 (hV j hj).1) hw (fun e => Cs_t ⟨q, Or.inl (by omega)⟩) (fun e => Ok_rdb hi (by omega) (Ok_eqv (ry_ba h hn hf.2 (hV j hj).2) hw (fun e2 => Cs_t ⟨q, Or.inr (by omega)⟩) (fun e2 => Cs_f (fun z => ?_)))))
  rcases z.2 with z | z
  · exact e (by rw [z])
  · exact e2 (by rw [z])
theorem childrenR_ok {w : Int32} (hV : Vd fa fb n m) (hn : n ≤ 32) (h : RY n m fa fb y) (hw : w.toInt = (b : Int)) : Ok (Md_m_children y w) (fun r => r.toInt = (nch n fa fb m b n : Int)) := by
  unfold Md_m_children
  refine Ok_cntw (N := n) (Q := fun c => (fP n fa fb m c).1 = (b : Int)) (by omega) h.1 (fun c i => rfl) (fun j c i hj hi => ?_)
  refine Ok_tf (isBlockR_ok (w := i) hV hn h) (fun ⟨b2, e1, e2, e3⟩ => ?_) (fun q => Cs_f (fun z => q ⟨j, hi, hj, fPP_liv (fa := fa) (fb := fb) (n := n) (k := m) (b := b) z⟩))
  have : b2 = j := by omega
  subst this
  have hp := (h.2.2.2.2.2.1 b2 e2 e3).1
  rw [← fP_liv e3] at hp
  exact Ok_eqr hi (by omega) hp hw (fun e => Cs_t e) (fun e => Cs_f e)
theorem blocksOfR_ok {w : Int32} (hV : Vd fa fb n m) (hn : n ≤ 32) (h : RY n m fa fb y) (hw : w.toInt = (l : Int)) : Ok (Md_m_blocksOf y w) (fun r => r.toInt = (cnt (fun b => liv (hB n fa fb m) b ∧ lnm n fa fb m b = l) n : Int)) := by
  unfold Md_m_blocksOf
  refine Ok_cntw (N := n) (Q := fun b => liv (hB n fa fb m) b ∧ lnm n fa fb m b = l) (by omega) h.1 (fun c i => rfl) (fun j c i hj hi => ?_)
  exact Ok_tf (isBlockOfR_ok hV hn h hi hw) (fun q => Cs_t q.2) (fun q => Cs_f (fun z => q ⟨hj, z⟩))
theorem linksOfR_ok {w w2 : Int32} (hV : Vd fa fb n m) (hn : n ≤ 32) (hm : m ≤ 64) (h : RY n m fa fb y) (hw : w.toInt = (v : Int)) : Ok (Md_m_linksOf y w w2) (fun r => r.toInt = (cnt (fun l => lnm n fa fb m (fa l) = v ∧ (w2.toInt ≠ 0 → brg fa fb m l)) m : Int)) := by
  unfold Md_m_linksOf
  refine Ok_cntw (N := m) (Q := fun l => lnm n fa fb m (fa l) = v ∧ (w2.toInt ≠ 0 → brg fa fb m l)) (by omega) h.2.1 (fun c i => rfl) (fun j c i hj hi => ?_)
  have hf := h.2.2.1 j hj
  refine Ok_rdb hi (by omega) (Ok_eqv (ry_la h hn hf.1 (hV j hj).1) hw (fun e => ?_) (fun e => Cs_f (fun z => e (by rw [z.1]))))
  unfold Md_m_linksOf_j42
  exact Ok_ieq rfl i32_0 (fun e2 => Cs_t ⟨by omega, fun z => absurd e2 z⟩) (fun e2 => Ok_tf (ry_br h hm hi hj) (fun q => Cs_t ⟨by omega, fun _ => q⟩) (fun q => Cs_f (fun z => q (z.2 e2))))
theorem loneR_ok {w : Int32} (hV : Vd fa fb n m) (hn : n ≤ 32) (hm : m ≤ 64) (h : RY n m fa fb y) (hw : w.toInt = (l : Int)) : Ok (Md_m_lone y w) (fun r => r.toInt = (cnt (fun b => (liv (hB n fa fb m) b ∧ lnm n fa fb m b = l) ∧ cnt (fun l => brg fa fb m l ∧ (bnm n fa fb m (fa l) = b ∨ bnm n fa fb m (fb l) = b)) m = 1) n : Int)) := by
  unfold Md_m_lone
  refine Ok_cntw (N := n) (Q := fun b => (liv (hB n fa fb m) b ∧ lnm n fa fb m b = l) ∧ cnt (fun l => brg fa fb m l ∧ (bnm n fa fb m (fa l) = b ∨ bnm n fa fb m (fb l) = b)) m = 1) (by omega) h.1 (fun c i => rfl) (fun j c i hj hi => ?_)
  exact Ok_tf (isBlockOfR_ok hV hn h hi hw) (fun q => Ok_eqv (bridgesAtR_ok hV hn hm h hi) i32_1 (fun e => Cs_t ⟨q.2, by omega⟩) (fun e => Cs_f (fun z => e (by rw [z.2]; rfl)))) (fun q => Cs_f (fun z => q ⟨hj, z.1⟩))
theorem namesR_ok {w : Int32} (hn : n ≤ 32) (h : RY n m fa fb y) (hw : w.toInt = (kd : Int)) (hkd : kd ≤ 1) {s : NSt} (hR : ∀ j, j < n → (Md_endedBy y (32 * kd + j)).toInt = N_en s j) (hI : ∀ b, b < n → (N_en s b = -1 ↔ N_of s b = b)) : Ok (Md_m_names y w) (fun r => r.toInt = (cnt (liv s) n : Int)) := by
  unfold Md_m_names
  refine Ok_cntw (N := n) (Q := liv s) (by omega) h.1 (fun c i => rfl) (fun j c i hj hi => ?_)
  exact Ok_eqr (off_ok hw hkd hi (by omega)) (by omega) (hR j hj) i32_m1 (fun e => Cs_t ((hI j hj).mp e)) (fun e => Cs_f (fun z => e ((hI j hj).mpr z)))
end R27
