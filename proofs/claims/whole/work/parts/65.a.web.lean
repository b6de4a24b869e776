/-! CLASS 14: Web: small questions -/
section W65
variable {fa fb : Nat → Nat} {n m k u v b l t : Nat} {x : WbS} {P : List (Nat × Nat)}
theorem isBrC_ok {w : Int32} (hE : EndOK m fa fb x) (hm : m ≤ 64) (hw : w.toInt = (t : Int)) (ht : t < m) : Ok (Wb_m_isBridge x w) (fun r => r = true ↔ brg fa fb m t) :=
  Ok_mono (isBr_ok hE hm hw ht) (fun r hr => by rw [hr]; exact qb_iff ht)
theorem isAtC_ok {w w2 : Int32} (hF : FirOK m fa fb x) (hm : m ≤ 64) (hw : w.toInt = (t : Int)) (ht : t < m) (h2 : w2.toInt = (v : Int)) : Ok (Wb_m_isAt x w w2) (fun r => r = true ↔ atN fa fb t v) := by
  unfold Wb_m_isAt
  have hf := hF t ht
  refine Ok_eqr hw (by omega) hf.1 h2 (fun e => Ok_some ⟨fun _ => Or.inl (Int.natCast_inj.mp e), fun _ => rfl⟩) (fun e => Ok_eqr hw (by omega) hf.2 h2 (fun e2 => Ok_some ⟨fun _ => Or.inr (Int.natCast_inj.mp e2), fun _ => rfl⟩) (fun e2 => Ok_some ⟨fun z => absurd z Bool.false_ne_true, fun z => ?_⟩))
  rcases z with z | z
  · exact absurd (by rw [z]) e
  · exact absurd (by rw [z]) e2
theorem linksAtC_ok {w : Int32} (hW : WbOK n m fa fb x) (hm : m ≤ 64) (hw : w.toInt = (v : Int)) : Ok (Wb_m_linksAt x w) (fun r => r.toInt = (cnt (fun l => atN fa fb l v) m : Int)) := by
  unfold Wb_m_linksAt
  refine Ok_cntw (N := m) (Q := fun l => atN fa fb l v) (by omega) hW.1 (fun c i => rfl) (fun j c i hj hi => ?_)
  exact Ok_tf (isAtC_ok hW.2.1 hm hi hj hw) (fun q => Cs_t q) (fun q => Cs_f q)
theorem bridgesAtC_ok {w : Int32} (hW : WbOK n m fa fb x) (hm : m ≤ 64) (hw : w.toInt = (v : Int)) : Ok (Wb_m_bridgesAt x w) (fun r => r.toInt = (cnt (fun l => atN fa fb l v ∧ brg fa fb m l) m : Int)) := by
  unfold Wb_m_bridgesAt
  refine Ok_cntw (N := m) (Q := fun l => atN fa fb l v ∧ brg fa fb m l) (by omega) hW.1 (fun c i => rfl) (fun j c i hj hi => ?_)
  exact Ok_tf (isAtC_ok hW.2.1 hm hi hj hw) (fun q => Ok_tf (isBrC_ok hW.2.2.1 hm hi hj) (fun q2 => Cs_t ⟨q, q2⟩) (fun q2 => Cs_f (fun z => q2 z.2))) (fun q => Cs_f (fun z => q z.1))
/-- a name's row of the class -/
theorem nmC_ok {L N : Nat} {s : NSt} {x : NmS} {g : Int} {w : Int32} {j : Nat} {P : Int32 → Prop} (h : NmOK L N s x) (hw : w.toInt = (j : Int)) (hj : j < N) (hP : ∀ r : Int32, r.toInt = (N_of s j : Int) → P r) : Ok (rd (Nm_of x) L w) P := by
  have h1 := h.1
  exact Ok_rd1 hw (by omega) (hP _ (h.2.2.1.2.1 j hj))
theorem linksWithinC_ok {w : Int32} (hV : Vd fa fb n m) (hW : WbOK n m fa fb x) (hn : n ≤ 32) (hm : m ≤ 64) (hw : w.toInt = (b : Int)) : Ok (Wb_m_linksWithin x w) (fun r => r.toInt = (cnt (fun l => ¬ brg fa fb m l ∧ bnm n fa fb m (fa l) = b) m : Int)) := by
  unfold Wb_m_linksWithin
  refine Ok_cntw (N := m) (Q := fun l => ¬ brg fa fb m l ∧ bnm n fa fb m (fa l) = b) (by omega) hW.1 (fun c i => rfl) (fun j c i hj hi => ?_)
  have hv := (hV j hj).1
  refine Ok_tf (isBrC_ok hW.2.2.1 hm hi hj) (fun q => Cs_f (fun z => z.1 q)) (fun q => Ok_rdb hi (by omega) ?_)
  exact Ok_eqr (hW.2.1 j hj).1 (by omega) (hW.2.2.2.2.1.2.2.1.2.1 _ hv) hw (fun e => Cs_t ⟨q, Int.natCast_inj.mp e⟩) (fun e => Cs_f (fun z => e (by rw [← z.2]; rfl)))
theorem linksOfC_ok {w : Int32} (hV : Vd fa fb n m) (hW : WbOK n m fa fb x) (hn : n ≤ 32) (hm : m ≤ 64) (hw : w.toInt = (b : Int)) : Ok (Wb_m_linksOf x w) (fun r => r.toInt = (cnt (fun l => lnm n fa fb m (fa l) = b) m : Int)) := by
  unfold Wb_m_linksOf
  refine Ok_cntw (N := m) (Q := fun l => lnm n fa fb m (fa l) = b) (by omega) hW.1 (fun c i => rfl) (fun j c i hj hi => Ok_rdb hi (by omega) ?_)
  have hv := (hV j hj).1
  exact Ok_eqr (hW.2.1 j hj).1 (by omega) (hW.2.2.2.2.2.1.2.2.1.2.1 _ hv) hw (fun e => Cs_t (Int.natCast_inj.mp e)) (fun e => Cs_f (fun z => e (by rw [← z]; rfl)))
theorem bridgesOfC_ok {w : Int32} (hV : Vd fa fb n m) (hW : WbOK n m fa fb x) (hn : n ≤ 32) (hm : m ≤ 64) (hw : w.toInt = (b : Int)) : Ok (Wb_m_bridgesOf x w) (fun r => r.toInt = (cnt (fun l => brg fa fb m l ∧ lnm n fa fb m (fa l) = b) m : Int)) := by
  unfold Wb_m_bridgesOf
  refine Ok_cntw (N := m) (Q := fun l => brg fa fb m l ∧ lnm n fa fb m (fa l) = b) (by omega) hW.1 (fun c i => rfl) (fun j c i hj hi => ?_)
  have hv := (hV j hj).1
  refine Ok_tf (isBrC_ok hW.2.2.1 hm hi hj) (fun q => Ok_rdb hi (by omega) ?_) (fun q => Cs_f (fun z => q z.1))
  exact Ok_eqr (hW.2.1 j hj).1 (by omega) (hW.2.2.2.2.2.1.2.2.1.2.1 _ hv) hw (fun e => Cs_t ⟨q, Int.natCast_inj.mp e⟩) (fun e => Cs_f (fun z => e (by rw [← z.2]; rfl)))
/-- bridges of the first links -/
theorem bridgesAmongC_ok {w : Int32} (hW : WbOK n m fa fb x) (hm : m ≤ 64) (hw : w.toInt = (k : Int)) (hk : k ≤ m) : Ok (Wb_m_bridgesAmong x w) (fun r => r.toInt = (cnt (brg fa fb k) k : Int)) := by
  unfold Wb_m_bridgesAmong
  refine Ok_cntw (N := k) (Q := brg fa fb k) (by omega) hw (fun c i => rfl) (fun j c i hj hi => ?_)
  have hl := hW.1
  have hE := hW.2.2.1
  refine Ok_ite (fun q => by
    have q2 : (Wb_links x).toInt ≤ i.toInt := i32_le.mp q
    omega) (fun _ => ?_)
  have ht := hC_time (fa := fa) (fb := fb) hk hj
  have hb := hC_brg (fa := fa) (fb := fb) hj
  have hb2 := hC_brg (fa := fa) (fb := fb) (k := m) (t := j) (by omega)
  refine Ok_tf (isBrC_ok hE hm hi (show j < m by omega)) (fun q => Cs_t ?_) (fun q => Ok_rdb hi (by omega) (Ok_ilt (hE j (by omega)) hw (fun q2 => Cs_f ?_) (fun q2 => Cs_t ?_)))
  · refine hb.mp (Classical.byContradiction fun z => ?_)
    exact (ht.mp z).1 (hb2.mpr q)
  · intro z
    exact (ht.mpr ⟨fun z2 => q (hb2.mp z2), q2⟩) (hb.mpr z)
  · refine hb.mp (Classical.byContradiction fun z => ?_)
    have := (ht.mp z).2
    omega
/-- the links of the way by places -/
theorem way_link (h : WayOK u P x) {j t : Nat} (hj : (lks P)[j]? = some t) : (Wb_wayLink x j).toInt = (t : Int) := by
  unfold lks at hj
  rw [List.getElem?_map] at hj
  cases e : P[j]? with
  | none => rw [e] at hj; simp at hj
  | some s =>
    rw [e] at hj
    have : s.1 = t := by simpa using hj
    rw [← this]
    exact (h.2 j s e).1
theorem lks_len {P : List (Nat × Nat)} : (lks P).length = P.length := by unfold lks; exact List.length_map ..
theorem bridgesOnWayC_ok {w : Int32} (hE : EndOK m fa fb x) (hm : m ≤ 64) (hW : WayOK u P x) (hP : P.length < 32) (hl : ∀ t, t ∈ lks P → t < m) (hw : w.toInt = (P.length : Int)) : Ok (Wb_m_bridgesOnWay x w) (fun r => r.toInt = ((pf (brg fa fb m) (lks P)).length : Int)) := by
  unfold Wb_m_bridgesOnWay
  have hfl := fl_pf (P := fun j => brg fa fb m (Wb_wayLink x j).toInt.toNat) (S := brg fa fb m) (g := fun j => (Wb_wayLink x j).toInt.toNat) (M := lks P) (fun j t hj => by
    have := way_link hW hj
    have e : (Wb_wayLink x j).toInt.toNat = t := by omega
    rw [e]; exact ⟨Iff.rfl, rfl⟩)
  rw [← hfl, fl_len, lks_len]
  refine Ok_cntw (N := P.length) (Q := fun j => brg fa fb m (Wb_wayLink x j).toInt.toNat) (by omega) hw (fun c i => rfl) (fun j c i hj hi => ?_)
  obtain ⟨t, ht⟩ := getE (P := lks P) (i := j) (by rw [lks_len]; exact hj)
  have hwl := way_link hW ht
  have e : (Wb_wayLink x j).toInt.toNat = t := by omega
  refine Ok_rdb hi (by omega) ?_
  rw [e]
  exact Ok_tf (isBrC_ok hE hm hwl (hl t (List.mem_of_getElem? ht))) (fun q => Cs_t q) (fun q => Cs_f q)
end W65
