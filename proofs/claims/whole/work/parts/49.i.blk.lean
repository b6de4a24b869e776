/-! THEORY 18: the forest of blocks; what lies below; the sides of a bridge -/
section W18
variable {fa fb : Nat → Nat} {n k u v w x y t r z a b B : Nat} {L M : List (Nat × Nat)}
def bnm (n : Nat) (fa fb : Nat → Nat) (k v : Nat) : Nat := N_of (hB n fa fb k) v
/-- the step up of a block: its parent's name, the bridge -/
def bup (n : Nat) (fa fb : Nat → Nat) (k b : Nat) : Int × Int := hdw (bnm n fa fb k) (-1, -1) (fw fa fb (qb fa fb k) k b (hR n fa fb k b))
def chn (n : Nat) (fa fb : Nat → Nat) (k b : Nat) : List Nat := b :: nmL (bnm n fa fb k) (fw fa fb (qb fa fb k) k b (hR n fa fb k b))
theorem bnm_lt (hV : Vd fa fb n k) (hv : v < n) : bnm n fa fb k v < n ∧ liv (hB n fa fb k) (bnm n fa fb k v) := (NI_B hV).1 v hv
theorem NmQ_b (hV : Vd fa fb n k) : NmQ fa fb (qb fa fb k) (bnm n fa fb k) n k := NmQ_B hV
/-- a node and its block's name -/
theorem bnm_same (hV : Vd fa fb n k) (hv : v < n) : ld fa fb k (bnm n fa fb k v) = ld fa fb k v ∧ fw fa fb (qb fa fb k) k (bnm n fa fb k v) v = [] := ((NmQ_b hV) _ _ (bnm_lt hV hv).1 hv).mp (bnm_lt hV hv).2
theorem hR_bnm (hV : Vd fa fb n k) (hv : v < n) : hR n fa fb k (bnm n fa fb k v) = hR n fa fb k v := (hR_ok hV).2 _ _ (bnm_same hV hv).1
theorem fw_bnm (hV : Vd fa fb n k) (hv : v < n) (hr : ld fa fb k v = ld fa fb k r) : fw fa fb (qb fa fb k) k (bnm n fa fb k v) r = fw fa fb (qb fa fb k) k v r := fw_same (bnm_same hV hv).1 (bnm_same hV hv).2 hr
theorem liv_bnm (hl : liv (hB n fa fb k) b) : bnm n fa fb k b = b := hl
theorem chn_bnm (hV : Vd fa fb n k) (hv : v < n) : chn n fa fb k (bnm n fa fb k v) = bnm n fa fb k v :: nmL (bnm n fa fb k) (fw fa fb (qb fa fb k) k v (hR n fa fb k v)) := by
  unfold chn
  rw [hR_bnm hV hv, fw_bnm hV hv ((hR_ok hV).1 v hv).2.symm]
theorem bup_bnm (hV : Vd fa fb n k) (hv : v < n) : bup n fa fb k (bnm n fa fb k v) = hdw (bnm n fa fb k) (-1, -1) (fw fa fb (qb fa fb k) k v (hR n fa fb k v)) := by
  unfold bup
  rw [hR_bnm hV hv, fw_bnm hV hv ((hR_ok hV).1 v hv).2.symm]
theorem FH_blk (hV : Vd fa fb n k) (hn : n ≤ 32) : FH n (liv (hB n fa fb k)) (fun b => (bup n fa fb k b).1) (chn n fa fb k) := by
  obtain ⟨hR1, hR2⟩ := hR_ok hV
  intro b hb hl
  have hbr := (hR1 b hb).2.symm
  constructor
  · cases hp : fw fa fb (qb fa fb k) k b (hR n fa fb k b) with
    | nil =>
      left
      have e : bup n fa fb k b = (-1, -1) := by unfold bup; rw [hp]; rfl
      exact ⟨by show (bup n fa fb k b).1 = -1; rw [e], by unfold chn; rw [hp]; rfl⟩
    | cons s L =>
      obtain ⟨t, y⟩ := s
      obtain ⟨z, g1, g2, g3, g4, g5, g6, g7, g8, g9, g10⟩ := fw_hd hbr hp
      have hy := (isE_lt hV g6 g8).2
      have hyl := bnm_lt hV hy
      right
      refine ⟨bnm n fa fb k y, hyl.1, hyl.2, ?_, ?_⟩
      · dsimp only
        unfold bup
        rw [hp]
        rfl
      · rw [chn_bnm hV hy]
        unfold chn
        rw [hp, g4, hR2 y b (g9.trans hbr.symm)]
        rfl
  · have hnd := nm_nodup (nm := bnm n fa fb k) hV (NmQ_b hV) rfl hb hbr
    have := List.Nodup.length_le_of_subset hnd (l₂ := List.range n) (fun c hc => ?_)
    · unfold chn
      rw [List.length_range, List.length_cons] at this
      rw [List.length_cons]
      omega
    · rw [List.mem_range]
      obtain ⟨y, hy, _, he⟩ := nm_onW hV hb hbr hc
      rw [← he]
      exact (bnm_lt hV hy).1
theorem dp_len (hV : Vd fa fb n k) (hv : v < n) : (chn n fa fb k (bnm n fa fb k v)).length = (fw fa fb (qb fa fb k) k v (hR n fa fb k v)).length + 1 := by
  rw [chn_bnm hV hv, List.length_cons, nmL, List.length_map]
/-- one and the same bridge leads up from one block alone -/
theorem up_link_uniq (hx : ld fa fb k x = ld fa fb k r) (hw : ld fa fb k w = ld fa fb k r) (e1 : fw fa fb (qb fa fb k) k x r = (t, y) :: L) (e2 : fw fa fb (qb fa fb k) k w r = (t, z) :: M) : ld fa fb k x = ld fa fb k w ∧ fw fa fb (qb fa fb k) k x w = [] := by
  obtain ⟨p, g1, g2, g3, g4, g5, g6, g7, g8, g9, g10⟩ := fw_hd hx e1
  obtain ⟨p2, f1, f2, f3, f4, f5, f6, f7, f8, f9, f10⟩ := fw_hd hw e2
  have hpp : p = p2 := by
    rcases g8 with ⟨a1, a2⟩ | ⟨a1, a2⟩ <;> rcases f8 with ⟨b1, b2⟩ | ⟨b1, b2⟩
    · exact a1.symm.trans b1
    · exfalso
      have q1 : p = z := a1.symm.trans b1
      have q2 : y = p2 := a2.symm.trans b2
      subst q1 q2
      have l1 := congrArg List.length g3
      have l2 := congrArg List.length f3
      rw [List.length_cons] at l1 l2
      omega
    · exfalso
      have q1 : y = p2 := a1.symm.trans b1
      have q2 : p = z := a2.symm.trans b2
      subst q1 q2
      have l1 := congrArg List.length g3
      have l2 := congrArg List.length f3
      rw [List.length_cons] at l1 l2
      omega
    · exact a2.symm.trans b2
  subst hpp
  have hxw : ld fa fb k x = ld fa fb k w := hx.trans hw.symm
  exact ⟨hxw, by rw [fw_same g1 g2 (g1.symm.trans hxw), fw_nil_rev (f1.trans rfl)]; exact f2⟩
/-- below a block with a bridge up: those whose way up goes over it -/
theorem below_iff (hV : Vd fa fb n k) (hb : b < n) (hl : liv (hB n fa fb k) b) (hv : v < n) (e : fw fa fb (qb fa fb k) k b (hR n fa fb k b) = (t, y) :: L) :
    b ∈ chn n fa fb k (bnm n fa fb k v) ↔ ld fa fb k v = ld fa fb k b ∧ t ∈ lks (pa fa fb k v (hR n fa fb k b)) := by
  obtain ⟨hR1, hR2⟩ := hR_ok hV
  have hN := NmQ_b (n := n) hV
  have hvr := (hR1 v hv).2.symm
  have hbr := (hR1 b hb).2.symm
  rw [chn_bnm hV hv]
  obtain ⟨z, g1, g2, g3, g4, g5, g6, g7, g8, g9, g10⟩ := fw_hd hbr e
  constructor
  · intro hm
    obtain ⟨w, hw, ho, he⟩ := nm_onW hV hv hvr hm
    have hwb := (hN w b hw hb).mp (he.trans hl.symm)
    have hvb : ld fa fb k v = ld fa fb k b := ho.1.trans hwb.1
    refine ⟨hvb, ?_⟩
    have hrr : hR n fa fb k v = hR n fa fb k b := hR2 v b hvb
    rw [hrr] at ho
    rw [ho.2, lks_app, List.mem_append]
    right
    have : t ∈ lks (fw fa fb (qb fa fb k) k w (hR n fa fb k b)) := by
      rw [fw_same hwb.1 hwb.2 hbr, e]
      exact List.mem_cons_self
    exact (fw_lk.mp this).1
  · intro ⟨hvb, ht⟩
    have hrr : hR n fa fb k v = hR n fa fb k b := hR2 v b hvb
    rw [hrr] at hvr ⊢
    obtain ⟨w, y2, ho, hE, e2⟩ := top_up (q := qb fa fb k) hvr hvr ht g5
    have hwn := (isE_lt hV g6 hE).1
    have hu := up_link_uniq (ho.1.symm.trans hvr) hbr e2 e
    have hwb : bnm n fa fb k w = b := ((hN w b hwn hb).mpr hu).trans hl
    have := onW_nm hV hN hv hwn ho
    rw [hwb] at this
    exact this
/-- the sides of a bridge by what lies below its lower end -/
theorem side_below (hV : Vd fa fb n k) (hu : u < n) (hbr : brg fa fb k t) (hE : isE fa fb t u w) (hhd : ∃ M, pa fa fb k u (hR n fa fb k u) = (t, w) :: M) (hv : v < n) :
    (Rch fa fb (fun l => l < k ∧ l ≠ t) u v ↔ bnm n fa fb k u ∈ chn n fa fb k (bnm n fa fb k v)) ∧ (Rch fa fb (fun l => l < k ∧ l ≠ t) w v ↔ ld fa fb k v = ld fa fb k w ∧ ¬ bnm n fa fb k u ∈ chn n fa fb k (bnm n fa fb k v)) := by
  obtain ⟨hR1, hR2⟩ := hR_ok hV
  obtain ⟨M, hhd⟩ := hhd
  have hwn := (isE_lt hV hbr.1 hE).2
  have hur := (hR1 u hu).2.symm
  have hq := (qb_iff hbr.1).mpr hbr
  have hf : fw fa fb (qb fa fb k) k u (hR n fa fb k u) = (t, w) :: M.filter (fun s => qb fa fb k s.1) := by
    unfold fw; rw [hhd, List.filter_cons, if_pos hq]
  have hbl := bnm_lt hV hu
  have hf2 := hf
  rw [← fw_bnm hV hu hur, ← hR_bnm hV hu] at hf2
  have hbe := below_iff hV hbl.1 hbl.2 hv hf2
  rw [hR_bnm hV hu, (bnm_same hV hu).1] at hbe
  have huw : ld fa fb k u = ld fa fb k w := ld_E hbr.1 hE
  have htu : t ∈ lks (pa fa fb k u (hR n fa fb k u)) := by rw [hhd]; exact List.mem_cons_self
  have hwr : ld fa fb k w = ld fa fb k (hR n fa fb k u) := huw.symm.trans hur
  have htw : t ∉ lks (pa fa fb k w (hR n fa fb k u)) := by
    have := pa_hd hur hhd
    rw [← this.2.2.2.1]
    exact pa_hd_ne hur hhd
  rw [side_iff hbr, side_iff hbr, hbe]
  constructor
  · constructor
    · intro ⟨h1, h2⟩
      have hvr : ld fa fb k v = ld fa fb k (hR n fa fb k u) := h1.symm.trans hur
      have := pa_parity (t := t) hur hvr
      exact ⟨h1.symm, Classical.byContradiction fun z => h2 (this.mpr (fun q => z (q.mp htu)))⟩
    · intro ⟨h1, h2⟩
      have hvr : ld fa fb k v = ld fa fb k (hR n fa fb k u) := h1.trans hur
      have := pa_parity (t := t) hur hvr
      exact ⟨h1.symm, fun z => (this.mp z) ⟨fun _ => h2, fun _ => htu⟩⟩
  · constructor
    · intro ⟨h1, h2⟩
      have hvr : ld fa fb k v = ld fa fb k (hR n fa fb k u) := h1.symm.trans hwr
      have := pa_parity (t := t) hwr hvr
      exact ⟨h1.symm, fun ⟨_, z⟩ => h2 (this.mpr (fun q => htw (q.mpr z)))⟩
    · intro ⟨h1, h2⟩
      have hvr : ld fa fb k v = ld fa fb k (hR n fa fb k u) := h1.trans hwr
      have := pa_parity (t := t) hwr hvr
      exact ⟨h1.symm, fun z => (this.mp z) ⟨fun q => absurd q htw, fun q => absurd ⟨h1.trans huw.symm, q⟩ h2⟩⟩
end W18
