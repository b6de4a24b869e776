/-! THEORY 20: up links; bridges at a block; sides -/
section W20
variable {fa fb : Nat → Nat} {n k m u v w t r z y a b c l : Nat} {L M : List (Nat × Nat)}
theorem E_of (l : Nat) : isE fa fb l (fa l) (fb l) := Or.inl ⟨rfl, rfl⟩
/-- a bridge leads up from one of its ends -/
theorem brg_low (hV : Vd fa fb n m) (hb : brg fa fb m t) : ∃ z y, isE fa fb t z y ∧ z < n ∧ y < n ∧ hR n fa fb m z = hR n fa fb m y ∧ ld fa fb m z = ld fa fb m y ∧ pa fa fb m z (hR n fa fb m z) = (t, y) :: pa fa fb m y (hR n fa fb m y) := by
  have hE := E_of (fa := fa) (fb := fb) t
  have hv := hV t hb.1
  have hl : ld fa fb m (fa t) = ld fa fb m (fb t) := ld_link hb.1
  have hRk := hR_ok (k := m) hV
  have hr := hRk.2 _ _ hl
  have hrl := (hRk.1 _ hv.2).2
  rcases pa_step (v := hR n fa fb m (fb t)) hrl.symm hb.1 hb.2.1 hE with e | e
  · exact ⟨fa t, fb t, hE, hv.1, hv.2, hr, hl, by rw [hr]; exact e⟩
  · exact ⟨fb t, fa t, hE.symm, hv.2, hv.1, hr.symm, hl.symm, by rw [hr]; exact e⟩
theorem bup_low (hV : Vd fa fb n m) (hb : brg fa fb m t) (hz : z < n) (e : pa fa fb m z (hR n fa fb m z) = (t, y) :: M) : bup n fa fb m (bnm n fa fb m z) = ((bnm n fa fb m y : Int), (t : Int)) := by
  rw [bup_bnm hV hz]
  have hq : qb fa fb m t = true := (qb_iff hb.1).mpr hb
  unfold fw
  rw [e, List.filter_cons, if_pos hq]
  rfl
/-- what an up link tells -/
theorem up_of (hV : Vd fa fb n m) (hc : c < n) (hl : liv (hB n fa fb m) c) (h : (bup n fa fb m c).2 = (l : Int)) : l < m ∧ brg fa fb m l ∧ ∃ z y M, z < n ∧ y < n ∧ isE fa fb l z y ∧ bnm n fa fb m z = c ∧ (bup n fa fb m c).1 = (bnm n fa fb m y : Int) ∧ fw fa fb (qb fa fb m) m c (hR n fa fb m c) = (l, y) :: M ∧ pa fa fb m z (hR n fa fb m c) = (l, y) :: pa fa fb m y (hR n fa fb m c) ∧ ld fa fb m c = ld fa fb m z := by
  have hRk := hR_ok (k := m) hV
  have hrl := (hRk.1 c hc).2
  unfold bup at h ⊢
  cases e : fw fa fb (qb fa fb m) m c (hR n fa fb m c) with
  | nil =>
    rw [e] at h
    have : (-1 : Int) = (l : Int) := h
    omega
  | cons s L =>
    rw [e] at h
    have hs : (s.1 : Int) = (l : Int) := h
    have hs' : s.1 = l := Int.natCast_inj.mp hs
    have e' : fw fa fb (qb fa fb m) m c (hR n fa fb m c) = (l, s.2) :: L := by rw [e, ← hs']
    obtain ⟨z, h1, h2, h3, h4, h5, h6, h7, h8, h9, h10⟩ := fw_hd hrl.symm e'
    have hzy := isE_lt hV h6 h8
    refine ⟨h6, (qb_iff h6).mp h5, z, s.2, L, hzy.1, hzy.2, h8, ?_, rfl, by rw [← hs'], h3, h1⟩
    have := (NmQ_b hV c z hc hzy.1).mpr ⟨h1, h2⟩
    rw [← this]
    exact liv_bnm hl
theorem fP_up (hV : Vd fa fb n m) (hc : c < n) (h : (fP n fa fb m c).2 = (l : Int)) : liv (hB n fa fb m) c ∧ (bup n fa fb m c).2 = (l : Int) := by
  by_cases q : bnm n fa fb m c = c
  · unfold fP at h
    rw [if_pos q] at h
    exact ⟨q, h⟩
  · unfold fP at h
    rw [if_neg q] at h
    have : (-1 : Int) = (l : Int) := h
    omega
/-- the bridges at a block -/
theorem brg_at (hV : Vd fa fb n m) (hn : n ≤ 32) (hb : b < n) (hlb : liv (hB n fa fb m) b) : cnt (fun l => brg fa fb m l ∧ (bnm n fa fb m (fa l) = b ∨ bnm n fa fb m (fb l) = b)) m = nch n fa fb m b n + bb ((fP n fa fb m b).1 ≠ -1) := by
  have hF := FH_f (k := m) hV hn
  have h1 : ∀ l, l < m → bb (brg fa fb m l ∧ (bnm n fa fb m (fa l) = b ∨ bnm n fa fb m (fb l) = b)) = cnt (fun c => (fP n fa fb m c).2 = (l : Int) ∧ (c = b ∨ (fP n fa fb m c).1 = (b : Int))) n := by
    intro l hl
    rw [cnt_uniq (fun c d hc hd h1 h2 => ?_)]
    · refine bb_congr ⟨fun ⟨hbr, hat⟩ => ?_, fun ⟨c, hc, h1, h2⟩ => ?_⟩
      · obtain ⟨z, y, hE, hz, hy, hr, hld, hpa⟩ := brg_low hV hbr
        have hbn := bnm_lt (k := m) hV hz
        refine ⟨bnm n fa fb m z, hbn.1, ?_⟩
        rw [fP_liv hbn.2, bup_low hV hbr hz hpa]
        refine ⟨rfl, ?_⟩
        show bnm n fa fb m z = b ∨ ((bnm n fa fb m y : Nat) : Int) = (b : Int)
        rcases hE with ⟨e1, e2⟩ | ⟨e1, e2⟩
        · rw [e1, e2] at hat; exact hat.imp id (fun q => by rw [q])
        · rw [e1, e2] at hat; exact hat.symm.imp id (fun q => by rw [q])
      · obtain ⟨hlc, hu⟩ := fP_up hV hc h1
        obtain ⟨_, hbr, z, y, M, hz, hy, hE, hzc, hp, _⟩ := up_of hV hc hlc hu
        refine ⟨hbr, ?_⟩
        rw [fP_liv hlc, hp] at h2
        have h2' : bnm n fa fb m z = b ∨ bnm n fa fb m y = b := h2.imp (fun q => by rw [hzc]; exact q) Int.natCast_inj.mp
        rcases hE with ⟨e1, e2⟩ | ⟨e1, e2⟩
        · rw [e1, e2]; exact h2'
        · rw [e1, e2]; exact h2'.symm
    · obtain ⟨hlc, hu⟩ := fP_up hV hc h1.1
      obtain ⟨hld, hu2⟩ := fP_up hV hd h2.1
      obtain ⟨_, _, z, y, M, hz, hy, hE, hzc, hp, e1, hpz, hlz⟩ := up_of hV hc hlc hu
      obtain ⟨_, _, z2, y2, M2, hz2, hy2, hE2, hzc2, hp2, e2, hpz2, hlz2⟩ := up_of hV hd hld hu2
      have hRk := hR_ok (k := m) hV
      have hlcd : ld fa fb m c = ld fa fb m d := by
        have a1 : ld fa fb m z = ld fa fb m (fa l) := by
          rcases hE with ⟨q1, q2⟩ | ⟨q1, q2⟩
          · rw [q1]
          · rw [← q2]; exact (ld_link hl).symm
        have a2 : ld fa fb m z2 = ld fa fb m (fa l) := by
          rcases hE2 with ⟨q1, q2⟩ | ⟨q1, q2⟩
          · rw [q1]
          · rw [← q2]; exact (ld_link hl).symm
        rw [hlz, a1, ← a2, ← hlz2]
      have hr := hRk.2 _ _ hlcd
      rw [← hr] at e2
      have hrl := (hRk.1 c hc).2
      have := up_link_uniq (r := hR n fa fb m c) hrl.symm (hlcd.symm.trans hrl.symm) e1 e2
      have h9 := (NmQ_b hV c d hc hd).mpr this
      rw [liv_bnm hlc, liv_bnm hld] at h9
      exact h9
  rw [cnt_sum, sumN_congr h1]
  have h2 : sumN (fun l => cnt (fun c => (fP n fa fb m c).2 = (l : Int) ∧ (c = b ∨ (fP n fa fb m c).1 = (b : Int))) n) m = sumN (fun c => cnt (fun l : Nat => (fP n fa fb m c).2 = (l : Int) ∧ (c = b ∨ (fP n fa fb m c).1 = (b : Int))) m) n := by
    rw [sumN_congr (fun l _ => cnt_sum), sumN_swap, sumN_congr (fun c _ => cnt_sum.symm)]
  rw [h2]
  have h3 : ∀ c, c < n → cnt (fun l : Nat => (fP n fa fb m c).2 = (l : Int) ∧ (c = b ∨ (fP n fa fb m c).1 = (b : Int))) m = bb ((fP n fa fb m c).1 ≠ -1 ∧ (c = b ∨ (fP n fa fb m c).1 = (b : Int))) := by
    intro c hc
    rw [cnt_uniq (fun l1 l2 _ _ h1 h2 => by omega)]
    refine bb_congr ⟨fun ⟨l, hl, h1, h2⟩ => ⟨?_, h2⟩, fun ⟨h1, h2⟩ => ?_⟩
    · obtain ⟨hlc, hu⟩ := fP_up hV hc h1
      obtain ⟨_, _, z, y, M, _, _, _, _, hp, _⟩ := up_of hV hc hlc hu
      rw [fP_liv hlc, hp]
      omega
    · by_cases q : bnm n fa fb m c = c
      · have hlc : liv (hB n fa fb m) c := q
        rw [fP_liv hlc] at h1 ⊢
        cases e : fw fa fb (qb fa fb m) m c (hR n fa fb m c) with
        | nil =>
          refine absurd ?_ h1
          unfold bup
          rw [e]
          rfl
        | cons s L =>
          have hs : (bup n fa fb m c).2 = (s.1 : Int) := by
            unfold bup
            rw [e]
            rfl
          refine ⟨s.1, (up_of hV hc hlc hs).1, hs, ?_⟩
          rw [fP_liv hlc] at h2
          exact h2
      · unfold fP at h1
        rw [if_neg q] at h1
        exact absurd rfl h1
  rw [sumN_congr h3, ← cnt_sum]
  have hself : ¬ (fP n fa fb m b).1 = (b : Int) := by
    intro h
    have := (ch_par hF hb (fPP_liv (n := n) (k := m) (fa := fa) (fb := fb) (b := b) (c := b) h) h).2.2
    have h9 := congrArg List.length this
    rw [List.length_cons] at h9
    omega
  by_cases hr : (fP n fa fb m b).1 = -1
  · rw [bb_f (fun z => z hr), Nat.add_zero]
    refine cnt_congr (fun c hc => ⟨fun ⟨h1, h2⟩ => ?_, fun h => ⟨by rw [h]; omega, Or.inr h⟩⟩)
    rcases h2 with e | e
    · rw [e] at h1; exact absurd hr h1
    · exact e
  · rw [bb_t hr]
    have h9 := cnt_or (P := fun c => (fP n fa fb m c).1 = (b : Int)) hb
    rw [bb_t hself] at h9
    unfold nch
    rw [← h9]
    refine cnt_congr (fun c hc => ⟨fun ⟨h1, h2⟩ => h2.symm, fun h => ⟨?_, h.symm⟩⟩)
    rcases h with e | e
    · rw [e]; omega
    · rw [e]; exact hr
/-- a side of a bridge -/
noncomputable def sdn (fa fb : Nat → Nat) (m t u n : Nat) : Nat := cnt (fun v => Rch fa fb (fun l => l < m ∧ l ≠ t) u v) n
theorem side_up (hV : Vd fa fb n m) (hb : brg fa fb m t) (hu : u < n) (e : pa fa fb m u (hR n fa fb m u) = (t, w) :: M) (hE : isE fa fb t u w) : sdn fa fb m t u n = tot n fa fb m (bnm n fa fb m u) ∧ sdn fa fb m t w n + tot n fa fb m (bnm n fa fb m u) = cnt (fun v => lnm n fa fb m v = lnm n fa fb m w) n := by
  have hw := (isE_lt hV hb.1 hE).2
  have hs : ∀ v, v < n → _ := fun v hv => side_below hV hu hb hE ⟨M, e⟩ hv
  refine ⟨cnt_congr (fun v hv => (hs v hv).1), ?_⟩
  unfold sdn tot
  rw [cnt_sum, cnt_sum, cnt_sum, ← sumN_add]
  refine sumN_congr (fun v hv => ?_)
  rw [bb_congr (hs v hv).2]
  have hl : lnm n fa fb m v = lnm n fa fb m w ↔ ld fa fb m v = ld fa fb m w := land_same hV hv hw
  have hbl : ∀ v, v < n → bnm n fa fb m u ∈ chn n fa fb m (bnm n fa fb m v) → ld fa fb m v = ld fa fb m w := by
    intro v hv h
    have hRc := (hs v hv).1.mpr h
    have h1 : ld fa fb m u = ld fa fb m v := ld_iff.mpr (hRc.mono (fun l hl => hl.1))
    have h2 : ld fa fb m u = ld fa fb m w := ld_E hb.1 hE
    rw [← h1, h2]
  rw [bb_congr hl]
  by_cases q1 : bnm n fa fb m u ∈ chn n fa fb m (bnm n fa fb m v)
  · rw [bb_f (fun z => z.2 q1), bb_t q1, bb_t (hbl v hv q1)]
  · rw [bb_f q1, Nat.add_zero]
    exact bb_congr ⟨fun z => z.1, fun z => ⟨z, q1⟩⟩
/-- names of a land have the land's nodes -/
theorem land_size (hV : Vd fa fb n m) (hv : v < n) : N_mx (hL n fa fb m) (lnm n fa fb m v) = cnt (fun x => lnm n fa fb m x = lnm n fa fb m v) n := by
  have h := NI_L (n := n) (k := m) hV
  have h1 := h.1 v hv
  show N_mx (hL n fa fb m) (N_of (hL n fa fb m) v) = _
  rw [(h.2.2.1 _ h1.1 h1.2).1, cntN_cnt]
  rfl
theorem Rch_lt (hV : Vd fa fb n m) {Z : Nat → Prop} (hz : ∀ l, Z l → l < m) (hu : u < n) (h : Rch fa fb Z u v) : v < n := h.ind (S := fun x => x < n) hu (fun l a b hl he _ => (isE_lt hV (hz l hl) he).2)
end W20
