/-! CALLS 4: linkOf, bridge, latest, doubleSafe, bridgesBy -/
section K4
variable {fa fb ga gb : Nat → Nat} {n k m r u v b t l : Nat} {X Y : SBS} {M x y q : MdS}
theorem Rt_prt (hm : m ≤ 64) (h : Rt n m fa fb M x) (h1 : (Md_partRun y).toInt = (m : Int)) (h2 : PN fa fb m y) (h3 : Fp x y) : Rt n m fa fb M y := by
  have e := h3.1
  obtain ⟨⟨r1, r2, r3, r4, r5⟩, hs, hr⟩ := h
  refine ⟨⟨by rw [e.1]; exact r1, by rw [e.2.1]; exact r2, by rw [e.2.2.2.1, e.2.2.2.2.1]; exact r3, Or.inr ⟨m, Nat.le_refl m, Fp_run h3 hr⟩, Or.inr ⟨m, Nat.le_refl m, h1, h2⟩⟩, e.2.2.1.trans hs, Fp_run h3 hr⟩
theorem sideR_ok {w w2 : Int32} (hv : HV n m fa fb) (h : RY n m fa fb y) (hw : w.toInt = (t : Int)) (h2 : w2.toInt = (u : Int)) (hu : u < n) : Ok (Md_m_side y w w2) (fun r => r.toInt = (sdn fa fb m t u n : Int)) := by
  unfold Md_m_side
  have hn := hv.2.1
  have hV := hv.2.2.2.1
  refine Ok_then (reached_ok (x := y) (wl := w) (wn := -1) hV hn hv.2.2.1 hu h.2.2.1 h2 h.2.1) (fun g hg => Ok_then (count_ok (x := y)) (fun g2 hg2 => Ok_some ?_))
  rw [hg2]
  refine congrArg (fun z : Nat => (z : Int)) ?_
  have e : ∀ j, j < 32 → (bt g j = true ↔ Rch fa fb (fun l => l < m ∧ l ≠ t) u j) := by
    intro j hj
    rw [hg j hj, hw]
    exact ⟨fun z => z.mono (fun l hl => ⟨hl.1, fun z2 => hl.2 (Or.inl (by rw [z2]))⟩), fun z => z.mono (fun l hl => ⟨hl.1, fun z2 => by
      unfold Out at z2
      rw [i32_m1] at z2
      have := hl.2
      omega⟩)⟩
  rw [cnt_congr e]
  exact cnt_cut hn (fun j hj _ z => by have := Rch_lt hV (fun l hl => hl.1) hu z; omega)
theorem sideC_ok {w w2 w3 : Int32} (hv : HV n m fa fb) (hc : CI n m fa fb X) (hw : w.toInt = (t : Int)) (ht : t < m) (h2 : w2.toInt = (u : Int)) (h3 : w3.toInt = (v : Int)) (hE : isE fa fb t u v) : Ok (SB_m_sideOf X w w2 w3) (fun r => (brg fa fb m t → r.toInt = (sdn fa fb m t u n : Int)) ∧ (¬ brg fa fb m t → r.toInt = -1)) := by
  unfold SB_m_sideOf
  have hn := hv.2.1
  have hm := hv.2.2.1
  have hV := hv.2.2.2.1
  obtain ⟨hu, hvn⟩ := isE_lt hV ht hE
  obtain ⟨w1, wF, wE, wT, wB, wL, wP⟩ := hc.1.1
  refine Ok_tf (isBrC_ok wE hm hw ht) (fun hb => ?_) (fun hb => Ok_some ⟨fun z => absurd z hb, fun _ => i32_m1⟩)
  have hup := (wT.2 u hu).2
  refine Ok_eqr h2 (by omega) hup hw (fun e => ?_) (fun e => ?_)
  · -- it leads up from this end
    have hbu := bnm_lt (k := m) hV hu
    refine Ok_rdb h2 (by omega) (Ok_rdb (wB.2.2.1.2.1 u hu) (by have := hbu.1; unfold bnm at this; omega) (Ok_some ⟨fun _ => ?_, fun z => absurd hb z⟩))
    show (Fo_below (SB_forest X) (bnm n fa fb m u)).toInt = _
    rw [(hc.2.1.2.2.2 _ hbu.1).2.2.2.2.1]
    unfold up1 hdw at e
    cases hp : pa fa fb m u (hR n fa fb m u) with
    | nil => rw [hp] at e; exact absurd e (by show ¬ (-1 : Int) = (t : Int); omega)
    | cons s L =>
      rw [hp] at e
      have e1 : s.1 = t := Int.natCast_inj.mp e
      have hl : ld fa fb m u = ld fa fb m (hR n fa fb m u) := ((hR_ok (k := m) hV).1 u hu).2.symm
      have hs : pa fa fb m u (hR n fa fb m u) = (t, s.2) :: L := by rw [hp, ← e1]
      obtain ⟨_, hTL, hE2, hL, _⟩ := pa_hd hl hs
      have : s.2 = v := isE_fix hTL hE2 hE
      rw [this] at hs
      rw [(side_up hV hb hu hs hE).1]
  · have hbv := bnm_lt (k := m) hV hvn
    refine Ok_rdb h2 (by omega) ?_
    have hlu := (NI_L (n := n) (k := m) hV).1 u hu
    refine Ok_rdb (wL.2.2.1.2.1 u hu) (by omega) (Ok_rdb h3 (by omega) (Ok_rdb (wB.2.2.1.2.1 v hvn) (by have := hbv.1; unfold bnm at this; omega) (Ok_some ⟨fun _ => ?_, fun z => absurd hb z⟩)))
    show (Nm_size (Wb_lands (SB_now X)) (N_of (hL n fa fb m) u) - Fo_below (SB_forest X) (bnm n fa fb m v)).toInt = _
    obtain ⟨z, y, hE2, hz, hy, hr, hld, hpa⟩ := brg_low hV hb
    have hzv : z = v ∧ y = u := by
      have hnz : z ≠ u := by
        intro hz2
        refine e ?_
        rw [← hz2]
        unfold up1 hdw
        rw [hpa]
      rcases hE with ⟨a1, a2⟩ | ⟨a1, a2⟩
      · rcases hE2 with ⟨b1, b2⟩ | ⟨b1, b2⟩
        · exact absurd (b1.symm.trans a1) hnz
        · exact ⟨b2.symm.trans a2, b1.symm.trans a1⟩
      · rcases hE2 with ⟨b1, b2⟩ | ⟨b1, b2⟩
        · exact ⟨b1.symm.trans a1, b2.symm.trans a2⟩
        · exact absurd (b2.symm.trans a2) hnz
    rw [hzv.1, hzv.2] at hpa
    have hs := side_up hV hb hvn hpa hE.symm
    have hsz := wL.2.2.1.2.2.2.2.1 (N_of (hL n fa fb m) u) hlu.1
    have hls := land_size (m := m) hV hu
    have hls' : N_mx (hL n fa fb m) (N_of (hL n fa fb m) u) = cnt (fun x => lnm n fa fb m x = lnm n fa fb m u) n := hls
    have hbe := (hc.2.1.2.2.2 _ hbv.1).2.2.2.2.1
    have hcl := cnt_le (P := fun x => lnm n fa fb m x = lnm n fa fb m u) (n := n)
    rw [hls'] at hsz
    rw [i32_sub (by rw [hsz, hbe]; omega) (by rw [hsz, hbe]; omega), hsz, hbe]
    omega
theorem pc_linkOf : PC_linkOf Inv := by
  intro X M ⟨n, m, fa, fb, hv, hc, hr, hd⟩ v1 v2
  apply pcQ
  unfold SB_m_linkOf Md_m_linkOf
  have hT : Rd n m fa fb M (Md_set_told M 0) := Rd_told hr
  have hA := isLinkC_ok (w := v1) hc
  have hB := isLinkR_ok (x := Md_set_told M 0) (w := v1) hr.2.1
  by_cases h1 : 0 ≤ v1.toInt ∧ v1.toInt < m
  · refine T2_t1 hA h1 (T2_t2 hB h1 (T2_b2 (runsAll_ok hv hT) (fun g hg => ?_)))
    have hl : v1.toInt = (v1.toInt.toNat : Int) := by omega
    have hlm : v1.toInt.toNat < m := by omega
    generalize v1.toInt.toNat = l at *
    have hy := Rt_y hg
    have hm := hv.2.2.1
    have hV := hv.2.2.2.1
    have hrd := Rt_d hg
    have hf := hc.1.1.2.1 l hlm
    have hfR := hy.2.2.1 l hlm
    refine T2_ite (fun _ => ?_) (fun _ => T2_ite (fun _ => ?_) (fun _ => T2_ite (fun _ => ?_) (fun _ => T2_ite (fun _ => ?_) (fun _ => T2_ite (fun _ => ?_) (fun _ => T2_ite (fun _ => ?_) (fun _ => T2_ite (fun _ => ?_) (fun _ => T2_ite (fun _ => ?_) (fun _ => ?_))))))))
    · exact ans hv hc hd (E := (fa l : Int)) (Ok_rdb hl (by omega) (Ok_some hf.1)) (Ok_rdb hl (by omega) (Ok_some ⟨hfR.1, hrd⟩))
    · exact ans hv hc hd (E := (fb l : Int)) (Ok_rdb hl (by omega) (Ok_some hf.2)) (Ok_rdb hl (by omega) (Ok_some ⟨hfR.2, hrd⟩))
    · by_cases hb : brg fa fb m l
      · exact T2_t1 (isBrC_ok hc.1.1.2.2.1 hm hl hlm) hb (T2_t2 (ry_br hy hm hl hlm) hb (T2_some ⟨rfl, Inv_of hv hc hd hrd⟩))
      · exact T2_f1 (isBrC_ok hc.1.1.2.2.1 hm hl hlm) hb (T2_f2 (ry_br hy hm hl hlm) hb (T2_some ⟨rfl, Inv_of hv hc hd hrd⟩))
    · exact ans hv hc hd (E := hC fa fb m l) (Ok_rdb hl (by omega) (Ok_some (hc.1.1.2.2.1 l hlm))) (Ok_rdb hl (by omega) (Ok_some ⟨hy.2.2.2.2.2.2 l hlm, hrd⟩))
    · refine ans hv hc hd (E := (cnt (fun k => lp fa fb m k = k) (lp fa fb m l) : Int)) ?_ ?_
      · have hpl := pnm_lt (fa := fa) (fb := fb) hlm
        refine Ok_rdb hl (by omega) (Ok_rdb (hc.1.1.2.2.2.2.2.2.2.2.1.2.1 l hlm) (by unfold pnm at hpl; omega) (Ok_some ?_))
        have hlp := lp_ok (fa := fa) (fb := fb) hlm
        have e := hc.2.2.2.2.2.1 (lp fa fb m l) hlp.2.1 ((Fst_lp hlp.2.1).mpr (lp_id hlm))
        have e2 : pnm fa fb m (lp fa fb m l) = pnm fa fb m l := (prt_same hlp.2.1 hlm).mpr hlp.2.2
        rw [e2] at e
        refine e.trans (congrArg (fun z : Nat => (z : Int)) (cnt_congr (fun i hi => Fst_lp (by omega))))
      · exact Ok_then (lays_ok hv hg) (fun g2 hg2 => Ok_then (partNumber_ok hm hg2.2 hl hlm) (fun g3 hg3 => Ok_some ⟨hg3, Rt_d hg2.1⟩))
    · by_cases hb : brg fa fb m l
      · refine ans hv hc hd (E := (sdn fa fb m l (fa l) n : Int)) (Ok_rdb hl (by omega) (Ok_rdb hl (by omega) (Ok_then (sideC_ok hv hc hl hlm hf.1 hf.2 (E_of l)) (fun g2 hg2 => Ok_some (hg2.1 hb))))) ?_
        exact Ok_tf (ry_br hy hm hl hlm) (fun _ => Ok_rdb hl (by omega) (Ok_then (sideR_ok hv hy hl hfR.1 (hV l hlm).1) (fun g2 hg2 => Ok_some ⟨hg2, hrd⟩))) (fun z => absurd hb z)
      · refine ans hv hc hd (E := -1) (Ok_rdb hl (by omega) (Ok_rdb hl (by omega) (Ok_then (sideC_ok hv hc hl hlm hf.1 hf.2 (E_of l)) (fun g2 hg2 => Ok_some (hg2.2 hb))))) ?_
        exact Ok_tf (ry_br hy hm hl hlm) (fun z => absurd z hb) (fun _ => Ok_some ⟨i32_m1, hrd⟩)
    · by_cases hb : brg fa fb m l
      · refine ans hv hc hd (E := (sdn fa fb m l (fb l) n : Int)) (Ok_rdb hl (by omega) (Ok_rdb hl (by omega) (Ok_then (sideC_ok hv hc hl hlm hf.2 hf.1 (E_of l).symm) (fun g2 hg2 => Ok_some (hg2.1 hb))))) ?_
        exact Ok_tf (ry_br hy hm hl hlm) (fun _ => Ok_rdb hl (by omega) (Ok_then (sideR_ok hv hy hl hfR.2 (hV l hlm).2) (fun g2 hg2 => Ok_some ⟨hg2, hrd⟩))) (fun z => absurd hb z)
      · refine ans hv hc hd (E := -1) (Ok_rdb hl (by omega) (Ok_rdb hl (by omega) (Ok_then (sideC_ok hv hc hl hlm hf.2 hf.1 (E_of l).symm) (fun g2 hg2 => Ok_some (hg2.2 hb))))) ?_
        exact Ok_tf (ry_br hy hm hl hlm) (fun z => absurd z hb) (fun _ => Ok_some ⟨i32_m1, hrd⟩)
    · refine ans hv hc hd (E := (pnm fa fb m l : Int)) (Ok_rdb hl (by omega) (Ok_some (hc.1.1.2.2.2.2.2.2.2.2.1.2.1 l hlm))) ?_
      refine Ok_then (runsParts_ok hV hv.2.1 hm hv.2.2.2.2 hg.1.2.2.1 hg.1.1 hg.1.2.1 hg.1.2.2.2.2) (fun g2 hg2 => Ok_rdb hl (by omega) (Ok_some ⟨(hg2.2.1 l hlm).1, ?_⟩))
      exact Rt_d (Rt_prt hm hg hg2.1 hg2.2.1 hg2.2.2)
    · exact T2_some ⟨rfl, Inv_of hv hc hd hrd⟩
  · exact T2_f1 hA h1 (T2_f2 hB h1 (T2_some ⟨rfl, Inv_of hv hc hd hT⟩))
theorem pc_bridge : PC_bridge Inv := by
  intro X M ⟨n, m, fa, fb, hv, hc, hr, hd⟩ v1
  apply pcQ
  unfold SB_m_bridge Md_m_bridge
  have hT : Rd n m fa fb M (Md_set_told M 0) := Rd_told hr
  refine T2_b2 (runsAll_ok hv hT) (fun g hg => ?_)
  have hm := hv.2.2.1
  have hy := Rt_y hg
  refine ans hv hc hd (E := pickC (fl (brg fa fb m) (fun x => x) m) v1.toInt) ?_ ?_
  · refine Ok_pickCw (fin := fun c => if v1 = (-1) then some c else some (-1)) (N := m) (Q := brg fa fb m) (g := fun x => x) (R := fun (z : Int) (r : Int32) => r.toInt = z) (by omega) hc.1.1.1 (fun c i => rfl) (fun k c i hk hi => ?_) (fun c hcn => ?_)
    · exact Ok_tf (isBrC_ok hc.1.1.2.2.1 hm hi hk) (fun q => Pk_step q (Ok_some hi)) (fun q => Pk_f q)
    · exact Ok_ieq rfl i32_m1 (fun e => Ok_some (by rw [if_pos e]; exact hcn)) (fun e => Ok_some (by rw [if_neg e]; exact i32_m1))
  · refine Ok_ieq rfl i32_m1 (fun e => ?_) (fun e => ?_)
    · refine Ok_then (bridgesR_ok hy.2.2.2.2.2.2 hm hg.2.2.1) (fun g2 hg2 => Ok_some ⟨?_, Rt_d hg⟩)
      show g2.toInt = _
      unfold pickC
      rw [if_pos e, fl_len, hg2]
    · have hpk : pickC (fl (brg fa fb m) (fun x => x) m) v1.toInt = pick (fl (brg fa fb m) (fun x => x) m) v1.toInt := if_neg e
      rw [hpk]
      refine Ok_pickdw (N := m) (Q := brg fa fb m) (R := fun (z : Int) (q : Int32 × MdS) => q.1.toInt = z ∧ Rd n m fa fb M q.2) (by omega) hy.2.1 (fun c i => rfl) (fun k c i hk hi => ?_) (Ok_some ⟨i32_m1, Rt_d hg⟩)
      exact Ok_tf (ry_br hy hm hi hk) (fun q => Pd_step q (Ok_some ⟨hi, Rt_d hg⟩)) (fun q => Pd_f q)
theorem pc_latest : PC_latest Inv := by
  intro X M ⟨n, m, fa, fb, hv, hc, hr, hd⟩ v1
  apply pcQ
  unfold SB_m_latest Md_m_latest
  have e0 : Md_m (Md_set_told M 0) = Md_m M := rfl
  have hlk := hc.1.1.1
  have hmm := hr.2.1
  rw [e0]
  by_cases h0 : m = 0
  · exact T2_p1 (by rw [i32_eq, hlk, h0]; rfl) (T2_p2 (by rw [i32_eq, hmm, h0]; rfl) (T2_some ⟨rfl, Inv_of hv hc hd (Rd_told hr)⟩))
  · refine T2_n1 (by rw [i32_eq, hlk, i32_0]; omega) (T2_n2 (by rw [i32_eq, hmm, i32_0]; omega) ?_)
    have hq : ∃ y, y = Md_set_run (Md_set_told M 0) (-1) ∧ RI n m fa fb y ∧ Md_state y = Md_state M := by
      refine ⟨_, rfl, ?_, rfl⟩
      have h2 : ∀ z : MdS, RI n m fa fb z → RI n m fa fb (Md_set_run z (-1)) := fun z hz => ⟨hz.1, hz.2.1, hz.2.2.1, Or.inl i32_m1, hz.2.2.2.2⟩
      exact h2 _ (RI_Fz Fz_to hr)
    obtain ⟨y, ey, hy1, hy2⟩ := hq
    rw [← ey]
    refine T2_b2 (runsAll_ok (M := M) hv ⟨hy1, hy2⟩) (fun g hg => ?_)
    obtain ⟨k, hk⟩ : ∃ k, m = k + 1 := ⟨m - 1, by omega⟩
    have hL := hc.1.2 k hk
    have hR := hg.2.2.2.2 k hk
    have hinv := Inv_of hv hc hd (Rt_d hg)
    have e1 : Wb_turned (SB_now X) = Md_turned g ∧ Wb_joined (SB_now X) = Md_became g := by
      by_cases hTL : TL fa fb k
      · exact ⟨i32_ext ((hL.1 hTL).1.trans (hR.1 hTL).1.symm), i32_ext ((hL.1 hTL).2.trans (hR.1 hTL).2.symm)⟩
      · exact ⟨i32_ext ((hL.2.1 hTL).1.trans (hR.2.1 hTL).1.symm), i32_ext ((hL.2.1 hTL).2.trans (hR.2.1 hTL).2.symm)⟩
    have e2 : Wb_firstWas (SB_now X) = Md_firstName g := i32_ext (hL.2.2.1.trans hR.2.2.1.symm)
    have e3 : Wb_secondWas (SB_now X) = Md_secondName g := i32_ext (hL.2.2.2.trans hR.2.2.2.symm)
    exact T2_ite (fun _ => T2_some ⟨e1.1.symm, hinv⟩) (fun _ => T2_ite (fun _ => T2_some ⟨e1.2.symm, hinv⟩) (fun _ => T2_ite (fun _ => T2_some ⟨e2.symm, hinv⟩) (fun _ => T2_ite (fun _ => T2_some ⟨e3.symm, hinv⟩) (fun _ => T2_some ⟨rfl, hinv⟩))))
theorem pc_doubleSafe : PC_doubleSafe Inv := by
  intro X M ⟨n, m, fa, fb, hv, hc, hr, hd⟩ v1 v2
  apply pcQ
  unfold SB_m_doubleSafe Md_m_doubleSafe
  have hT : Rd n m fa fb M (Md_set_told M 0) := Rd_told hr
  have hA := areTwoC_ok (w1 := v1) (w2 := v2) hc
  have hB := areTwoR_ok (x := Md_set_told M 0) (w1 := v1) (w2 := v2) hr.1
  by_cases h2 : (0 ≤ v1.toInt ∧ v1.toInt < n) ∧ (0 ≤ v2.toInt ∧ v2.toInt < n) ∧ v1.toInt ≠ v2.toInt
  · refine T2_t1 hA h2 (T2_t2 hB h2 (T2_b2 (runsAll_ok hv hT) (fun g hg => T2_b2 (lays_ok hv hg) (fun g2 hg2 => ?_))))
    have hu : v1.toInt = (v1.toInt.toNat : Int) := by omega
    have hw : v2.toInt = (v2.toInt.toNat : Int) := by omega
    have hy := Rt_y hg2.1
    have h3 := shareC_ok hv.2.2.2.1 hc.2.2 hv.2.1 hv.2.2.1 hu (by omega) hw (by omega)
    have h4 := areSafe_ok hv.2.2.2.1 hv.2.1 hv.2.2.1 hy.2.1 hy.2.2.1 hy.2.2.2.2.2.2 hg2.2 hu hw (by omega) (by omega)
    by_cases hd2 : dsf fa fb m v1.toInt.toNat v2.toInt.toNat
    · exact T2_t1 h3 hd2 (T2_t2 h4 hd2 (T2_some ⟨rfl, Inv_of hv hc hd (Rt_d hg2.1)⟩))
    · exact T2_f1 h3 hd2 (T2_f2 h4 hd2 (T2_some ⟨rfl, Inv_of hv hc hd (Rt_d hg2.1)⟩))
  · exact T2_f1 hA h2 (T2_f2 hB h2 (T2_some ⟨rfl, Inv_of hv hc hd hT⟩))
theorem pc_bridgesBy : PC_bridgesBy Inv := by
  intro X M ⟨n, m, fa, fb, hv, hc, hr, hd⟩ v1
  apply pcQ
  unfold SB_m_bridgesBy Md_m_bridgesBy
  have hT : Rd n m fa fb M (Md_set_told M 0) := Rd_told hr
  have e0 : Md_m (Md_set_told M 0) = Md_m M := rfl
  have hlk := hc.1.1.1
  have hmm := hr.2.1
  have hin := isInt_ok (x := Md_set_told M 0) (w := v1) i64_0 (i32_w (Md_m (Md_set_told M 0)))
  rw [e0, hmm] at hin
  have hno : T2 (fun (r : Int32) (q : Int32 × MdS) => q.1 = r ∧ Inv X q.2) (some (-1)) (some (-1, Md_set_told M 0)) := T2_some ⟨rfl, Inv_of hv hc hd hT⟩
  by_cases h1 : v1.toInt < 0
  · exact T2_p1 (by rw [i32_lt, i32_0]; exact h1) (T2_f2 hin (by omega) hno)
  · refine T2_n1 (by rw [i32_lt, i32_0]; exact h1) ?_
    by_cases h2 : v1.toInt ≤ m
    · refine T2_p1 (by rw [i32_le, hlk]; exact h2) (T2_t2 hin ⟨by omega, h2⟩ ?_)
      have hk : v1.toInt = (v1.toInt.toNat : Int) := by omega
      have hq : ∃ y, y = Md_set_run (Md_set_told M 0) (-1) ∧ RI n m fa fb y ∧ Md_state y = Md_state M := by
        refine ⟨_, rfl, ?_, rfl⟩
        have h2 : ∀ z : MdS, RI n m fa fb z → RI n m fa fb (Md_set_run z (-1)) := fun z hz => ⟨hz.1, hz.2.1, hz.2.2.1, Or.inl i32_m1, hz.2.2.2.2⟩
        exact h2 _ (RI_Fz Fz_to hr)
      obtain ⟨y, ey, hy1, hy2⟩ := hq
      rw [← ey]
      have hm64 := hv.2.2.1
      refine ans hv hc hd (Ok_then (bridgesAmongC_ok hc.1.1 hv.2.2.1 hk (by omega)) (fun g hg => Ok_some hg)) ?_
      exact Ok_then (runsTo_ok (M := M) hv hy1 hy2 hk (by omega)) (fun g hg => Ok_then (bridgesR_ok hg.1.2.1.2.2.2 (by omega) hg.1.1) (fun g2 hg2 => Ok_some ⟨hg2, hg.2.2⟩))
    · exact T2_n1 (by rw [i32_le, hlk]; exact h2) (T2_f2 hin (by omega) hno)
end K4
