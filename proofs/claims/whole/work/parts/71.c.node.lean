/-! CALLS 5: node, block, member, child -/
section K5
variable {fa fb ga gb : Nat → Nat} {n k m r u v b t l : Nat} {X Y : SBS} {M x y q : MdS}
theorem pc_node : PC_node Inv := by
  intro X M ⟨n, m, fa, fb, hv, hc, hr, hd⟩ v1 v2
  apply pcQ
  unfold SB_m_node Md_m_node
  have hT : Rd n m fa fb M (Md_set_told M 0) := Rd_told hr
  have hA := isNodeC_ok (w := v1) hc
  have hBx := isNodeR_ok (x := Md_set_told M 0) (w := v1) hr.1
  by_cases h1 : 0 ≤ v1.toInt ∧ v1.toInt < n
  · refine T2_t1 hA h1 (T2_t2 hBx h1 (T2_b2 (runsAll_ok hv hT) (fun g0 hg0 => T2_b2 (lays_ok hv hg0) (fun g hgl => ?_))))
    have hg := hgl.1
    have hp := hgl.2
    have hl : v1.toInt = (v1.toInt.toNat : Int) := by omega
    have hln : v1.toInt.toNat < n := by omega
    generalize v1.toInt.toNat = v at *
    have hy := Rt_y hg
    have hn := hv.2.1
    have hm := hv.2.2.1
    have hV := hv.2.2.2.1
    have hrd := Rt_d hg
    obtain ⟨w1, wF, wE, wT, wB, wL, wP⟩ := hc.1.1
    have hW := hc.1.1
    refine T2_ite (fun _ => ?_) (fun _ => T2_ite (fun _ => ?_) (fun _ => T2_ite (fun _ => ?_) (fun _ => T2_ite (fun _ => ?_) (fun _ => T2_ite (fun _ => ?_) (fun _ => T2_ite (fun _ => ?_) (fun _ => T2_ite (fun _ => ?_) (fun _ => ?_)))))))
    · exact ans hv hc hd (E := (bnm n fa fb m v : Int)) (Ok_rdb hl (by omega) (Ok_some (wB.2.2.1.2.1 v hln))) (Ok_then (ry_ba hy hn hl hln) (fun g2 hg2 => Ok_some ⟨hg2, hrd⟩))
    · exact ans hv hc hd (E := (lnm n fa fb m v : Int)) (Ok_rdb hl (by omega) (Ok_some (wL.2.2.1.2.1 v hln))) (Ok_then (ry_la hy hn hl hln) (fun g2 hg2 => Ok_some ⟨hg2, hrd⟩))
    · refine ans hv hc hd (Ok_then (linksAtC_ok hW hm hl) (fun g2 hg2 => Ok_some hg2)) (Ok_then (linksAt_ok hm hy hl) (fun g2 hg2 => Ok_some ⟨hg2.trans (congrArg (fun z : Nat => (z : Int)) (cnt_congr (fun i hi => ⟨fun z => z.1, fun z => ⟨z, fun z2 => absurd i32_0 z2⟩⟩))), hrd⟩))
    · refine ans hv hc hd (Ok_then (bridgesAtC_ok hW hm hl) (fun g2 hg2 => Ok_some hg2)) (Ok_then (linksAt_ok hm hy hl) (fun g2 hg2 => Ok_some ⟨hg2.trans (congrArg (fun z : Nat => (z : Int)) (cnt_congr (fun i hi => ⟨fun z => ⟨z.1, z.2 (by decide)⟩, fun z => ⟨z.1, fun _ => z.2⟩⟩))), hrd⟩))
    · refine ans hv hc hd (E := (pcn fa fb m (fun l => atN fa fb l v) : Int)) (Ok_rdb hl (by omega) (Ok_then (bitCount_ok _) (fun g2 hg2 => Ok_some (by rw [hg2, bookAt_cnt hc.2.2 hm hln])))) (Ok_then (partsAt_ok hV hn hm hy hp hl) (fun g2 hg2 => Ok_some ⟨by rw [atR_0 i32_0] at hg2; exact hg2, hrd⟩))
    · by_cases hct : cutN fa fb m v
      · exact T2_t1 (isCutC_ok hc.2.2 hn hm hl hln) hct (T2_t2 (isCutR_ok hV hn hm hy hp hl) hct (T2_some ⟨rfl, Inv_of hv hc hd hrd⟩))
      · exact T2_f1 (isCutC_ok hc.2.2 hn hm hl hln) hct (T2_f2 (isCutR_ok hV hn hm hy hp hl) hct (T2_some ⟨rfl, Inv_of hv hc hd hrd⟩))
    · have hb := bnm_lt (k := m) hV hln
      have hbn : N_of (hB n fa fb m) v < n := hb.1
      refine ans hv hc hd (E := ((chn n fa fb m (bnm n fa fb m v)).length : Int) - 1) (Ok_rdb hl (by omega) (Ok_rdb (wB.2.2.1.2.1 v hln) (by omega) (Ok_some ((hc.2.1.2.2.2 _ hb.1).2.2.2.2.2 hb.2)))) (Ok_then (ry_ba hy hn hl hln) (fun g2 hg2 => Ok_then (deepR_ok hV hn hy.2.2.2.2.2.1 hg2 hb.1 hb.2) (fun g3 hg3 => Ok_some ⟨hg3, hrd⟩)))
    · exact T2_some ⟨rfl, Inv_of hv hc hd hrd⟩
  · exact T2_f1 hA h1 (T2_f2 hBx h1 (T2_some ⟨rfl, Inv_of hv hc hd hT⟩))
/-- a block's i-th node, in both -/
theorem memberC_ok {w w2 : Int32} (hv : HV n m fa fb) (hc : CI n m fa fb X) (hw : w.toInt = (b : Int)) (hb : b < n) (hl : liv (hB n fa fb m) b) : Ok (SB_m_member X w w2) (fun r => r.toInt = pick (fl (fun v => bnm n fa fb m v = b) (fun x => x) n) w2.toInt) := by
  have hn := hv.2.1
  unfold SB_m_member
  refine Ok_tf (livesB_ok hv hc) (fun _ => ?_) (fun z => absurd ⟨b, hw, hb, hl⟩ z)
  refine Ok_pickw (N := n) (Q := fun v => bnm n fa fb m v = b) (R := fun (z : Int) (r : Int32) => r.toInt = z) (fin := some (-1)) (by omega) hc.1.1.2.2.2.1.1 (fun c i => rfl) (fun k c i hk hi => ?_) (Ok_some i32_m1)
  exact Ok_eqr hi (by omega) (hc.1.1.2.2.2.2.1.2.2.1.2.1 k hk) hw (fun e => Pk_step (Int.natCast_inj.mp e) (Ok_some hi)) (fun e => Pk_f (fun z => e (by rw [← z]; rfl)))
theorem pc_member : PC_member Inv := by
  intro X M ⟨n, m, fa, fb, hv, hc, hr, hd⟩ v1 v2
  apply pcQ
  have hT : Rd n m fa fb M (Md_set_told M 0) := Rd_told hr
  unfold Md_m_member
  refine T2_b2 (runsAll_ok hv hT) (fun g hg => ?_)
  have hy := Rt_y hg
  have hn := hv.2.1
  have hV := hv.2.2.2.1
  by_cases h1 : isB n fa fb m v1.toInt
  · obtain ⟨b, hb1, hb2, hb3⟩ := id h1
    refine T2_t2 (isBlockR_ok hV hn hy) h1 (ans hv hc hd (memberC_ok hv hc hb1 hb2 hb3) ?_)
    refine Ok_pickdw (N := n) (Q := fun v => bnm n fa fb m v = b) (R := fun (z : Int) (q : Int32 × MdS) => q.1.toInt = z ∧ Rd n m fa fb M q.2) (fin := some (-1, g)) (by omega) hy.1 (fun c i => rfl) (fun k c i hk hi => ?_) (Ok_some ⟨i32_m1, Rt_d hg⟩)
    exact Ok_eqv (ry_ba hy hn hi hk) hb1 (fun e => Pd_step (Int.natCast_inj.mp e) (Ok_some ⟨hi, Rt_d hg⟩)) (fun e => Pd_f (fun z => e (by rw [← z])))
  · unfold SB_m_member
    exact T2_f1 (livesB_ok hv hc) h1 (T2_f2 (isBlockR_ok hV hn hy) h1 (T2_some ⟨rfl, Inv_of hv hc hd (Rt_d hg)⟩))
theorem childOf_ok {w w2 : Int32} (hv : HV n m fa fb) (h : RY n m fa fb y) (hw : w.toInt = (b : Int)) : Ok (Md_m_childOf y w w2) (fun r => r.toInt = pick (fl (fun c => (fP n fa fb m c).1 = (b : Int)) (fun x => x) n) w2.toInt) := by
  have hn := hv.2.1
  have hV := hv.2.2.2.1
  unfold Md_m_childOf
  refine Ok_pickdw (N := n) (Q := fun c => (fP n fa fb m c).1 = (b : Int)) (R := fun (z : Int) (r : Int32) => r.toInt = z) (fin := some (-1)) (by omega) h.1 (fun c i => rfl) (fun k c i hk hi => ?_) (Ok_some i32_m1)
  refine Ok_tf (isBlockR_ok (w := i) hV hn h) (fun ⟨b2, e1, e2, e3⟩ => ?_) (fun q => Pd_f (fun z => q ⟨k, hi, hk, fPP_liv (fa := fa) (fb := fb) (n := n) (k := m) (b := b) z⟩))
  have : b2 = k := by omega
  subst this
  have hp := (h.2.2.2.2.2.1 b2 e2 e3).1
  rw [← fP_liv e3] at hp
  exact Ok_eqr hi (by omega) hp hw (fun e => Pd_step e (Ok_some hi)) (fun e => Pd_f e)
theorem pc_child : PC_child Inv := by
  intro X M ⟨n, m, fa, fb, hv, hc, hr, hd⟩ v1 v2
  apply pcQ
  have hT : Rd n m fa fb M (Md_set_told M 0) := Rd_told hr
  unfold SB_m_child Md_m_child
  refine T2_b2 (runsAll_ok hv hT) (fun g hg => ?_)
  have hy := Rt_y hg
  have hn := hv.2.1
  have hV := hv.2.2.2.1
  by_cases h1 : isB n fa fb m v1.toInt
  · obtain ⟨b, hb1, hb2, hb3⟩ := id h1
    refine T2_t1 (livesB_ok hv hc) h1 (T2_t2 (isBlockR_ok hV hn hy) h1 (ans hv hc hd ?_ (Ok_then (childOf_ok hv hy hb1) (fun g2 hg2 => Ok_some ⟨hg2, Rt_d hg⟩))))
    refine Ok_pickw (N := n) (Q := fun c => (fP n fa fb m c).1 = (b : Int)) (R := fun (z : Int) (r : Int32) => r.toInt = z) (fin := some (-1)) (by omega) hc.1.1.2.2.2.1.1 (fun c i => rfl) (fun k c i hk hi => ?_) (Ok_some i32_m1)
    refine Ok_tf (livesB_ok (w := i) hv hc) (fun ⟨b2, e1, e2, e3⟩ => ?_) (fun q => Pk_f (fun z => q ⟨k, hi, hk, fPP_liv (fa := fa) (fb := fb) (n := n) (k := m) (b := b) z⟩))
    exact Ok_eqr hi (by omega) (hc.2.1.2.2.2 k hk).1 hb1 (fun e => Pk_step e (Ok_some hi)) (fun e => Pk_f e)
  · exact T2_f1 (livesB_ok hv hc) h1 (T2_f2 (isBlockR_ok hV hn hy) h1 (T2_some ⟨rfl, Inv_of hv hc hd (Rt_d hg)⟩))
/-- parts within blocks, within lands -/
theorem partsIn_pcn {f : Nat → Nat} (hp : ∀ a c, a < m → c < m → pe fa fb m a = pe fa fb m c → ((f (fa a) = b ∧ f (fb a) = b) ↔ (f (fa c) = b ∧ f (fb c) = b))) : cnt (fun p => lp fa fb m p = p ∧ f (fa p) = b ∧ f (fb p) = b) m = pcn fa fb m (fun l => f (fa l) = b ∧ f (fb l) = b) := by
  rw [← pcn_lp]
  refine cnt_congr (fun p hp2 => ⟨fun h => ⟨p, hp2, h.2, h.1⟩, fun ⟨l, hl, h1, h2⟩ => ?_⟩)
  have h3 := lp_ok (fa := fa) (fb := fb) hl
  rw [h2] at h3
  exact ⟨by rw [← h2]; exact lp_id hl, (hp l p hl hp2 h3.2.2.symm).mp h1⟩
theorem pc_block : PC_block Inv := by
  intro X M ⟨n, m, fa, fb, hv, hc, hr, hd⟩ v1 v2
  apply pcQ
  have hT : Rd n m fa fb M (Md_set_told M 0) := Rd_told hr
  unfold SB_m_block Md_m_block
  refine T2_b2 (runsAll_ok hv hT) (fun g0 hg0 => ?_)
  have hn := hv.2.1
  have hm := hv.2.2.1
  have hV := hv.2.2.2.1
  by_cases h1 : isB n fa fb m v1.toInt
  · obtain ⟨b, hb1, hb2, hb3⟩ := id h1
    refine T2_t1 (livesB_ok hv hc) h1 (T2_t2 (isBlockR_ok hV hn (Rt_y hg0)) h1 (T2_b2 (lays_ok hv hg0) (fun g hgl => ?_)))
    have hg := hgl.1
    have hp := hgl.2
    have hy := Rt_y hg
    have hrd := Rt_d hg
    have hW := hc.1.1
    obtain ⟨w1, wF, wE, wT, wB, wL, wP⟩ := hc.1.1
    have hf := hc.2.1.2.2.2 b hb2
    have hfP : fP n fa fb m b = bup n fa fb m b := fP_liv hb3
    have hpar := hy.2.2.2.2.2.1 b hb2 hb3
    refine T2_ite (fun _ => ?_) (fun _ => T2_ite (fun _ => ?_) (fun _ => T2_ite (fun _ => ?_) (fun _ => T2_ite (fun _ => ?_) (fun _ => T2_ite (fun _ => ?_) (fun _ => T2_ite (fun _ => ?_) (fun _ => T2_ite (fun _ => ?_) (fun _ => T2_ite (fun _ => ?_) (fun _ => T2_ite (fun _ => ?_) (fun _ => T2_ite (fun _ => ?_) (fun _ => T2_ite (fun _ => ?_) (fun _ => ?_)))))))))))
    · refine ans hv hc hd (E := (cnt (fun v => bnm n fa fb m v = b) n : Int)) (Ok_rdb hb1 (by omega) (Ok_some ?_)) (Ok_then (sizeOfR_ok (kd := 0) hy.1 hn i32_0 (by omega) hb1 (ry_blk hy)) (fun g2 hg2 => Ok_some ⟨hg2, hrd⟩))
      rw [wB.2.2.1.2.2.2.2.1 b hb2, ((NI_B (n := n) (k := m) hV).2.2.1 b hb2 hb3).1, cntN_cnt]
      rfl
    · refine ans hv hc hd (E := (lea (fun v => bnm n fa fb m v = b) n : Int)) (Ok_then (memberC_ok hv hc hb1 hb2 hb3) (fun g2 hg2 => Ok_some ?_)) ?_
      · rw [hg2, i32_0]
        exact pick_0 hb2 (liv_bnm hb3)
      · obtain ⟨a, ea, ha⟩ := leastB_ok (w1 := 0) hn hy i32_0 hb1 hb2 hb3
        cases e : Md_m_nodesOf g 0 v1 with
        | none => rw [e] at ea; exact absurd ea (by simp)
        | some z =>
          rw [e] at ea
          have ea' : Md_m_least g z = some a := ea
          exact Ok_sb (Ok_eqb ea' (Ok_some ⟨ha, hrd⟩))
    · refine ans hv hc hd (Ok_then (linksWithinC_ok hV hW hn hm hb1) (fun g2 hg2 => Ok_some hg2)) (Ok_then (linksIn_ok hV hn hm hy hb1) (fun g2 hg2 => Ok_some ⟨hg2.trans (congrArg (fun z : Nat => (z : Int)) (cnt_congr (fun l hl => ?_))), hrd⟩))
      rw [blk_link hV hl]
      exact ⟨fun z => ⟨z.1.trans z.2.symm, z.1⟩, fun z => ⟨z.2, z.1.symm.trans z.2⟩⟩
    · exact ans hv hc hd (E := (nch n fa fb m b n : Int) + (bb (fPP n fa fb m b ≠ -1) : Int)) (Ok_rdb hb1 (by omega) (Ok_some hf.2.2.2.1)) (Ok_then (bridgesAtR_ok hV hn hm hy hb1) (fun g2 hg2 => Ok_some ⟨by
        show g2.toInt = _
        rw [hg2, brg_at hV hn hb2 hb3]
        rfl, hrd⟩))
    · exact ans hv hc hd (E := (fP n fa fb m b).1) (Ok_rdb hb1 (by omega) (Ok_some hf.1)) (Ok_rdb hb1 (by omega) (Ok_some ⟨by rw [hfP]; exact hpar.1, hrd⟩))
    · exact ans hv hc hd (E := (fP n fa fb m b).2) (Ok_rdb hb1 (by omega) (Ok_some hf.2.1)) (Ok_rdb hb1 (by omega) (Ok_some ⟨by rw [hfP]; exact hpar.2, hrd⟩))
    · exact ans hv hc hd (Ok_rdb hb1 (by omega) (Ok_some (hf.2.2.2.2.2 hb3))) (Ok_then (deepR_ok hV hn hy.2.2.2.2.2.1 hb1 hb2 hb3) (fun g2 hg2 => Ok_some ⟨hg2, hrd⟩))
    · exact ans hv hc hd (Ok_rdb hb1 (by omega) (Ok_some hf.2.2.1)) (Ok_then (childrenR_ok hV hn hy hb1) (fun g2 hg2 => Ok_some ⟨hg2, hrd⟩))
    · exact ans hv hc hd (Ok_then (cutsWithinC_ok hV hc.2.2 hn hm wB hb1) (fun g2 hg2 => Ok_some hg2)) (Ok_then (cutsInR_ok hV hn hm hy hp hb1) (fun g2 hg2 => Ok_some ⟨hg2, hrd⟩))
    · refine ans hv hc hd (E := (pcn fa fb m (fun l => bnm n fa fb m (fa l) = b ∧ bnm n fa fb m (fb l) = b) : Int)) (Ok_then (allAtC_ok hc.2.2 hn wB hb1) (fun g2 hg2 => Ok_then (bitCount_ok _) (fun g3 hg3 => Ok_some ?_))) (Ok_then (partsIn_ok (kd := 0) (f := bnm n fa fb m) hV hn hm hy hp i32_0 (by omega) hb1 (ry_blk hy)) (fun g2 hg2 => Ok_some ⟨?_, hrd⟩))
      · rw [hg3, ← pcn_pnm hm]
        refine congrArg (fun z : Nat => (z : Int)) (cnt_congr (fun q hq => ?_))
        rw [bt64_and, Bool.and_eq_true, bookIn_iff hV hc.2.2 hq (hg2 q hq)]
        constructor
        · intro ⟨l, hl, ⟨⟨v, hvn, h2, h3⟩, h4⟩, e⟩
          have h5 := (blk_link hV hl).mp h4
          refine ⟨l, hl, ?_, e⟩
          rcases h3 with h3 | h3
          · have h6 : bnm n fa fb m (fa l) = b := by rw [h3]; exact h2
            exact ⟨h6, h5.symm.trans h6⟩
          · have h6 : bnm n fa fb m (fb l) = b := by rw [h3]; exact h2
            exact ⟨h5.trans h6, h6⟩
        · intro ⟨l, hl, ⟨h2, h3⟩, e⟩
          exact ⟨l, hl, ⟨⟨fa l, (hV l hl).1, h2, Or.inl rfl⟩, (blk_link hV hl).mpr (h2.trans h3.symm)⟩, e⟩
      · show g2.toInt = _
        rw [hg2, partsIn_pcn (fun a c ha hc2 e => part_blk hV ha hc2 e)]
    · exact ans hv hc hd (Ok_rdb hb1 (by omega) (Ok_some hf.2.2.2.2.1)) (Ok_then (belowR_ok hV hn hy hb1) (fun g2 hg2 => Ok_some ⟨hg2, hrd⟩))
    · exact T2_some ⟨rfl, Inv_of hv hc hd hrd⟩
  · exact T2_f1 (livesB_ok hv hc) h1 (T2_f2 (isBlockR_ok hV hn (Rt_y hg0)) h1 (T2_some ⟨rfl, Inv_of hv hc hd (Rt_d hg0)⟩))
end K5
