/-! REFERENCE 6: a link comes, all cases; the replay -/
section R6
variable {fa fb : Nat → Nat} {n k u v b c t y r a d e o T K : Nat} {x z : MdS} {L M : List (Nat × Nat)}
theorem blockAt_ok {w : Int32} {f : Nat → Nat} (hw : w.toInt = (v : Int)) (hv : v < n) (hn : n ≤ 32) (hf : ∀ j, j < n → (Md_nameOf x (32 * 0 + j)).toInt = (f j : Int)) : Ok (Md_m_blockAt x w) (fun q => q.toInt = (f v : Int)) := by
  unfold Md_m_blockAt
  refine Ok_rdb hw (by omega) (Ok_some ?_)
  have := hf v hv
  rw [show 32 * 0 + v = v by omega] at this
  exact this
theorem landOf_ok {w : Int32} {f : Nat → Nat} (hw : w.toInt = (v : Int)) (hv : v < n) (hn : n ≤ 32) (hf : ∀ j, j < n → (Md_nameOf x (32 * 1 + j)).toInt = (f j : Int)) : Ok (Md_m_landOf x w) (fun q => q.toInt = (f v : Int)) := by
  unfold Md_m_landOf
  refine Ok_rdb (landAt hw (by omega)) (by omega) (Ok_some ?_)
  exact hf v hv
theorem rg_way (hV : Vd fa fb n (k + 1)) (hc : ld fa fb k (fa k) = ld fa fb k (fb k)) {j : Nat} : j ∈ bnm n fa fb k (fa k) :: nmL (bnm n fa fb k) (fw fa fb (qb fa fb k) k (bnm n fa fb k (fa k)) (bnm n fa fb k (fb k))) ↔ j ∈ rgS n fa fb k := by
  have hV' : Vd fa fb n k := Vd_le hV (Nat.le_succ k)
  have hvk := hV k (Nat.lt_succ_self k)
  have la := bnm_lt (k := k) (fa := fa) (fb := fb) hV' hvk.1
  have lb := bnm_lt (k := k) (fa := fa) (fb := fb) hV' hvk.2
  have sa := bnm_same (k := k) (fa := fa) (fb := fb) hV' hvk.1
  have sb := bnm_same (k := k) (fa := fa) (fb := fb) hV' hvk.2
  have s1 := nm_symm (j := j) hV' la.1 lb.1 (sa.1.trans (hc.trans sb.1.symm))
  have s2 := nm_symm (j := j) hV' hvk.2 la.1 (hc.symm.trans sa.1.symm)
  rw [liv_bnm la.2, liv_bnm lb.2] at s1
  rw [liv_bnm la.2] at s2
  rw [s1, fw_bnm hV' hvk.2 (hc.symm.trans sa.1.symm), s2, fw_bnm hV' hvk.1 hc]
  rfl
theorem comes_same (hV : Vd fa fb n (k + 1)) (hn : n ≤ 32) (hc : ld fa fb k (fa k) = ld fa fb k (fb k)) (hs : bnm n fa fb k (fa k) = bnm n fa fb k (fb k)) (hR : RefK n fa fb k x) (hCk : (Md_closedBy x k).toInt = (k : Int)) : RefK n fa fb (k + 1) x ∧ fw fa fb (qb fa fb k) k (fa k) (fb k) = [] := by
  have hV' : Vd fa fb n k := Vd_le hV (Nat.le_succ k)
  have hvk := hV k (Nat.lt_succ_self k)
  obtain ⟨r0, r1, r2, r3⟩ := hR
  have h0 : fw fa fb (qb fa fb k) k (fa k) (fb k) = [] := ((NmQ_b (n := n) hV' _ _ hvk.1 hvk.2).mp hs).2
  obtain ⟨K, hkp, hK, hKm, hKn⟩ := hB_close hV hc
  have hrg : rgS n fa fb k = [bnm n fa fb k (fa k)] := by unfold rgS; rw [h0]; rfl
  have hKe : bnm n fa fb k (fa k) = K := by rw [hrg, List.mem_singleton] at hKm; exact hKm.symm
  have hKl := (rgS_node hV hc hKm).2.1
  have hTp : isTop n fa fb k (rgS n fa fb k) K := ⟨hKm, fun c hcm => by
    rw [hrg, List.mem_singleton, hKe] at hcm
    rw [hcm]; exact Nat.le_refl _⟩
  obtain ⟨bc1, bc2⟩ := bup_close hV hc hK hKm hTp
  have hS : ∀ b, sB fa fb (hB n fa fb k) k b = true ↔ b = K := fun b => by rw [sB_rgS hV hc, hrg, List.mem_singleton, hKe]
  refine ⟨⟨fun j hj => ?_, ?_, fun b hb hl => ?_, fun l hl => ?_⟩, h0⟩
  · have := r0 j hj
    rw [hK]
    refine ⟨?_, ?_, ?_, ?_⟩
    · rw [this.1]
      show _ = ((if sB fa fb (hB n fa fb k) k (N_of (hB n fa fb k) j) = true then K else N_of (hB n fa fb k) j : Nat) : Int)
      by_cases q : sB fa fb (hB n fa fb k) k (N_of (hB n fa fb k) j) = true
      · rw [if_pos q, (hS _).mp q]
      · rw [if_neg q]
    · rw [this.2.1]
      show _ = if sB fa fb (hB n fa fb k) k j = true ∧ j ≠ K then (k : Int) else N_en (hB n fa fb k) j
      rw [if_neg (fun z => z.2 ((hS j).mp z.1))]
    · rw [this.2.2.1]
      show _ = if sB fa fb (hB n fa fb k) k j = true ∧ j ≠ K then (K : Int) else N_it (hB n fa fb k) j
      rw [if_neg (fun z => z.2 ((hS j).mp z.1))]
    · rw [this.2.2.2]
      show _ = ((if j = K then sumS n (sB fa fb (hB n fa fb k) k) (N_mx (hB n fa fb k)) else N_mx (hB n fa fb k) j : Nat) : Int)
      by_cases e : j = K
      · rw [if_pos e, sumS_split hKn ((hS K).mpr rfl), e]
        have z0 : sumS n (fun b => sB fa fb (hB n fa fb k) k b && decide (b ≠ K)) (N_mx (hB n fa fb k)) = 0 := by
          have : ∀ m, sumS m (fun b => sB fa fb (hB n fa fb k) k b && decide (b ≠ K)) (N_mx (hB n fa fb k)) = 0 := by
            intro m
            induction m with
            | zero => rfl
            | succ m ih =>
              have hq : ¬ (sB fa fb (hB n fa fb k) k m && decide (m ≠ K)) = true := fun z => by
                rw [Bool.and_eq_true, decide_eq_true_iff] at z
                exact z.2 ((hS m).mp z.1)
              show sumS m _ _ + (if (sB fa fb (hB n fa fb k) k m && decide (m ≠ K)) = true then _ else 0) = 0
              rw [ih, if_neg hq]
          exact this n
        rw [z0, Nat.add_zero]
      · rw [if_neg e]
  · rw [hL_s, if_pos hc]; exact r1
  · rcases liv_close hV hc hK hKm hl with e | ⟨hl0, hS0⟩
    · rw [e, bc1]; exact r2 K hKn hKl
    · have h2 := r2 b hb hl0
      rcases bc2 b hb hl0 hS0 with ⟨g1, g2⟩ | ⟨p, p1, p2, p3, p4, p5⟩
      · rw [g2]; exact h2
      · rw [p3]
        refine ⟨?_, h2.2⟩
        rw [h2.1, p2]
        by_cases q : p ∈ rgS n fa fb k
        · rw [p4 q]
          rw [hrg, List.mem_singleton, hKe] at q
          rw [q]
        · exact (p5 q).symm
  · by_cases e : l = k
    · rw [e, hCk, hC_s, if_pos hc, if_pos rfl]
    · have hlk : l < k := by omega
      rw [hC_close hc hlk, if_neg]
      · exact r3 l hlk
      · intro ⟨q1, q2⟩
        have := fw_nil.mp h0 l q1
        rw [q2] at this; cases this
theorem U4_cb {no en it mx : Nat → Int32} : Md_closedBy (U4 x no en it mx) = Md_closedBy x := rfl
theorem U4_pa {no en it mx : Nat → Int32} : Md_parent (U4 x no en it mx) = Md_parent x := rfl
theorem U4_up {no en it mx : Nat → Int32} : Md_up (U4 x no en it mx) = Md_up x := rfl
theorem U4_tu {no en it mx : Nat → Int32} : Md_turned (U4 x no en it mx) = Md_turned x := rfl
theorem U4_be {no en it mx : Nat → Int32} : Md_became (U4 x no en it mx) = Md_became x := rfl
theorem U4_fi {no en it mx : Nat → Int32} : Md_firstName (U4 x no en it mx) = Md_firstName x := rfl
theorem U4_se {no en it mx : Nat → Int32} : Md_secondName (U4 x no en it mx) = Md_secondName x := rfl
theorem T3_cb {p u : Nat → Int32} {t : Int32} : Md_closedBy (T3 x p u t) = Md_closedBy x := rfl
theorem T3_tu {p u : Nat → Int32} {t : Int32} : Md_turned (T3 x p u t) = t := rfl
theorem T3_be {p u : Nat → Int32} {t : Int32} : Md_became (T3 x p u t) = Md_became x := rfl
theorem T3_fi {p u : Nat → Int32} {t : Int32} : Md_firstName (T3 x p u t) = Md_firstName x := rfl
theorem T3_se {p u : Nat → Int32} {t : Int32} : Md_secondName (T3 x p u t) = Md_secondName x := rfl
/-- a tree link: the land is turned -/
theorem comes_tree (hV : Vd fa fb n (k + 1)) (hn : n ≤ 32) (hk : k < 64) (hT : TL fa fb k) (hnm : (Md_n x).toInt = (n : Int)) (hRf : RefK n fa fb k x) (hCk : (Md_closedBy x k).toInt = -1) (ht0 : (Md_turned x).toInt = 0) {v1 we wo w2 w3 : Int32} (h1 : v1.toInt = (k : Int)) (he : we.toInt = (tE n fa fb k : Int)) (ho : wo.toInt = (tO n fa fb k : Int))
    (h2 : w2.toInt = (fa k : Int)) (h3 : w3.toInt = (fb k : Int)) :
    Ok ((Md_m_turns x we wo v1).bind fun g => Md_m_comes_j149 g v1 w2 w3) (fun q => RefK n fa fb (k + 1) q ∧ Fr x q ∧ (Md_turned q).toInt = 1 + ((fw fa fb (qb fa fb k) k (tE n fa fb k) (hR n fa fb k (tE n fa fb k))).length : Int) ∧ Md_became q = Md_became x ∧ Md_firstName q = Md_firstName x ∧ Md_secondName q = Md_secondName x) := by
  have hV' : Vd fa fb n k := Vd_le hV (Nat.le_succ k)
  have hvk := hV k (Nat.lt_succ_self k)
  obtain ⟨r0, r1, r2, r3⟩ := hRf
  have hEO := isE_lt hV (Nat.lt_succ_self k) (tEO (fa := fa) (fb := fb) (n := n) (k := k))
  have hno : ∀ v, v < n → (Md_nameOf x v).toInt = (bnm n fa fb k v : Int) := fun v hv => by
    have := (r0 v hv).1
    rw [show 32 * 0 + v = v by omega] at this
    exact this
  refine Ok_then (turnsR_ok hV' hn r2 hno hEO.1 hEO.2 (t0 := 0) ht0 (by omega) he ho h1) (fun g hg => ?_)
  obtain ⟨pp, uu, t, hg, hpu, ht⟩ := hg
  subst hg
  have hIL := NI_L (n := n) (k := k) hV'
  have hf : ∀ j, j < n → (Md_nameOf (T3 x pp uu t) (32 * 1 + j)).toInt = (lnm n fa fb k j : Int) := fun j hj => (r1 j hj).1
  unfold Md_m_comes_j149
  refine Ok_then (landOf_ok h2 hvk.1 hn hf) (fun g154 h154 => Ok_then (landOf_ok h3 hvk.2 hn hf) (fun g161 h161 => ?_))
  have na := (hIL.1 (fa k) hvk.1).1
  have nb := (hIL.1 (fb k) hvk.2).1
  have hS : sL fa fb (hL n fa fb k) k (N_of (hL n fa fb k) (fa k)) = true := by simp [sL]
  obtain ⟨K, hK, hSK, hkp, hjn⟩ := jn_some (s := hL n fa fb k) (l := k) na hS
  refine Ok_then (unites_ok (n := n) (kd := 1) (l := k) (S := sL fa fb (hL n fa fb k) k) (s := hL n fa fb k) (x := T3 x pp uu t) hnm hn i32_1 (by omega) h1 r1 hIL (fun j hj => ?_) (fun b hb hSb => ?_) hkp) (fun g167 h167 => ?_)
  · have hb := bt_two (j := j) h154 (show lnm n fa fb k (fa k) < 32 from Nat.lt_of_lt_of_le na hn) h161 (show lnm n fa fb k (fb k) < 32 from Nat.lt_of_lt_of_le nb hn) (by omega)
    have hs2 : sL fa fb (hL n fa fb k) k j = true ↔ j = lnm n fa fb k (fa k) ∨ j = lnm n fa fb k (fb k) := by
      unfold sL lnm
      rw [Bool.or_eq_true, beq_iff_eq, beq_iff_eq]
    rw [← hs2] at hb
    cases q1 : bt ((1 <<< (g154 &&& 31)) ||| (1 <<< (g161 &&& 31))) j with
    | true => exact (hb.mp q1).symm
    | false =>
      cases q2 : sL fa fb (hL n fa fb k) k j with
      | false => rfl
      | true => rw [hb.mpr q2] at q1; cases q1
  · simp only [sL, Bool.or_eq_true, beq_iff_eq] at hSb
    rcases hSb with rfl | rfl
    · exact (hIL.1 _ hvk.1).2
    · exact (hIL.1 _ hvk.2).2
  · obtain ⟨g1, g2⟩ := g167
    obtain ⟨hg1, no, en, it, mx, hg2, hRN, hfar⟩ := h167
    dsimp only at hg1 hg2
    subst hg2
    have hq : ∀ t, t < k → qb fa fb (k + 1) t = qb fa fb k t := fun t htk => by
      have := brg_tree (fa := fa) (fb := fb) (k := k) hT htk
      cases q1 : qb fa fb k t with
      | true => exact (qb_iff (by omega)).mpr (this.mpr ((qb_iff htk).mp q1))
      | false => exact (qb_f (by omega)).mpr (fun z => (qb_f htk).mp q1 (this.mp z))
    have hqk : qb fa fb (k + 1) k = true := (qb_iff (Nat.lt_succ_self k)).mpr (brg_new hT)
    refine Ok_some ⟨⟨?_, ?_, fun b hb hl => ?_, fun l hl => ?_⟩, Fr_trans Fr_T3 Fr_U4, ?_, U4_be.trans T3_be, U4_fi.trans T3_fi, U4_se.trans T3_se⟩
    · rw [hB_s, if_neg hT]
      exact RN_far hn (by omega) r0 hfar
    · rw [hL_s, if_neg hT, hjn]
      exact hRN
    · have hl0 : liv (hB n fa fb k) b := by rw [hB_s, if_neg hT] at hl; exact hl
      have h5 := hpu b hb hl0
      have hup := up_tree (q := qb fa fb k) (q2 := qb fa fb (k + 1)) (nm := bnm n fa fb k) (par := bup n fa fb k) hV hT (NmQ_b hV') hq hqk (fun w hw => bup_bnm hV' hw) hb
      rw [liv_bnm hl0] at hup
      rw [hup] at h5
      have e : bup n fa fb (k + 1) b = hdw (bnm n fa fb k) (-1, -1) (fw fa fb (qb fa fb (k + 1)) (k + 1) b (hR n fa fb (k + 1) b)) := by
        unfold bup
        have : bnm n fa fb (k + 1) = bnm n fa fb k := by funext w; unfold bnm; rw [hB_s, if_neg hT]
        rw [this]
      rw [e, U4_pa, U4_up, T3_p, T3_u]
      exact h5
    · rw [U4_cb, T3_cb]
      rw [hC_s, if_neg hT]
      by_cases e : l = k
      · rw [e, hCk]
        rcases hC_ge (fa := fa) (fb := fb) (m := k) (t := k) with c | c
        · exact c.symm
        · omega
      · exact r3 l (by omega)
    · rw [U4_tu, T3_tu, ht]; omega
end R6
