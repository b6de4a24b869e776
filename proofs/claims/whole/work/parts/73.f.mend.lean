/-! CALLS 13: mending -/
def LFp (n : Nat) (fa fb : Nat → Nat) (m b : Nat) : Prop := dgr n fa fb m b = 1
/-- the row of leaves -/
def RwOK (L : List Nat) (x : MdS) : Prop := (Md_rowLong x).toInt = (L.length : Int) ∧ ∀ (i c : Nat), L[i]? = some c → (Md_row x i).toInt = (c : Int)
section K13
variable {fa fb ga gb : Nat → Nat} {n k m r u v a b t l kd j : Nat} {X Y : SBS} {M x y q : MdS} {L : List Nat} {S : Nat → Prop}
theorem pf_flat0 {L : List Nat} {g : Nat → List Nat} (h : ∀ c, c ∈ L → ∀ x, x ∈ g c → ¬ S x) : pf S (L.flatMap g) = [] := by
  unfold pf
  rw [List.filter_eq_nil_iff]
  intro x hx z
  obtain ⟨c, hc, hxc⟩ := List.mem_flatMap.mp hx
  exact h c hc x hxc (bB_iff.mp z)
theorem pf_flat1 {g : Nat → List Nat} {c0 : Nat} : ∀ {L : List Nat}, L.Nodup → c0 ∈ L → (∀ c, c ∈ L → c ≠ c0 → ∀ x, x ∈ g c → ¬ S x) → pf S (L.flatMap g) = pf S (g c0) := by
  intro L
  induction L with
  | nil => intro _ h; cases h
  | cons a L ih =>
    intro hn hc h
    rw [List.flatMap_cons, pf_app]
    have hna := (List.nodup_cons.mp hn).1
    by_cases e : a = c0
    · subst e
      rw [pf_flat0 (fun c hc2 x hx => h c (List.mem_cons_of_mem _ hc2) (fun z => hna (z ▸ hc2)) x hx), List.append_nil]
    · have h1 : pf S (g a) = [] := by
        unfold pf
        rw [List.filter_eq_nil_iff]
        intro x hx z
        exact h a List.mem_cons_self e x hx (bB_iff.mp z)
      rw [h1, List.nil_append]
      exact ih (List.nodup_cons.mp hn).2 (by
        rcases List.mem_cons.mp hc with z | z
        · exact absurd z.symm e
        · exact z) (fun c hc2 => h c (List.mem_cons_of_mem _ hc2))
theorem pf_congr {S2 : Nat → Prop} {L : List Nat} (h : ∀ x, x ∈ L → (S x ↔ S2 x)) : pf S L = pf S2 L := by
  unfold pf
  refine List.filter_congr (fun x hx => ?_)
  have h1 := bB_iff (p := S x)
  have h2 := bB_iff (p := S2 x)
  have h3 := h x hx
  cases e1 : bB (S x) with
  | true => rw [e1] at h1; exact (h2.mpr (h3.mp (h1.mp rfl))).symm
  | false =>
    rw [e1] at h1
    refine (Bool.eq_false_iff.mpr (fun z => ?_)).symm
    exact absurd (h1.mpr (h3.mpr (h2.mp z))) Bool.false_ne_true
/-- the leaves of a land in the row of all blocks: those below its root -/
theorem leaves_root (hV : Vd fa fb n m) (hn : n ≤ 32) (hl : l < n) (hll : liv (hL n fa fb m) l) : pf (fun b => lnm n fa fb m b = l ∧ dgr n fa fb m b = 1) (ord n fa fb m) = pf (LFp n fa fb m) (pB n fa fb m (bnm n fa fb m (hR n fa fb m l))) := by
  have hF := FH_f (k := m) hV hn
  have hRk := hR_ok (k := m) hV
  have hlnl : lnm n fa fb m l = l := hll
  have hrl := hRk.1 l hl
  have br := bnm_lt (k := m) hV hrl.1
  have hlr : lnm n fa fb m (bnm n fa fb m (hR n fa fb m l)) = l := ((land_same hV br.1 hl).mpr ((bnm_same (k := m) hV hrl.1).1.trans hrl.2)).trans hlnl
  -- what is below one is in its land
  have below : ∀ c, c < n → liv (hB n fa fb m) c → ∀ x, x ∈ pB n fa fb m c → lnm n fa fb m x = lnm n fa fb m c := by
    intro c hc hcl x hx
    obtain ⟨h1, h2, h3⟩ := (prB_mem hF hc hcl).mp hx
    have := chn_dist hV h1 h2 h3
    exact ((land_same hV hc h1).mpr this.2.2.1).symm
  have hroot : bnm n fa fb m (hR n fa fb m l) ∈ rts n (liv (hB n fa fb m)) (fPP n fa fb m) := by
    refine rts_mem.mpr ⟨br.1, br.2, ?_⟩
    unfold fPP
    rw [fP_liv br.2, bup_bnm hV hrl.1]
    have h1 : hR n fa fb m (hR n fa fb m l) = hR n fa fb m l := hRk.2 _ _ hrl.2
    rw [h1, fw_self]
    rfl
  have h1 : pf (fun b => lnm n fa fb m b = l ∧ dgr n fa fb m b = 1) (ord n fa fb m) = pf (fun b => lnm n fa fb m b = l ∧ dgr n fa fb m b = 1) (pB n fa fb m (bnm n fa fb m (hR n fa fb m l))) := by
    refine pf_flat1 fl_nodup hroot (fun c hc hne x hx z => hne ?_)
    obtain ⟨c1, c2, c3⟩ := rts_mem.mp hc
    have h2 := below c c1 c2 x hx
    have h3 := root_at hV c1 c2 c3
    have h4 : hR n fa fb m c = hR n fa fb m l := hRk.2 _ _ ((land_same hV c1 hl).mp (by
      have e2 : lnm n fa fb m c = lnm n fa fb m l := (h2.symm.trans z.1).trans hlnl.symm
      exact e2))
    rw [h4] at h3
    exact h3
  rw [h1]
  refine pf_congr (fun x hx => ?_)
  have := below _ br.1 br.2 x hx
  rw [hlr] at this
  exact ⟨fun z => z.2, fun z => ⟨this, z⟩⟩
theorem RwOK_Fz_rl {f : Nat → Int32} {w : Int32} : Md_row (Md_set_rowLong (Md_set_row x f) w) = f ∧ Md_rowLong (Md_set_rowLong (Md_set_row x f) w) = w := ⟨rfl, rfl⟩
/-- all below one, in its order -/
theorem goesDown_ok (hv : HV n m fa fb) : ∀ (f : Nat) (x : MdS) (w : Int32) (b : Nat) (L : List Nat), w.toInt = (b : Int) → b < n → liv (hB n fa fb m) b → 33 ≤ f + (chn n fa fb m b).length → Rt n m fa fb M x → RwOK L x → L.length + (pf (LFp n fa fb m) (pB n fa fb m b)).length ≤ 32 →
    Ok (Md_m_goesDown f x w) (fun y => Rt n m fa fb M y ∧ RwOK (L ++ pf (LFp n fa fb m) (pB n fa fb m b)) y) := by
  have hn := hv.2.1
  have hm := hv.2.2.1
  have hV := hv.2.2.2.1
  have hF := FH_f (k := m) hV hn
  intro f
  induction f with
  | zero =>
    intro x w b L hw hb hl h33 _ _ _
    have := (hF b hb hl).2
    omega
  | succ f ih =>
    intro x w b L hw hb hl h33 hx hrw hlen
    have hy := Rt_y hx
    have hprB : pB n fa fb m b = b :: (cl n fa fb m (b : Int) n).flatMap (pB n fa fb m) := by
      rw [cl_chl]
      exact prB_s hF hb hl
    have hsplit : pf (LFp n fa fb m) (pB n fa fb m b) = pf (LFp n fa fb m) [b] ++ pf (LFp n fa fb m) ((cl n fa fb m (b : Int) n).flatMap (pB n fa fb m)) := by
      rw [hprB, ← pf_app]
      rfl
    rw [hsplit, List.length_append] at hlen
    have clen : (cl n fa fb m (b : Int) n).length = nch n fa fb m b n := fl_len
    have hchl : ∀ c, c ∈ cl n fa fb m (b : Int) n → c < n ∧ liv (hB n fa fb m) c ∧ (chn n fa fb m c).length = (chn n fa fb m b).length + 1 := by
      intro c hc
      rw [cl_chl] at hc
      obtain ⟨h1, h2, h3⟩ := chl_mem.mp hc
      obtain ⟨_, _, h4⟩ := ch_par hF h1 h2 h3
      exact ⟨h1, h2, by rw [h4]; rfl⟩
    -- the loop over the children
    have loop : ∀ (z : MdS) (L0 : List Nat), Rt n m fa fb M z → RwOK L0 z → L0.length + (pf (LFp n fa fb m) ((cl n fa fb m (b : Int) n).flatMap (pB n fa fb m))).length ≤ 32 → Ok (iter (fun p : MdS × Int32 => Md_m_goesDown_s31 (Md_m_goesDown f) w p.1 p.2) FU (z, 0)) (fun y => Rt n m fa fb M y ∧ RwOK (L0 ++ pf (LFp n fa fb m) ((cl n fa fb m (b : Int) n).flatMap (pB n fa fb m))) y) := by
      intro z L0 hz hzr hzl
      have hcle : (cl n fa fb m (b : Int) n).length ≤ n := by rw [clen]; exact cnt_le
      refine Ok_for (cl n fa fb m (b : Int) n).length (fun i s => Rt n m fa fb M s ∧ RwOK (L0 ++ pf (LFp n fa fb m) (((cl n fa fb m (b : Int) n).take i).flatMap (pB n fa fb m))) s) (by omega) i32_0 ⟨hz, by
        rw [List.take_zero, List.flatMap_nil]
        have : pf (LFp n fa fb m) [] = [] := rfl
        rw [this, List.append_nil]; exact hzr⟩ ?_ ?_
      · intro i s c2 hi hc2 ⟨hs, hsr⟩
        dsimp only [Md_m_goesDown_s31]
        have hsy := Rt_y hs
        obtain ⟨c, hc⟩ := getE (P := cl n fa fb m (b : Int) n) (i := i) hi
        obtain ⟨c1, c3, c4⟩ := hchl c (List.mem_of_getElem? hc)
        refine Ok_then (childrenR_ok hV hn hsy hw) (fun g hg => ?_)
        rw [← clen] at hg
        refine Ok_ite (fun q => by rw [i32_le] at q; omega) (fun _ => Ok_then (childOf_ok (w2 := c2) hv hsy hw) (fun g2 hg2 => ?_))
        have hpk : pick (fl (fun c => (fP n fa fb m c).1 = (b : Int)) (fun x => x) n) c2.toInt = (c : Int) := by
          unfold pick
          have e : c2.toInt.toNat = i := by omega
          rw [if_neg (by omega), e]
          have hc' : (fl (fun c => (fP n fa fb m c).1 = (b : Int)) (fun x => x) n)[i]? = some c := hc
          rw [hc']
        rw [hpk] at hg2
        have htake : (cl n fa fb m (b : Int) n).take (i + 1) = (cl n fa fb m (b : Int) n).take i ++ [c] := take_s hc
        have e1 : pf (LFp n fa fb m) (((cl n fa fb m (b : Int) n).take (i + 1)).flatMap (pB n fa fb m)) = pf (LFp n fa fb m) (((cl n fa fb m (b : Int) n).take i).flatMap (pB n fa fb m)) ++ pf (LFp n fa fb m) (pB n fa fb m c) := by
          rw [htake, List.flatMap_append, pf_app, List.flatMap_cons, List.flatMap_nil, List.append_nil]
        have e2 : (pf (LFp n fa fb m) (((cl n fa fb m (b : Int) n).take (i + 1)).flatMap (pB n fa fb m))).length ≤ (pf (LFp n fa fb m) ((cl n fa fb m (b : Int) n).flatMap (pB n fa fb m))).length := by
          conv => rhs; rw [← List.take_append_drop (i + 1) (cl n fa fb m (b : Int) n), List.flatMap_append, pf_app, List.length_append]
          omega
        rw [e1, List.length_append] at e2
        refine Ok_then (ih s g2 c (L0 ++ pf (LFp n fa fb m) (((cl n fa fb m (b : Int) n).take i).flatMap (pB n fa fb m))) hg2 c1 c3 (by rw [c4]; omega) hs hsr (by rw [List.length_append]; omega)) (fun g3 hg3 => Ok_some ⟨nx_s hc2 (by omega), hg3.1, ?_⟩)
        rw [e1, ← List.append_assoc]
        exact hg3.2
      · intro s c2 hc2 ⟨hs, hsr⟩
        dsimp only [Md_m_goesDown_s31]
        have hsy := Rt_y hs
        refine Ok_then (childrenR_ok hV hn hsy hw) (fun g hg => ?_)
        rw [← clen] at hg
        rw [List.take_length] at hsr
        exact Ok_ite (fun _ => Ok_omap (Ok_some ⟨hs, hsr⟩)) (fun q => by rw [i32_le] at q; omega)
    show Ok (Md_m_goesDown_b (Md_m_goesDown f) x w) _
    unfold Md_m_goesDown_b
    have hbr := bridgesAtR_ok hV hn hm hy hw
    rw [brg_at hV hn hb hl] at hbr
    have hdg : nch n fa fb m b n + bb ((fP n fa fb m b).1 ≠ -1) = dgr n fa fb m b := rfl
    rw [hdg] at hbr
    rw [hsplit, ← List.append_assoc]
    refine Ok_eqv hbr i32_1 (fun e => ?_) (fun e => ?_)
    · have hLF : LFp n fa fb m b := by unfold LFp; omega
      rw [pf_t hLF] at hlen ⊢
      have h1 : [b].length = 1 := rfl
      refine Ok_wrb hrw.1 (by omega) ?_
      have hR : ∀ (g : Nat → Int32) (w : Int32), Rt n m fa fb M (Md_set_rowLong (Md_set_row x g) w) := fun g w => Rt_Fz Fz_rl (Rt_Fz Fz_ro hx)
      have hrl : ∀ g, Md_rowLong (Md_set_row x g) = Md_rowLong x := fun g => rfl
      rw [hrl]
      refine loop _ (L ++ [b]) (hR _ _) ?_ (by rw [List.length_append]; omega)
      obtain ⟨q1, q2⟩ := RwOK_Fz_rl (x := x) (f := va_up (Md_row x) L.length w) (w := Md_rowLong x + 1)
      refine ⟨?_, fun i c hic => ?_⟩
      · rw [q2, List.length_append]
        exact nx_s hrw.1 (by omega)
      · rw [q1]
        by_cases e3 : i = L.length
        · rw [e3, List.getElem?_append_right (Nat.le_refl _), Nat.sub_self] at hic
          have : b = c := by simpa using hic
          rw [e3, vu_s, hw, this]
        · have hi : i < L.length := by
            have := (List.getElem?_eq_some_iff.mp hic).1
            rw [List.length_append] at this
            omega
          rw [List.getElem?_append_left hi] at hic
          rw [vu_n e3]
          exact hrw.2 i c hic
    · have hLF : ¬ LFp n fa fb m b := by unfold LFp; omega
      rw [pf_f hLF] at hlen ⊢
      rw [List.append_nil]
      have h0 : ([] : List Nat).length = 0 := rfl
      exact loop x L hx hrw (by omega)
theorem pc_mending : PC_mending Inv := by
  intro X M ⟨n, m, fa, fb, hv, hc, hr, hd⟩ v1 v2 v3
  apply pcQ
  have hT : Rd n m fa fb M (Md_set_told M 0) := Rd_told hr
  unfold SB_m_mending Md_m_mending
  refine T2_b2 (runsAll_ok hv hT) (fun g hg => ?_)
  have hn := hv.2.1
  have hm := hv.2.2.1
  have hV := hv.2.2.2.1
  have hF := FH_f (k := m) hV hn
  have hy := Rt_y hg
  have hinv := Inv_of hv hc hd (Rt_d hg)
  have hno : T2 (fun (r : Int32) (q : Int32 × MdS) => q.1 = r ∧ Inv X q.2) (some (-1)) (some (-1, g)) := T2_some ⟨rfl, hinv⟩
  have hin3 := isInt_ok (x := g) (w := v3) i64_0 i64_1
  by_cases h1 : isL n fa fb m v1.toInt
  · obtain ⟨l, hb1, hb2, hb3⟩ := id h1
    refine T2_t1 (livesL_ok hv hc) h1 (T2_t2 (isLandR_ok hV hn hy) h1 ?_)
    have hle : lvE n fa fb m l ≤ n := cnt_le
    have hin2 : ∀ g34 : Int32, g34.toInt = (((lvE n fa fb m l + 1) / 2 : Nat) : Int) → Ok (Md_m_isIn g ((v2 : Int32).toInt64) 0 (((g34 : Int32).toInt64) - 1)) (fun r => r = true ↔ 0 ≤ v2.toInt ∧ v2.toInt ≤ (((lvE n fa fb m l + 1) / 2 : Nat) : Int) - 1) := by
      intro g34 hg34
      have := isInt_ok (x := g) (w := v2) i64_0 (i64_w1 g34)
      rw [hg34] at this
      exact this
    by_cases h2 : v2.toInt < 0
    · refine T2_p1 (by rw [i32_lt, i32_0]; exact h2) ?_
      by_cases h3 : 0 ≤ v3.toInt ∧ v3.toInt ≤ 1
      · exact T2_t2 hin3 h3 (T2_b2 (mendR_ok hv hy hb1) (fun g34 hg34 => T2_f2 (hin2 g34 hg34) (by omega) hno))
      · exact T2_f2 hin3 h3 hno
    · refine T2_n1 (by rw [i32_lt, i32_0]; exact h2) (T2_b1 (mendC_ok hv hc hb1) (fun g21 hg21 => ?_))
      by_cases h4 : v2.toInt < (((lvE n fa fb m l + 1) / 2 : Nat) : Int)
      · refine T2_p1 (by rw [i32_lt, hg21]; exact h4) ?_
        refine T2_b1 (leavesOfC_ok hV hn hc.2.1 hc.1.1.2.2.2.2.2.1 hb1) (fun g41 hg41 => T2_b1 (i32_div2 (k := lvE n fa fb m l) hg41 (by omega)) (fun g45 hg45 => ?_))
        by_cases h3 : 0 ≤ v3.toInt ∧ v3.toInt ≤ 1
        · refine T2_t2 hin3 h3 (T2_b2 (mendR_ok hv hy hb1) (fun g34 hg34 => T2_t2 (hin2 g34 hg34) (by omega) ?_))
          have hg0 : Rt n m fa fb M (Md_set_rowLong g 0) := Rt_Fz Fz_rl hg
          have hrw0 : RwOK [] (Md_set_rowLong g 0) := ⟨i32_0, fun i c z => by simp at z⟩
          generalize Md_set_rowLong g 0 = g0 at *
          have hRk := hR_ok (k := m) hV
          have hrl := hRk.1 l hb2
          have br := bnm_lt (k := m) hV hrl.1
          have hlv := leaves_root hV hn hb2 hb3
          have hlen : (pf (LFp n fa fb m) (pB n fa fb m (bnm n fa fb m (hR n fa fb m l)))).length = lvE n fa fb m l := by
            rw [← hlv, ord_cnt hV hn]
            rfl
          have hch1 : 1 ≤ (chn n fa fb m (bnm n fa fb m (hR n fa fb m l))).length := by unfold chn; rw [List.length_cons]; omega
          refine T2_b2 (rootOfR_ok hV hn (Rt_y hg0) hb1 hb2) (fun g56 hg56 => T2_b2 (goesDown_ok hv 40 g0 g56 (bnm n fa fb m (hR n fa fb m l)) [] hg56 br.1 br.2 (by omega) hg0 hrw0 (by rw [hlen]; show 0 + _ ≤ 32; omega)) (fun g59 hg59 => ?_))
          obtain ⟨hg59, hrw⟩ := hg59
          rw [List.nil_append] at hrw
          -- a leaf, in both
          have leafQ : ∀ (w : Int32) (k : Nat), w.toInt = (k : Int) → k < lvE n fa fb m l → T2 (fun (r : Int32) (q : Int32 × MdS) => q.1 = r ∧ Inv X q.2) ((Fo_m_leaf (SB_forest X) 32 (Wb_lands (SB_now X)) v1 w).bind fun g90 => (SB_m_member X g90 0).bind fun g94 => some g94) (Md_m_mending_j85 g59 0 w) := by
            intro w k hw hk
            obtain ⟨c, hck⟩ := getE (P := pf (LFp n fa fb m) (pB n fa fb m (bnm n fa fb m (hR n fa fb m l)))) (i := k) (by rw [hlen]; exact hk)
            have hcm := (pf_mem.mp (List.mem_of_getElem? hck)).1
            obtain ⟨c1, c2, _⟩ := (prB_mem hF br.1 br.2).mp hcm
            have hrow := hrw.2 k c hck
            refine T2_b1 (leafC_ok hV hn hc.2.1 hc.1.1.2.2.2.2.2.1 hb1) (fun g90 hg90 => ?_)
            have hpk : pick (pf (fun b => lnm n fa fb m b = l ∧ dgr n fa fb m b = 1) (ord n fa fb m)) w.toInt = (c : Int) := by
              rw [hlv]
              unfold pick
              have e : w.toInt.toNat = k := by omega
              rw [if_neg (by omega), e, hck]
            rw [hpk] at hg90
            unfold Md_m_mending_j85
            have hlt : lvE n fa fb m l ≤ 32 := by omega
            refine ans hv hc hd (E := (lea (fun v => bnm n fa fb m v = c) n : Int)) (Ok_then (memberC_ok hv hc hg90 c1 c2) (fun g94 hg94 => Ok_some ?_)) (Ok_rdb hw (by omega) ?_)
            · rw [hg94, i32_0]
              exact pick_0 c1 (liv_bnm c2)
            · obtain ⟨a, ea, ha⟩ := leastB_ok (w1 := 0) hn (Rt_y hg59) i32_0 hrow c1 c2
              cases e : Md_m_nodesOf g59 0 (Md_row g59 k) with
              | none => rw [e] at ea; exact absurd ea (by simp)
              | some z =>
                rw [e] at ea
                have ea' : Md_m_least g59 z = some a := ea
                exact Ok_sb (Ok_eqb ea' (Ok_some ⟨ha, Rt_d hg59⟩))
          have hk : v2.toInt = (v2.toInt.toNat : Int) := by omega
          by_cases q0 : v3 = 0
          · exact T2_p1 q0 (T2_p2 q0 (leafQ v2 v2.toInt.toNat hk (by omega)))
          · have q1 : v3 = 1 := i32_ext (by
              have z0 : v3.toInt ≠ 0 := fun e => q0 (i32_ext (by rw [e]; rfl))
              rw [i32_1]; omega)
            refine T2_n1 q0 (T2_p1 q1 (T2_n2 q0 ?_))
            have hrl2 := hrw.1
            rw [hlen] at hrl2
            refine T2_b2 (i32_div2 (k := lvE n fa fb m l) hrl2 (by omega)) (fun g83 hg83 => ?_)
            have e : g83 = g45 := i32_ext (by rw [hg83, hg45])
            rw [e]
            refine leafQ (v2 + g45) (v2.toInt.toNat + lvE n fa fb m l / 2) ?_ (by omega)
            rw [i32_add (by rw [hg45]; omega) (by rw [hg45]; omega), hg45]
            omega
        · have q0 : v3 ≠ 0 := fun e => h3 (by rw [e]; decide)
          have q1 : v3 ≠ 1 := fun e => h3 (by rw [e]; decide)
          exact T2_n1 q0 (T2_n1 q1 (T2_f2 hin3 h3 hno))
      · refine T2_n1 (by rw [i32_lt, hg21]; exact h4) ?_
        by_cases h3 : 0 ≤ v3.toInt ∧ v3.toInt ≤ 1
        · exact T2_t2 hin3 h3 (T2_b2 (mendR_ok hv hy hb1) (fun g34 hg34 => T2_f2 (hin2 g34 hg34) (by omega) hno))
        · exact T2_f2 hin3 h3 hno
  · exact T2_f1 (livesL_ok hv hc) h1 (T2_f2 (isLandR_ok hV hn hy) h1 hno)
end K13
