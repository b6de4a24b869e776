/-! CALLS 6: story, part -/
section K6
variable {fa fb ga gb : Nat → Nat} {n k m r u v b t l N l0 : Nat} {X Y : SBS} {M x y q : MdS} {s : NSt}
theorem heirLoop {ρ : Type} {step : Int32 → Option (Int32 ⊕ ρ)} {fin : Int32 → Option ρ} {f : Nat → Int32} {w : Int32 → Int32} {P : ρ → Prop} (hI : NI N s l0) (hN : N ≤ 64) (hstep : ∀ i, step i = (rd f 64 (w i)).bind fun g => if g = -1 then omap (fin i) else (rd f 64 (w i)).bind fun g2 => some (.inl g2))
    (hrow : ∀ (i : Int32) (c : Nat), i.toInt = (c : Int) → c < N → Ok (rd f 64 (w i)) (fun r => r.toInt = N_it s c)) {i0 : Int32} (h0 : i0.toInt = (b : Int)) (hb : b < N) (hfin : ∀ i : Int32, i.toInt = (N_of s b : Int) → Ok (fin i) P) : Ok (iter step FU i0) P := by
  have hrk := rkN_lt (s := s) hb
  refine Ok_loop (fun t i => ∃ c : Nat, i.toInt = (c : Int) ∧ c < N ∧ N_of s c = N_of s b ∧ rkN N s c = t) (N := rkN N s b) (by unfold FU; omega) ⟨b, h0, hb, rfl, rfl⟩ ?_
  intro t i ⟨c, h1, h2, h3, h4⟩
  rw [hstep]
  by_cases q : N_of s c = c
  · have h5 := (hI.2.2.1 c h2 q).2
    refine Ok_eqv (hrow i c h1 h2) i32_m1 (fun _ => ?_) (fun z => absurd h5 z)
    refine Ok_omap (hfin i ?_)
    rw [h1, ← h3, q]
  · obtain ⟨e, d, a1, a2, a3, a4, a5, a6⟩ := hI.2.2.2 c h2 q
    refine Ok_eqv (hrow i c h1 h2) i32_m1 (fun z => by omega) (fun _ => Ok_then (hrow i c h1 h2) (fun g hg => Ok_some ⟨rkN N s d, ?_, d, by rw [hg, a3], a4, a5.trans h3, rfl⟩))
    rw [← h4]
    refine rkN_step a4 (by rw [a1]; omega) ?_
    rcases a6 with a6 | a6
    · exact Or.inl ((hI.2.1 d a4).mpr a6)
    · exact Or.inr (by rw [a1]; exact a6)
theorem story_core {L : Nat} {nm : NmS} (hN : NmOK L N s nm) (hI : NI N s l0) {v2 v3 v4 : Int32} (hb : v2.toInt = (b : Int)) (hbN : b < N) {en it mx : Nat → Int32} {o2 : Option (Int32 × MdS)} (hinv : Inv X y)
    (hloop : ∀ {P : Int32 × MdS → Prop}, (∀ i : Int32, i.toInt = (N_of s b : Int) → Ok (if v3 = 0 then ((rd en 64 v4).bind fun g122 => if g122 = (-1) then (some (1, y)) else (some (0, y))) else if v3 = 1 then ((rd en 64 v4).bind fun g139 => some (g139, y)) else if v3 = 2 then ((rd it 64 v4).bind fun g147 => some (g147, y)) else if v3 = 3 then ((rd mx 64 v4).bind fun g155 => some (g155, y)) else (if v3 = 4 then (some (i, y)) else (some ((-1), y)))) P) → Ok o2 P)
    (hen : Ok (rd en 64 v4) (fun r => r.toInt = N_en s b)) (hit : Ok (rd it 64 v4) (fun r => r.toInt = N_it s b)) (hmx : Ok (rd mx 64 v4) (fun r => r.toInt = (N_mx s b : Int))) :
    T2 (fun r q => q.1 = r ∧ Inv X q.2) (if v3 = 0 then ((Nm_m_lives L nm v2).bind fun g67 => if g67 = true then (some 1) else (some 0)) else if v3 = 1 then ((rd (Nm_endedBy nm) L v2).bind fun g85 => some g85) else if v3 = 2 then ((rd (Nm_into nm) L v2).bind fun g93 => some g93) else if v3 = 3 then ((rd (Nm_size nm) L v2).bind fun g101 => some g101) else if v3 = 4 then ((Nm_m_heir L nm v2).bind fun g106 => some g106) else (some (-1))) o2 := by
  have hNL := hN.1
  obtain ⟨r1, r2, r3, r4, r5, r6⟩ := hN.2.2.1
  have two : ∀ {o1 : Option Int32} {E : Int}, Ok o1 (fun r => r.toInt = E) → Ok o2 (fun q => q.1.toInt = E ∧ q.2 = y) → T2 (fun r q => q.1 = r ∧ Inv X q.2) o1 o2 := fun h1 h2 => T2_fin h1 h2 (fun a c ha hc => ⟨i32_ext (by rw [ha, hc.1]), by rw [hc.2]; exact hinv⟩)
  by_cases e0 : v3 = 0
  · refine T2_p1 e0 ?_
    by_cases hl : liv s b
    · refine two (E := 1) (Ok_tf (lives_ok hN hI.2.1) (fun _ => Ok_some i32_1) (fun z => absurd ⟨b, hb, hbN, hl⟩ z)) (hloop (fun i hi => ?_))
      rw [if_pos e0]
      exact Ok_eqv hen i32_m1 (fun _ => Ok_some ⟨i32_1, rfl⟩) (fun z => absurd ((hI.2.1 b hbN).mpr hl) z)
    · refine two (E := 0) (Ok_tf (lives_ok hN hI.2.1) (fun ⟨b2, z1, z2, z3⟩ => absurd ?_ hl) (fun _ => Ok_some i32_0)) (hloop (fun i hi => ?_))
      · have : b2 = b := by omega
        rw [← this]; exact z3
      · rw [if_pos e0]
        exact Ok_eqv hen i32_m1 (fun z => absurd ((hI.2.1 b hbN).mp z) hl) (fun _ => Ok_some ⟨i32_0, rfl⟩)
  · refine T2_n1 e0 ?_
    by_cases e1 : v3 = 1
    · refine T2_p1 e1 (two (E := N_en s b) (Ok_rdb hb (by omega) (Ok_some (r3 b hbN))) (hloop (fun i hi => ?_)))
      rw [if_neg e0, if_pos e1]
      exact Ok_then hen (fun g hg => Ok_some ⟨hg, rfl⟩)
    · refine T2_n1 e1 ?_
      by_cases e2 : v3 = 2
      · refine T2_p1 e2 (two (E := N_it s b) (Ok_rdb hb (by omega) (Ok_some (r4 b hbN))) (hloop (fun i hi => ?_)))
        rw [if_neg e0, if_neg e1, if_pos e2]
        exact Ok_then hit (fun g hg => Ok_some ⟨hg, rfl⟩)
      · refine T2_n1 e2 ?_
        by_cases e3 : v3 = 3
        · refine T2_p1 e3 (two (E := (N_mx s b : Int)) (Ok_rdb hb (by omega) (Ok_some (r5 b hbN))) (hloop (fun i hi => ?_)))
          rw [if_neg e0, if_neg e1, if_neg e2, if_pos e3]
          exact Ok_then hmx (fun g hg => Ok_some ⟨hg, rfl⟩)
        · refine T2_n1 e3 ?_
          by_cases e4 : v3 = 4
          · refine T2_p1 e4 (two (E := (N_of s b : Int)) (Ok_then (heir_ok hN hI hb hbN) (fun g hg => Ok_some hg)) (hloop (fun i hi => ?_)))
            rw [if_neg e0, if_neg e1, if_neg e2, if_neg e3, if_pos e4]
            exact Ok_some ⟨hi, rfl⟩
          · refine T2_n1 e4 (two (E := -1) (Ok_some i32_m1) (hloop (fun i hi => ?_)))
            rw [if_neg e0, if_neg e1, if_neg e2, if_neg e3, if_neg e4]
            exact Ok_some ⟨i32_m1, rfl⟩
theorem Rd_prt (h : Rd n m fa fb M x) (h1 : (Md_partRun y).toInt = (m : Int)) (h2 : PN fa fb m y) (h3 : Fp x y) : Rd n m fa fb M y := by
  have e := h3.1
  obtain ⟨⟨r1, r2, r3, r4, r5⟩, hs⟩ := h
  refine ⟨⟨by rw [e.1]; exact r1, by rw [e.2.1]; exact r2, by rw [e.2.2.2.1, e.2.2.2.2.1]; exact r3, ?_, Or.inr ⟨m, Nat.le_refl m, h1, h2⟩⟩, e.2.2.1.trans hs⟩
  rcases r4 with z | ⟨r, hr, z⟩
  · exact Or.inl (by rw [e.2.2.2.2.2]; exact z)
  · exact Or.inr ⟨r, hr, Fp_run h3 z⟩
theorem pc_story : PC_story Inv := by
  intro X M ⟨n, m, fa, fb, hv, hc, hr, hd⟩ v1 v2 v3
  apply pcQ
  have hT : Rd n m fa fb M (Md_set_told M 0) := Rd_told hr
  have hn := hv.2.1
  have hm := hv.2.2.1
  have hV := hv.2.2.2.1
  obtain ⟨w1, wF, wE, wT, wB, wL, wP⟩ := hc.1.1
  have hin := isInt_ok (x := Md_set_told M 0) (w := v1) i64_0 i64_1
  have hB := isNodeR_ok (x := Md_set_told M 0) (w := v2) hr.1
  have hno : T2 (fun (r : Int32) (q : Int32 × MdS) => q.1 = r ∧ Inv X q.2) (some (-1)) (some (-1, Md_set_told M 0)) := T2_some ⟨rfl, Inv_of hv hc hd hT⟩
  unfold SB_m_story Md_m_story
  by_cases k0 : v1 = 0
  · refine T2_p1 k0 (T2_n2 (by rw [k0]; decide) (T2_t2 hin (by rw [k0]; decide) ?_))
    unfold SB_m_story_0
    by_cases h1 : v2.toInt < 0
    · exact T2_p1 (by rw [i32_lt, i32_0]; exact h1) (T2_f2 hB (by omega) hno)
    · refine T2_n1 (by rw [i32_lt, i32_0]; exact h1) ?_
      by_cases h2 : v2.toInt < n
      · refine T2_p1 (by rw [i32_lt, wB.2.2.1.1]; exact h2) (T2_t2 hB ⟨by omega, h2⟩ (T2_b2 (runsAll_ok hv hT) (fun g hg => ?_)))
        have hb : v2.toInt = (v2.toInt.toNat : Int) := by omega
        have hbn : v2.toInt.toNat < n := by omega
        generalize v2.toInt.toNat = b at *
        have hy := Rt_y hg
        have k0' : v1.toInt = ((0 : Nat) : Int) := by rw [k0]; rfl
        have off := fun (i : Int32) (c : Nat) (hi : i.toInt = (c : Int)) (hcn : c < n) => off_ok (kd := 0) k0' (by omega) hi (by omega)
        refine story_core (en := Md_endedBy g) (it := Md_into g) (mx := Md_most g) (v4 := 32 * v1 + v2) wB (NI_B hV) hb hbn (Inv_of hv hc hd (Rt_d hg)) (fun hfin => ?_) ?_ ?_ ?_
        · refine heirLoop (w := fun i => 32 * v1 + i) (NI_B (n := n) (k := m) hV) (by omega) (fun i => rfl) (fun i c hi hcn => ?_) hb hbn hfin
          exact Ok_rd1 (off i c hi hcn) (by omega) (hy.2.2.2.1 c hcn).2.2.1
        · exact Ok_rd1 (off v2 b hb hbn) (by omega) (hy.2.2.2.1 b hbn).2.1
        · exact Ok_rd1 (off v2 b hb hbn) (by omega) (hy.2.2.2.1 b hbn).2.2.1
        · exact Ok_rd1 (off v2 b hb hbn) (by omega) (hy.2.2.2.1 b hbn).2.2.2
      · exact T2_n1 (by rw [i32_lt, wB.2.2.1.1]; exact h2) (T2_f2 hB (by omega) hno)
  · refine T2_n1 k0 ?_
    by_cases k1 : v1 = 1
    · refine T2_p1 k1 (T2_n2 (by rw [k1]; decide) (T2_t2 hin (by rw [k1]; decide) ?_))
      unfold SB_m_story_1
      by_cases h1 : v2.toInt < 0
      · exact T2_p1 (by rw [i32_lt, i32_0]; exact h1) (T2_f2 hB (by omega) hno)
      · refine T2_n1 (by rw [i32_lt, i32_0]; exact h1) ?_
        by_cases h2 : v2.toInt < n
        · refine T2_p1 (by rw [i32_lt, wL.2.2.1.1]; exact h2) (T2_t2 hB ⟨by omega, h2⟩ (T2_b2 (runsAll_ok hv hT) (fun g hg => ?_)))
          have hb : v2.toInt = (v2.toInt.toNat : Int) := by omega
          have hbn : v2.toInt.toNat < n := by omega
          generalize v2.toInt.toNat = b at *
          have hy := Rt_y hg
          have k1' : v1.toInt = ((1 : Nat) : Int) := by rw [k1]; rfl
          have off := fun (i : Int32) (c : Nat) (hi : i.toInt = (c : Int)) (hcn : c < n) => off_ok (kd := 1) k1' (by omega) hi (by omega)
          refine story_core (en := Md_endedBy g) (it := Md_into g) (mx := Md_most g) (v4 := 32 * v1 + v2) wL (NI_L hV) hb hbn (Inv_of hv hc hd (Rt_d hg)) (fun hfin => ?_) ?_ ?_ ?_
          · refine heirLoop (w := fun i => 32 * v1 + i) (NI_L (n := n) (k := m) hV) (by omega) (fun i => rfl) (fun i c hi hcn => ?_) hb hbn hfin
            exact Ok_rd1 (off i c hi hcn) (by omega) (hy.2.2.2.2.1 c hcn).2.2.1
          · exact Ok_rd1 (off v2 b hb hbn) (by omega) (hy.2.2.2.2.1 b hbn).2.1
          · exact Ok_rd1 (off v2 b hb hbn) (by omega) (hy.2.2.2.2.1 b hbn).2.2.1
          · exact Ok_rd1 (off v2 b hb hbn) (by omega) (hy.2.2.2.2.1 b hbn).2.2.2
        · exact T2_n1 (by rw [i32_lt, wL.2.2.1.1]; exact h2) (T2_f2 hB (by omega) hno)
    · refine T2_n1 k1 ?_
      by_cases k2 : v1 = 2
      · refine T2_p1 k2 (T2_p2 k2 ?_)
        have eta : ∀ o : Option (Int32 × MdS), (o.bind fun g13 => some (g13.1, g13.2)) = o := fun o => by cases o <;> rfl
        rw [eta]
        unfold SB_m_story_2 Md_m_storyOfPart
        have hL := isLinkR_ok (x := Md_set_told M 0) (w := v2) hr.2.1
        by_cases h1 : v2.toInt < 0
        · exact T2_p1 (by rw [i32_lt, i32_0]; exact h1) (T2_f2 hL (by omega) hno)
        · refine T2_n1 (by rw [i32_lt, i32_0]; exact h1) ?_
          by_cases h2 : v2.toInt < m
          · refine T2_p1 (by rw [i32_lt, wP.2.2.1.1]; exact h2) (T2_t2 hL ⟨by omega, h2⟩ (T2_b2 (runsParts_ok hV hn hm hv.2.2.2.2 hT.1.2.2.1 hT.1.1 hT.1.2.1 hT.1.2.2.2.2) (fun g hg => ?_)))
            have hb : v2.toInt = (v2.toInt.toNat : Int) := by omega
            have hbn : v2.toInt.toNat < m := by omega
            generalize v2.toInt.toNat = b at *
            have hrd := Rd_prt hT hg.1 hg.2.1 hg.2.2
            have hNI := (hP_fresh (fa := fa) (fb := fb) (k := m)).1
            refine story_core (en := Md_partEnded g) (it := Md_partInto g) (mx := Md_partMost g) (v4 := v2) wP hNI hb hbn (Inv_of hv hc hd hrd) (fun hfin => ?_) ?_ ?_ ?_
            · refine heirLoop (w := fun i => i) hNI (by omega) (fun i => rfl) (fun i c hi hcn => ?_) hb hbn hfin
              exact Ok_rd1 hi (by omega) (hg.2.1 c hcn).2.2.1
            · exact Ok_rd1 hb (by omega) (hg.2.1 b hbn).2.1
            · exact Ok_rd1 hb (by omega) (hg.2.1 b hbn).2.2.1
            · exact Ok_rd1 hb (by omega) (hg.2.1 b hbn).2.2.2
          · exact T2_n1 (by rw [i32_lt, wP.2.2.1.1]; exact h2) (T2_f2 hL (by omega) hno)
      · refine T2_n1 k2 (T2_n2 k2 (T2_f2 hin (fun z => ?_) hno))
        have h0 : v1.toInt ≠ 0 := fun e => k0 (i32_ext (by rw [e]; rfl))
        have h1 : v1.toInt ≠ 1 := fun e => k1 (i32_ext (by rw [e]; rfl))
        omega
/-- the part of a number -/
theorem part_ex {Q : Nat → Prop} {p : Nat} (h : p < cnt Q m) : ∃ a, a < m ∧ Q a ∧ cnt Q a = p := by
  induction m with
  | zero => exact absurd h (Nat.not_lt_zero p)
  | succ m ih =>
    by_cases q : Q m
    · rw [cnt_t q] at h
      by_cases e : p = cnt Q m
      · exact ⟨m, Nat.lt_succ_self m, q, e.symm⟩
      · obtain ⟨a, h1, h2⟩ := ih (by omega)
        exact ⟨a, by omega, h2⟩
    · rw [cnt_f q] at h
      obtain ⟨a, h1, h2⟩ := ih h
      exact ⟨a, by omega, h2⟩
theorem part_uq {Q : Nat → Prop} {a c : Nat} (ha : Q a) (hc : Q c) (h : cnt Q a = cnt Q c) : a = c := by
  have key : ∀ {a c : Nat}, Q a → a < c → cnt Q a < cnt Q c := fun {a c} ha hac => by
    have h1 := cnt_mono (P := Q) (show a + 1 ≤ c from hac)
    rw [cnt_t ha] at h1
    omega
  rcases Nat.lt_trichotomy a c with z | z | z
  · have := key ha z; omega
  · exact z
  · have := key hc z; omega
theorem pc_part : PC_part Inv := by
  intro X M ⟨n, m, fa, fb, hv, hc, hr, hd⟩ v1 v2
  apply pcQ
  have hT : Rd n m fa fb M (Md_set_told M 0) := Rd_told hr
  have hn := hv.2.1
  have hm := hv.2.2.1
  have hV := hv.2.2.2.1
  unfold SB_m_part Md_m_part
  refine T2_b2 (runsAll_ok hv hT) (fun g0 hg0 => T2_b2 (lays_ok hv hg0) (fun g hgl => ?_))
  have hg := hgl.1
  have hp := hgl.2
  have hy := Rt_y hg
  have hrd := Rt_d hg
  have hinv := Inv_of hv hc hd hrd
  have hin := isInt_ok (x := g) (w := v1) i64_0 (i64_w1 (Md_parts g))
  have hcF : cnt (Fst fa fb m) m = cnt (fun l => lp fa fb m l = l) m := cnt_congr (fun l hl => Fst_lp hl)
  have hno : T2 (fun (r : Int32) (q : Int32 × MdS) => q.1 = r ∧ Inv X q.2) (some (-1)) (some (-1, g)) := T2_some ⟨rfl, hinv⟩
  have hpc := hc.2.2.2.1
  rw [hp.2] at hin
  by_cases h1 : v1.toInt < 0
  · exact T2_p1 (by rw [i32_lt, i32_0]; exact h1) (T2_f2 hin (by omega) hno)
  · refine T2_n1 (by rw [i32_lt, i32_0]; exact h1) ?_
    by_cases h2 : v1.toInt < (cnt (Fst fa fb m) m : Int)
    · refine T2_p1 (by rw [i32_lt, hpc]; exact h2) (T2_t2 hin (by rw [← hcF]; omega) ?_)
      have hb : v1.toInt = (v1.toInt.toNat : Int) := by omega
      have hbp : v1.toInt.toNat < cnt (Fst fa fb m) m := by omega
      have hcm := cnt_le (P := Fst fa fb m) (n := m)
      generalize v1.toInt.toNat = p at *
      obtain ⟨a, ha, hFa, hca⟩ := part_ex hbp
      have hla : lp fa fb m a = a := (Fst_lp ha).mp hFa
      have hbk := hc.2.2.2.2.1 a ha hFa
      rw [hca] at hbk
      have hpa := pnm_lt (fa := fa) (fb := fb) ha
      -- the reference finds it
      have find : ∀ {fin : Int32 → Option (Int32 × MdS)} {P : Int32 × MdS → Prop}, (∀ i, Md_m_part_s34 g v1 v2 i = ((rd (Md_partOf g) 64 i).bind fun g39 => if g39 = i then ((Md_m_partNumber g i).bind fun g46 => if g46 = v1 then omap (fin i) else (Md_m_part_j53 g v1 v2 i)) else (Md_m_part_j53 g v1 v2 i))) → (∀ i : Int32, i.toInt = (a : Int) → Ok (fin i) P) → Ok (iter (fun q : Int32 => Md_m_part_s34 g v1 v2 q) FU 0) P := by
        intro fin P hst hfin
        refine Ok_upto (fun j i => i.toInt = (j : Int)) (e := a) (by omega) i32_0 ?_ ?_
        · intro j i hj hi
          show Ok (Md_m_part_s34 g v1 v2 i) _
          rw [hst]
          have next : Ok (Md_m_part_j53 g v1 v2 i) (LR (fun i : Int32 => i.toInt = ((j + 1 : Nat) : Int)) P) := Ok_some (nx_s hi (by omega))
          refine Ok_eqr hi (by omega) (hp.1 j (by omega)) hi (fun e => Ok_eqv (partNumber_ok hm hp hi (show j < m by omega)) hb (fun e2 => ?_) (fun _ => next)) (fun _ => next)
          exfalso
          have e' : lp fa fb m j = j := Int.natCast_inj.mp e
          rw [e'] at e2
          have e3 : cnt (Fst fa fb m) j = p := by
            rw [cnt_congr (fun l hl => Fst_lp (show l < m by omega))]
            exact Int.natCast_inj.mp e2
          have := part_uq ((Fst_lp (show j < m by omega)).mpr e') hFa (e3.trans hca.symm)
          omega
        · intro i hi
          show Ok (Md_m_part_s34 g v1 v2 i) _
          rw [hst]
          refine Ok_eqr hi (by omega) (hp.1 a ha) hi (fun e => Ok_eqv (partNumber_ok hm hp hi ha) hb (fun e2 => Ok_omap (hfin i hi)) (fun z => absurd ?_ z)) (fun z => absurd (by rw [hla]) z)
          rw [hla, ← hca, cnt_congr (fun l hl => Fst_lp (show l < m by omega))]
      have two : ∀ {o1 : Option Int32} {E : Int}, Ok o1 (fun r => r.toInt = E) → Ok (iter (fun q : Int32 => Md_m_part_s34 g v1 v2 q) FU 0) (fun q => q.1.toInt = E ∧ q.2 = g) → T2 (fun r q => q.1 = r ∧ Inv X q.2) o1 (iter (fun q : Int32 => Md_m_part_s34 g v1 v2 q) FU 0) := fun h1 h2 => T2_fin h1 h2 (fun a c ha hc => ⟨i32_ext (by rw [ha, hc.1]), by rw [hc.2]; exact hinv⟩)
      have hsame : ∀ l, l < m → (pnm fa fb m l = pnm fa fb m a ↔ lp fa fb m l = a) := by
        intro l hl
        have e : lp fa fb m l = a ↔ pe fa fb m l = pe fa fb m a := by rw [← lp_iff hl ha, hla]
        exact (prt_same hl ha).trans e.symm
      by_cases e0 : v2 = 0
      · refine T2_p1 e0 (two (E := (cnt (fun l => lp fa fb m l = a) m : Int)) (Ok_rdb hb (by omega) (Ok_rdb hbk.1 (by omega) (Ok_some ?_))) (find (fun i => rfl) (fun i hi => ?_)))
        · have hNI := (hP_fresh (fa := fa) (fb := fb) (k := m)).1
          have hroot := (hNI.1 a ha).2
          rw [hc.1.1.2.2.2.2.2.2.2.2.1.2.2.2.2.1 _ hpa]
          show ((N_mx (hP fa fb m) (N_of (hP fa fb m) a) : Nat) : Int) = _
          have h9 : N_mx (hP fa fb m) (N_of (hP fa fb m) a) = _ := (hNI.2.2.1 _ hpa hroot).1
          rw [h9, cntN_cnt]
          exact congrArg (fun z : Nat => (z : Int)) (cnt_congr (fun l hl => hsame l hl))
        · rw [if_neg (by rw [e0]; decide), if_neg (by rw [e0]; decide), if_pos e0]
          refine Ok_cntx (N := m) (Q := fun l => lp fa fb m l = a) (fin := fun c => some (c, g)) (by omega) hy.2.1 (fun c i => rfl) (fun j c i2 hj hi2 => ?_) (fun c hcc => Ok_some ⟨hcc, rfl⟩)
          exact Ok_eqr hi2 (by omega) (hp.1 j hj) hi (fun e => Cs_t (Int.natCast_inj.mp e)) (fun e => Cs_f (fun z => e (by rw [z])))
      · refine T2_n1 e0 ?_
        by_cases e1 : v2 = 1
        · refine T2_p1 e1 (two (E := (cnt (fun v => ∃ l, l < m ∧ lp fa fb m l = a ∧ atN fa fb l v) n : Int)) (Ok_rdb hb (by omega) (Ok_then (nodesAtC_ok hc.2.2 hn hbk.1 (by omega)) (fun g2 hg2 => Ok_some ?_))) (find (fun i => rfl) (fun i hi => ?_)))
          · rw [hg2]
            refine congrArg (fun z : Nat => (z : Int)) (cnt_congr (fun v hvn => ⟨fun ⟨l, hl, h3, h4⟩ => ⟨l, hl, (hsame l hl).mp h4, h3⟩, fun ⟨l, hl, h3, h4⟩ => ⟨l, hl, h4, (hsame l hl).mpr h3⟩⟩))
          · rw [if_neg (by rw [e1]; decide), if_pos e1]
            refine Ok_then (nodesOfPart_ok hV hn hm hy.2.1 hy.2.2.1 hp hi) (fun g2 hg2 => Ok_then (count_ok (x := g)) (fun g3 hg3 => Ok_some ⟨?_, rfl⟩))
            show g3.toInt = _
            rw [hg3, cnt_congr hg2]
            refine congrArg (fun z : Nat => (z : Int)) (cnt_cut hn (fun j hj _ ⟨l, hl, _, z⟩ => ?_))
            have := hV l hl
            rcases z with z | z
            · omega
            · omega
        · refine T2_n1 e1 ?_
          by_cases e2 : v2 = 2
          · refine T2_p1 e2 (two (E := (a : Int)) (Ok_rdb hb (by omega) (Ok_some hbk.2)) (find (fun i => rfl) (fun i hi => ?_)))
            rw [if_pos e2]
            exact Ok_some ⟨hi, rfl⟩
          · refine T2_n1 e2 (two (E := -1) (Ok_some i32_m1) (find (fun i => rfl) (fun i hi => ?_)))
            rw [if_neg e2, if_neg e1, if_neg e0]
            exact Ok_some ⟨i32_m1, rfl⟩
    · refine T2_n1 (by rw [i32_lt, hpc]; exact h2) (T2_f2 hin (by rw [← hcF]; omega) hno)
end K6
