/-! REFERENCE 5: a link comes -/
def RefK (n : Nat) (fa fb : Nat → Nat) (k : Nat) (x : MdS) : Prop :=
  RN n (32 * 0) (hB n fa fb k) (Md_nameOf x) (Md_endedBy x) (Md_into x) (Md_most x) ∧ RN n (32 * 1) (hL n fa fb k) (Md_nameOf x) (Md_endedBy x) (Md_into x) (Md_most x) ∧ ParOK n fa fb k x ∧ ∀ l, l < k → (Md_closedBy x l).toInt = hC fa fb k l
/-- what the replay leaves as it is -/
def Fr (x y : MdS) : Prop := Md_n y = Md_n x ∧ Md_m y = Md_m x ∧ Md_state y = Md_state x ∧ Md_first y = Md_first x ∧ Md_second y = Md_second x ∧ Md_partRun y = Md_partRun x ∧ Md_partName y = Md_partName x ∧ Md_partEnded y = Md_partEnded x ∧ Md_partInto y = Md_partInto x ∧ Md_partMost y = Md_partMost x ∧ Md_run y = Md_run x
def LatR (n k : Nat) (fa fb : Nat → Nat) (x : MdS) : Prop :=
  (TL fa fb k → (Md_turned x).toInt = 1 + ((fw fa fb (qb fa fb k) k (tE n fa fb k) (hR n fa fb k (tE n fa fb k))).length : Int) ∧ (Md_became x).toInt = 1) ∧
  (¬ TL fa fb k → (Md_turned x).toInt = 0 ∧ (Md_became x).toInt = ((fw fa fb (qb fa fb k) k (fa k) (fb k)).length : Int) + 1) ∧
  (Md_firstName x).toInt = (bnm n fa fb k (fa k) : Int) ∧ (Md_secondName x).toInt = (bnm n fa fb k (fb k) : Int)
section R5
variable {fa fb : Nat → Nat} {n k u v b c t y r a d e o T K : Nat} {x z : MdS} {L M : List (Nat × Nat)}
theorem Fr_refl : Fr x x := ⟨rfl, rfl, rfl, rfl, rfl, rfl, rfl, rfl, rfl, rfl, rfl⟩
theorem Fr_trans {y : MdS} (h1 : Fr x y) (h2 : Fr y z) : Fr x z := by
  obtain ⟨a1, a2, a3, a4, a5, a6, a7, a8, a9, a10, a11⟩ := h1
  obtain ⟨b1, b2, b3, b4, b5, b6, b7, b8, b9, b10, b11⟩ := h2
  exact ⟨b1.trans a1, b2.trans a2, b3.trans a3, b4.trans a4, b5.trans a5, b6.trans a6, b7.trans a7, b8.trans a8, b9.trans a9, b10.trans a10, b11.trans a11⟩
theorem Fr_U4 {no en it mx : Nat → Int32} : Fr x (U4 x no en it mx) := ⟨rfl, rfl, rfl, rfl, rfl, rfl, rfl, rfl, rfl, rfl, rfl⟩
theorem Fr_T3 {p q : Nat → Int32} {t : Int32} : Fr x (T3 x p q t) := ⟨rfl, rfl, rfl, rfl, rfl, rfl, rfl, rfl, rfl, rfl, rfl⟩
theorem Fr_cb {p : Nat → Int32} : Fr x (Md_set_closedBy x p) := ⟨rfl, rfl, rfl, rfl, rfl, rfl, rfl, rfl, rfl, rfl, rfl⟩
theorem Fr_pu {p q : Nat → Int32} : Fr x (Md_set_up (Md_set_parent x p) q) := ⟨rfl, rfl, rfl, rfl, rfl, rfl, rfl, rfl, rfl, rfl, rfl⟩
/-- the latest's four numbers -/
def Lq (x : MdS) : Int32 × Int32 × Int32 × Int32 := (Md_turned x, Md_became x, Md_firstName x, Md_secondName x)
theorem Lq_U4 {no en it mx : Nat → Int32} : Lq (U4 x no en it mx) = Lq x := rfl
theorem Lq_cb {p : Nat → Int32} : Lq (Md_set_closedBy x p) = Lq x := rfl
theorem Lq_pu {p q : Nat → Int32} : Lq (Md_set_up (Md_set_parent x p) q) = Lq x := rfl
theorem RN_far {n : Nat} {s : NSt} {kd kd2 : Nat} {no en it mx no2 en2 it2 mx2 : Nat → Int32} (hn : n ≤ 32) (hne : kd ≠ kd2) (h : RN n (32 * kd2) s no en it mx) (hfar : ∀ i, (i < 32 * kd ∨ 32 * kd + n ≤ i) → no2 i = no i ∧ en2 i = en i ∧ it2 i = it i ∧ mx2 i = mx i) : RN n (32 * kd2) s no2 en2 it2 mx2 := by
  intro j hj
  have := hfar (32 * kd2 + j) (by omega)
  rw [this.1, this.2.1, this.2.2.1, this.2.2.2]
  exact h j hj
theorem shrink2 (hV : Vd fa fb n (k + 1)) (hn : n ≤ 32) (hk : k < 64) (hc : ld fa fb k (fa k) = ld fa fb k (fb k)) (hnm : (Md_n x).toInt = (n : Int)) (hTp : isTop n fa fb k (rgS n fa fb k) T)
    (hR0 : RN n (32 * 0) (hB n fa fb k) (Md_nameOf x) (Md_endedBy x) (Md_into x) (Md_most x)) (hR1 : RN n (32 * 1) (hL n fa fb k) (Md_nameOf x) (Md_endedBy x) (Md_into x) (Md_most x)) (hP : ParOK n fa fb k x)
    (hC0 : ∀ l, l < k → (Md_closedBy x l).toInt = hC fa fb k l) (hCk : (Md_closedBy x k).toInt = (k : Int)) {v1 v2 v3 : Int32} (h1 : ∀ j, j < 32 → (bt v1 j = true ↔ j ∈ rgS n fa fb k)) (h2 : v2.toInt = (k : Int)) (h3 : v3.toInt = (T : Int)) :
    Ok (iter (fun p : MdS × Int32 => Md_m_shrinks_s55 v1 v2 v3 p.1 p.2) FU (x, 0)) (fun q => RefK n fa fb (k + 1) q ∧ Fr x q ∧ Lq q = Lq x) := by
  have hV' : Vd fa fb n k := Vd_le hV (Nat.le_succ k)
  obtain ⟨K, hkp, hK, hKm, hKn⟩ := hB_close hV hc
  obtain ⟨tf1, tf2, tf3⟩ := top_facts hV hc hTp
  obtain ⟨hTn, hTl, -⟩ := rgS_node hV hc hTp.1
  have hI := NI_B (n := n) (k := k) hV'
  have hupS : ∀ c, c ∈ rgS n fa fb k → c ≠ T → ∃ t, t < k ∧ (bup n fa fb k c).2 = (t : Int) ∧ t ∈ lks (pa fa fb k (fa k) (fb k)) ∧ qb fa fb k t = true := by
    intro c hcm hcT
    obtain ⟨t, y, M, e1, e2, e3⟩ := tf1 c hcm hcT
    refine ⟨t, pa_red.2 t e2, ?_, e2, e3⟩
    unfold bup; rw [e1]; rfl
  refine Ok_for n (fun j y => ∃ cb, y = Md_set_closedBy x cb ∧ (cb k).toInt = (k : Int) ∧ ∀ l, l < k → ((∃ c, c < j ∧ c ∈ rgS n fa fb k ∧ c ≠ T ∧ (bup n fa fb k c).2 = (l : Int)) → (cb l).toInt = (k : Int)) ∧ (¬ (∃ c, c < j ∧ c ∈ rgS n fa fb k ∧ c ≠ T ∧ (bup n fa fb k c).2 = (l : Int)) → (cb l).toInt = hC fa fb k l)) (by omega) i32_0 ⟨Md_closedBy x, rfl, hCk, fun l hl => ⟨fun ⟨c, h, _⟩ => absurd h (Nat.not_lt_zero c), fun _ => hC0 l hl⟩⟩ ?_ ?_
  · intro j y i hj hi ⟨cb, hy, hck, hcb⟩
    subst hy
    dsimp only [Md_m_shrinks_s55]
    refine Ok_ite (fun q => by rw [i32_le] at q; have q2 : (Md_n x).toInt ≤ i.toInt := q; omega) (fun _ => ?_)
    refine Ok_eqb (has_ok hi (by omega)) ?_
    have hb1 := h1 j (by omega)
    have skip : ¬ (j ∈ rgS n fa fb k ∧ j ≠ T) → Ok (some (Sum.inl (Md_set_closedBy x cb, i + 1)) : Option ((MdS × Int32) ⊕ MdS)) (LR (fun p => p.2.toInt = ((j + 1 : Nat) : Int) ∧ ∃ cb, p.1 = Md_set_closedBy x cb ∧ (cb k).toInt = (k : Int) ∧ ∀ l, l < k → ((∃ c, c < j + 1 ∧ c ∈ rgS n fa fb k ∧ c ≠ T ∧ (bup n fa fb k c).2 = (l : Int)) → (cb l).toInt = (k : Int)) ∧ (¬ (∃ c, c < j + 1 ∧ c ∈ rgS n fa fb k ∧ c ≠ T ∧ (bup n fa fb k c).2 = (l : Int)) → (cb l).toInt = hC fa fb k l)) (fun q => RefK n fa fb (k + 1) q ∧ Fr x q ∧ Lq q = Lq x)) := by
      intro hno
      refine Ok_some ⟨nx_s hi (by omega), cb, rfl, hck, fun l hl => ?_⟩
      have := hcb l hl
      refine ⟨fun ⟨c, q1, q2, q3, q4⟩ => this.1 ⟨c, ?_, q2, q3, q4⟩, fun q => this.2 (fun ⟨c, q1, q2⟩ => q ⟨c, by omega, q2⟩)⟩
      have : c ≠ j := fun z => hno (z ▸ ⟨q2, q3⟩)
      omega
    refine Ok_ite (fun hS => Ok_ite (fun q => ?_) (fun q => ?_)) (fun hS => skip (fun z => hS (hb1.mpr z.1)))
    · rw [i32_eq] at q
      exact skip (fun z => z.2 (by omega))
    · have hjT : j ≠ T := fun z => q (i32_ext (by omega))
      have hjS := hb1.mp hS
      have hjn := rgS_node hV hc hjS
      obtain ⟨t, t1, t2, t3, t4⟩ := hupS j hjS hjT
      have hup : (Md_up x j).toInt = (t : Int) := (hP j hjn.1 hjn.2.1).2.trans t2
      refine Ok_rdb hi (by omega) (Ok_wrb hup (by omega) (Ok_some ⟨nx_s hi (by omega), va_up cb t v2, rfl, ?_, fun l hl => ?_⟩))
      · rw [vu_n (by omega)]; exact hck
      · have hl2 := hcb l hl
        by_cases e : l = t
        · rw [e, vu_s]
          exact ⟨fun _ => h2, fun z => absurd ⟨j, by omega, hjS, hjT, t2⟩ z⟩
        · rw [vu_n e]
          refine ⟨fun ⟨c, q1, q2, q3, q4⟩ => hl2.1 ⟨c, ?_, q2, q3, q4⟩, fun q => hl2.2 (fun ⟨c, q1, q2⟩ => q ⟨c, by omega, q2⟩)⟩
          have : c ≠ j := fun z => by
            rw [z, t2] at q4
            omega
          omega
  · intro y i hi ⟨cb, hy, hck, hcb⟩
    subst hy
    dsimp only [Md_m_shrinks_s55]
    refine Ok_ite (fun _ => ?_) (fun q => by rw [i32_le] at q; exact absurd (show (Md_n x).toInt ≤ i.toInt by omega) q)
    refine Ok_omap (Ok_rdb h3 (by omega) (Ok_rdb h3 (by omega) ?_))
    have hcl : ∀ l, l < k + 1 → (cb l).toInt = hC fa fb (k + 1) l := by
      intro l hl
      by_cases e : l = k
      · rw [e, hck, hC_s, if_pos hc, if_pos rfl]
      · have hlk : l < k := by omega
        rw [hC_close hc hlk]
        have h5 := hcb l hlk
        by_cases q : l ∈ lks (pa fa fb k (fa k) (fb k)) ∧ qb fa fb k l = true
        · rw [if_pos q]
          obtain ⟨c, y, M, q1, q2, q3⟩ := tf3 l q.1 q.2
          refine h5.1 ⟨c, (rgS_node hV hc q1).1, q1, q2, ?_⟩
          unfold bup; rw [q3]; rfl
        · rw [if_neg q]
          refine h5.2 (fun ⟨c, _, q1, q2, q3⟩ => q ?_)
          obtain ⟨t, t1, t2, t3, t4⟩ := hupS c q1 q2
          have : t = l := by omega
          rw [← this]; exact ⟨t3, t4⟩
    refine Ok_then (unites_ok (n := n) (kd := 0) (l := k) (S := sB fa fb (hB n fa fb k) k) (x := Md_set_closedBy x cb) hnm hn i32_0 (by omega) h2 hR0 hI (fun j hj => ?_) (fun b hb hS => ?_) hkp) (fun g119 h119 => ?_)
    · have := h1 j (by omega)
      rw [← sB_rgS hV hc] at this
      cases hq : bt v1 j with
      | true => exact (this.mp hq).symm
      | false =>
        cases hq2 : sB fa fb (hB n fa fb k) k j with
        | false => rfl
        | true => rw [this.mpr hq2] at hq; cases hq
    · exact (rgS_node hV hc ((sB_rgS hV hc).mp hS)).2.1
    · obtain ⟨g1, g2⟩ := g119
      obtain ⟨hg1, no, en, it, mx, hg2, hRN, hfar⟩ := h119
      dsimp only at hg1 hg2
      subst hg2
      refine Ok_mono (shrink3 (T := T) (K := K) (x := U4 (Md_set_closedBy x cb) no en it mx) hV hn hc hnm hK hKm hTp hP h1 rfl rfl hg1) (fun q hq => ?_)
      obtain ⟨pp, uu, hq, hqP⟩ := hq
      subst hq
      refine ⟨⟨?_, ?_, hqP, hcl⟩, Fr_trans (Fr_trans Fr_cb Fr_U4) Fr_pu, Lq_pu.trans (Lq_U4.trans Lq_cb)⟩
      · rw [hK]; exact hRN
      · rw [hL_s, if_pos hc]
        exact RN_far hn (by omega) hR1 hfar
theorem shrinks_ok (hV : Vd fa fb n (k + 1)) (hn : n ≤ 32) (hk : k < 64) (hc : ld fa fb k (fa k) = ld fa fb k (fb k)) (hnm : (Md_n x).toInt = (n : Int))
    (hR0 : RN n (32 * 0) (hB n fa fb k) (Md_nameOf x) (Md_endedBy x) (Md_into x) (Md_most x)) (hR1 : RN n (32 * 1) (hL n fa fb k) (Md_nameOf x) (Md_endedBy x) (Md_into x) (Md_most x)) (hP : ParOK n fa fb k x)
    (hC0 : ∀ l, l < k → (Md_closedBy x l).toInt = hC fa fb k l) (hCk : (Md_closedBy x k).toInt = (k : Int)) {v1 v2 : Int32} (h1 : ∀ j, j < 32 → (bt v1 j = true ↔ j ∈ rgS n fa fb k)) (h2 : v2.toInt = (k : Int)) :
    Ok (Md_m_shrinks x v1 v2) (fun q => RefK n fa fb (k + 1) q ∧ Fr x q ∧ Lq q = Lq x) := by
  have hV' : Vd fa fb n k := Vd_le hV (Nat.le_succ k)
  unfold Md_m_shrinks
  refine Ok_for n (fun j (v3 : Int32) => (v3.toInt = -1 ∧ ∀ c, c < j → c ∉ rgS n fa fb k) ∨ ∃ T : Nat, v3.toInt = (T : Int) ∧ T ∈ rgS n fa fb k ∧ ∀ c, c < j → c ∈ rgS n fa fb k → (chn n fa fb k T).length ≤ (chn n fa fb k c).length) (by omega) i32_0 (Or.inl ⟨i32_m1, fun c hc => absurd hc (Nat.not_lt_zero c)⟩) ?_ ?_
  · intro j v3 v4 hj h4 hI
    dsimp only [Md_m_shrinks_s5]
    refine Ok_ite (fun q => by rw [i32_le] at q; omega) (fun _ => ?_)
    refine Ok_eqb (has_ok h4 (by omega)) ?_
    have hb1 := h1 j (by omega)
    refine Ok_ite (fun hS => ?_) (fun hS => ?_)
    · have hjS := hb1.mp hS
      have hjn := rgS_node hV hc hjS
      rcases hI with ⟨e, hno⟩ | ⟨T, e, hTm, hmin⟩
      · refine Ok_ite (fun _ => ?_) (fun q => absurd (i32_ext (by rw [e, i32_m1])) q)
        refine Ok_some ⟨nx_s h4 (by omega), Or.inr ⟨j, h4, hjS, fun c hcj hcS => ?_⟩⟩
        by_cases ec : c = j
        · rw [ec]; exact Nat.le_refl _
        · exact absurd hcS (hno c (by omega))
      · have hTn := rgS_node hV hc hTm
        refine Ok_ite (fun q => by rw [i32_eq, e, i32_m1] at q; omega) (fun _ => ?_)
        refine Ok_then (deepR_ok hV' hn hP h4 hjn.1 hjn.2.1) (fun g32 h32 => Ok_then (deepR_ok hV' hn hP e hTn.1 hTn.2.1) (fun g37 h37 => ?_))
        refine Ok_ite (fun q => ?_) (fun q => ?_)
        · rw [i32_le, h32, h37] at q
          refine Ok_some ⟨nx_s h4 (by omega), Or.inr ⟨T, e, hTm, fun c hcj hcS => ?_⟩⟩
          by_cases ec : c = j
          · rw [ec]; omega
          · exact hmin c (by omega) hcS
        · rw [i32_le, h32, h37] at q
          refine Ok_some ⟨nx_s h4 (by omega), Or.inr ⟨j, h4, hjS, fun c hcj hcS => ?_⟩⟩
          by_cases ec : c = j
          · rw [ec]; exact Nat.le_refl _
          · have := hmin c (by omega) hcS
            omega
    · have hjS : j ∉ rgS n fa fb k := fun z => hS (hb1.mpr z)
      refine Ok_some ⟨nx_s h4 (by omega), ?_⟩
      rcases hI with ⟨e, hno⟩ | ⟨T, e, hTm, hmin⟩
      · refine Or.inl ⟨e, fun c hcj => ?_⟩
        by_cases ec : c = j
        · rw [ec]; exact hjS
        · exact hno c (by omega)
      · refine Or.inr ⟨T, e, hTm, fun c hcj hcS => ?_⟩
        by_cases ec : c = j
        · rw [ec] at hcS; exact absurd hcS hjS
        · exact hmin c (by omega) hcS
  · intro v3 v4 h4 hI
    dsimp only [Md_m_shrinks_s5]
    refine Ok_ite (fun _ => ?_) (fun q => by rw [i32_le] at q; omega)
    rcases hI with ⟨e, hno⟩ | ⟨T, e, hTm, hmin⟩
    · have ha : bnm n fa fb k (fa k) ∈ rgS n fa fb k := List.mem_cons_self
      exact absurd ha (hno _ (rgS_node hV hc ha).1)
    · exact Ok_omap (shrink2 hV hn hk hc hnm ⟨hTm, fun c hcS => hmin c (rgS_node hV hc hcS).1 hcS⟩ hR0 hR1 hP hC0 hCk h1 h2 e)
end R5
