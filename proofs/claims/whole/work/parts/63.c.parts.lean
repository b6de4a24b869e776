/-! REFERENCE 28: questions about the parts that lie -/
/-- how many parts have a link of a kind -/
noncomputable def pcn (fa fb : Nat → Nat) (m : Nat) (R : Nat → Prop) : Nat := cnt (fun l => R l ∧ ∀ j, j < l → R j → ¬ pe fa fb m j = pe fa fb m l) m
section R28
variable {fa fb : Nat → Nat} {n k m u v b c l t p off kd : Nat} {x y : MdS} {R : Nat → Prop}
theorem pcn_lp : cnt (fun p => ∃ l, l < m ∧ R l ∧ lp fa fb m l = p) m = pcn fa fb m R := rep_cnt (fun l hl => (lp_ok hl).2.1) (fun a b ha hb => lp_iff ha hb)
theorem pcn_pnm {M : Nat} (hM : m ≤ M) : cnt (fun p => ∃ l, l < m ∧ R l ∧ pnm fa fb m l = p) M = pcn fa fb m R := rep_cnt (fun l hl => Nat.lt_of_lt_of_le (pnm_lt hl) hM) (fun a b ha hb => prt_same ha hb)
theorem pcn_congr {R2 : Nat → Prop} (h : ∀ l, l < m → (R l ↔ R2 l)) : pcn fa fb m R = pcn fa fb m R2 := by
  refine cnt_congr (fun l hl => ?_)
  rw [h l hl]
  constructor
  · intro ⟨h1, h2⟩
    exact ⟨h1, fun j hj hr => h2 j hj ((h j (by omega)).mpr hr)⟩
  · intro ⟨h1, h2⟩
    exact ⟨h1, fun j hj hr => h2 j hj ((h j (by omega)).mp hr)⟩
theorem partNumber_ok {w : Int32} (hm : m ≤ 64) (hp : PL fa fb m y) (hw : w.toInt = (l : Int)) (hl : l < m) : Ok (Md_m_partNumber y w) (fun r => r.toInt = (cnt (fun k => lp fa fb m k = k) (lp fa fb m l) : Int)) := by
  have h1 := (lp_ok (fa := fa) (fb := fb) hl).2.1
  unfold Md_m_partNumber
  refine Ok_cnt (lp fa fb m l) (fun k => lp fa fb m k = k) (by omega) i32_0 i32_0 ?_ ?_
  · intro j c i hj hi
    dsimp only [Md_m_partNumber_s4]
    refine Ok_rdb hw (by omega) (Ok_ile (hp.1 l hl) hi (fun q => by omega) (fun _ => ?_))
    exact Ok_eqr hi (by omega) (hp.1 j (by omega)) hi (fun e => Ok_some (Or.inl ⟨Int.natCast_inj.mp e, rfl⟩)) (fun e => Ok_some (Or.inr ⟨fun z => e (by rw [z]), rfl⟩))
  · intro c i hi hc
    dsimp only [Md_m_partNumber_s4]
    exact Ok_rdb hw (by omega) (Ok_ile (hp.1 l hl) hi (fun _ => Ok_omap (Ok_some hc)) (fun q => by omega))
/-- the links at a node that count -/
def atR (n : Nat) (fa fb : Nat → Nat) (m : Nat) (w : Int) (v l : Nat) : Prop := atN fa fb l v ∧ (w ≠ 0 → bnm n fa fb m (fa l) = bnm n fa fb m (fb l))
theorem partsAt_ok {w w2 : Int32} (hV : Vd fa fb n m) (hn : n ≤ 32) (hm : m ≤ 64) (h : RY n m fa fb y) (hp : PL fa fb m y) (hw : w.toInt = (v : Int)) : Ok (Md_m_partsAt y w w2) (fun r => r.toInt = (pcn fa fb m (atR n fa fb m w2.toInt v) : Int)) := by
  unfold Md_m_partsAt
  rw [← pcn_lp]
  refine Ok_cntw (N := m) (Q := fun p => ∃ l, l < m ∧ atR n fa fb m w2.toInt v l ∧ lp fa fb m l = p) (by omega) h.2.1 (fun c i => rfl) (fun p c i hpm hi => ?_)
  refine Ok_for (ρ := (Int32 × Int32) ⊕ Int32) m (fun j f => (f = 0 ∧ ¬ ∃ l, l < j ∧ atR n fa fb m w2.toInt v l ∧ lp fa fb m l = p) ∨ (f = 1 ∧ ∃ l, l < j ∧ atR n fa fb m w2.toInt v l ∧ lp fa fb m l = p)) (by omega) i32_0 (Or.inl ⟨rfl, fun ⟨l, hl, _⟩ => absurd hl (Nat.not_lt_zero l)⟩) ?_ ?_
  · intro j f i2 hj hi2 hI
    dsimp only [Md_m_partsAt_s20]
    have hf := h.2.2.1 j hj
    have hm' := h.2.1
    have yes : atR n fa fb m w2.toInt v j ∧ lp fa fb m j = p → Ok (some (Sum.inl (1, i2 + 1)) : Option ((Int32 × Int32) ⊕ ((Int32 × Int32) ⊕ Int32))) (LR (fun q => q.2.toInt = ((j + 1 : Nat) : Int) ∧ ((q.1 = 0 ∧ ¬ ∃ l, l < j + 1 ∧ atR n fa fb m w2.toInt v l ∧ lp fa fb m l = p) ∨ (q.1 = 1 ∧ ∃ l, l < j + 1 ∧ atR n fa fb m w2.toInt v l ∧ lp fa fb m l = p))) (Cs (∃ l, l < m ∧ atR n fa fb m w2.toInt v l ∧ lp fa fb m l = p) c i)) :=
      fun z => Ok_some ⟨nx_s hi2 (by omega), Or.inr ⟨rfl, j, Nat.lt_succ_self j, z⟩⟩
    have no : (¬ ∃ l, l < j ∧ atR n fa fb m w2.toInt v l ∧ lp fa fb m l = p) → ¬ (atR n fa fb m w2.toInt v j ∧ lp fa fb m j = p) → Ok (some (Sum.inl (0, i2 + 1)) : Option ((Int32 × Int32) ⊕ ((Int32 × Int32) ⊕ Int32))) (LR (fun q => q.2.toInt = ((j + 1 : Nat) : Int) ∧ ((q.1 = 0 ∧ ¬ ∃ l, l < j + 1 ∧ atR n fa fb m w2.toInt v l ∧ lp fa fb m l = p) ∨ (q.1 = 1 ∧ ∃ l, l < j + 1 ∧ atR n fa fb m w2.toInt v l ∧ lp fa fb m l = p))) (Cs (∃ l, l < m ∧ atR n fa fb m w2.toInt v l ∧ lp fa fb m l = p) c i)) := by
      intro z1 z2
      refine Ok_some ⟨nx_s hi2 (by omega), Or.inl ⟨rfl, fun ⟨l, hl, z⟩ => ?_⟩⟩
      by_cases e : l = j
      · rw [e] at z; exact z2 z
      · exact z1 ⟨l, by omega, z⟩
    refine Ok_ite (fun q => by rw [i32_le] at q; omega) (fun _ => ?_)
    rcases hI with ⟨e, hI⟩ | ⟨e, hI⟩
    · subst e
      refine Ok_ite (fun _ => ?_) (fun q => absurd rfl q)
      refine Ok_eqr hi2 (by omega) (hp.1 j hj) hi (fun e => ?_) (fun e => no hI (fun z => e (by rw [z.2])))
      have e' : lp fa fb m j = p := Int.natCast_inj.mp e
      have key : atN fa fb j v → Ok (Md_m_partsAt_j68 y w w2 c i i2) (LR (fun q => q.2.toInt = ((j + 1 : Nat) : Int) ∧ ((q.1 = 0 ∧ ¬ ∃ l, l < j + 1 ∧ atR n fa fb m w2.toInt v l ∧ lp fa fb m l = p) ∨ (q.1 = 1 ∧ ∃ l, l < j + 1 ∧ atR n fa fb m w2.toInt v l ∧ lp fa fb m l = p))) (Cs (∃ l, l < m ∧ atR n fa fb m w2.toInt v l ∧ lp fa fb m l = p) c i)) := by
        intro ha
        unfold Md_m_partsAt_j68
        refine Ok_ieq rfl i32_0 (fun q => yes ⟨⟨ha, fun z => absurd q z⟩, e'⟩) (fun q => ?_)
        refine Ok_rdb hi2 (by omega) (Ok_then (ry_ba h hn hf.1 (hV j hj).1) (fun g hg => Ok_rdb hi2 (by omega) (Ok_then (ry_ba h hn hf.2 (hV j hj).2) (fun g2 hg2 => Ok_ieq hg hg2 (fun z => yes ⟨⟨ha, fun _ => Int.natCast_inj.mp z⟩, e'⟩) (fun z => no hI (fun z2 => z (by rw [z2.1.2 q])))))))
      refine Ok_eqr hi2 (by omega) hf.1 hw (fun e2 => key (Or.inl (by omega))) (fun e2 => Ok_eqr hi2 (by omega) hf.2 hw (fun e3 => key (Or.inr (by omega))) (fun e3 => no hI (fun z => ?_)))
      rcases z.1.1 with z | z
      · exact e2 (by rw [z])
      · exact e3 (by rw [z])
    · subst e
      refine Ok_ite (fun q => absurd q (by decide)) (fun _ => Ok_some ⟨nx_s hi2 (by omega), Or.inr ⟨rfl, ?_⟩⟩)
      obtain ⟨l, hl, z⟩ := hI
      exact ⟨l, by omega, z⟩
  · intro f i2 hi2 hI
    dsimp only [Md_m_partsAt_s20]
    have hm' := h.2.1
    refine Ok_ite (fun _ => Ok_omap ?_) (fun q => by rw [i32_le] at q; omega)
    rcases hI with ⟨e, hI⟩ | ⟨e, hI⟩
    · subst e
      exact Ok_ite (fun _ => Cs_f hI) (fun q => absurd rfl q)
    · subst e
      exact Ok_ite (fun q => absurd q (by decide)) (fun _ => Cs_t hI)
/-- a cut -/
noncomputable def cutN (fa fb : Nat → Nat) (m v : Nat) : Prop := 1 < pcn fa fb m (fun l => atN fa fb l v)
theorem atR_0 {w : Int} (hw : w = 0) : pcn fa fb m (atR n fa fb m w v) = pcn fa fb m (fun l => atN fa fb l v) := pcn_congr (fun l _ => ⟨fun z => z.1, fun z => ⟨z, fun z2 => absurd hw z2⟩⟩)
theorem isCutR_ok {w : Int32} (hV : Vd fa fb n m) (hn : n ≤ 32) (hm : m ≤ 64) (h : RY n m fa fb y) (hp : PL fa fb m y) (hw : w.toInt = (v : Int)) : Ok (Md_m_isCut y w) (fun r => r = true ↔ cutN fa fb m v) := by
  unfold Md_m_isCut
  refine Ok_then (partsAt_ok hV hn hm h hp hw) (fun g hg => ?_)
  rw [atR_0 i32_0] at hg
  unfold cutN
  refine Ok_ile hg i32_1 (fun e => Ok_some ⟨fun z => absurd z Bool.false_ne_true, fun z => by omega⟩) (fun e => Ok_some ⟨fun _ => by omega, fun _ => rfl⟩)
theorem cutsOfR_ok {w : Int32} (hV : Vd fa fb n m) (hn : n ≤ 32) (hm : m ≤ 64) (h : RY n m fa fb y) (hp : PL fa fb m y) (hw : w.toInt = (b : Int)) : Ok (Md_m_cutsOf y w) (fun r => r.toInt = (cnt (fun v => lnm n fa fb m v = b ∧ cutN fa fb m v) n : Int)) := by
  unfold Md_m_cutsOf
  refine Ok_cntw (N := n) (Q := fun v => lnm n fa fb m v = b ∧ cutN fa fb m v) (by omega) h.1 (fun c i => rfl) (fun j c i hj hi => ?_)
  exact Ok_eqv (ry_la h hn hi hj) hw (fun e => Ok_tf (isCutR_ok hV hn hm h hp hi) (fun q => Cs_t ⟨by omega, q⟩) (fun q => Cs_f (fun z => q z.2))) (fun e => Cs_f (fun z => e (by rw [z.1])))
theorem cutsR_ok (hV : Vd fa fb n m) (hn : n ≤ 32) (hm : m ≤ 64) (h : RY n m fa fb y) (hp : PL fa fb m y) : Ok (Md_m_cuts y) (fun r => r.toInt = (cnt (fun v => cutN fa fb m v) n : Int)) := by
  unfold Md_m_cuts
  refine Ok_cntw (N := n) (Q := fun v => cutN fa fb m v) (by omega) h.1 (fun c i => rfl) (fun j c i hj hi => ?_)
  exact Ok_tf (isCutR_ok hV hn hm h hp hi) (fun q => Cs_t q) (fun q => Cs_f q)
theorem cutsInR_ok {w : Int32} (hV : Vd fa fb n m) (hn : n ≤ 32) (hm : m ≤ 64) (h : RY n m fa fb y) (hp : PL fa fb m y) (hw : w.toInt = (b : Int)) : Ok (Md_m_cutsIn y w) (fun r => r.toInt = (cnt (fun v => bnm n fa fb m v = b ∧ 1 < pcn fa fb m (atR n fa fb m 1 v)) n : Int)) := by
  unfold Md_m_cutsIn
  refine Ok_cntw (N := n) (Q := fun v => bnm n fa fb m v = b ∧ 1 < pcn fa fb m (atR n fa fb m 1 v)) (by omega) h.1 (fun c i => rfl) (fun j c i hj hi => ?_)
  refine Ok_eqv (ry_ba h hn hi hj) hw (fun e => Ok_then (partsAt_ok hV hn hm h hp hi) (fun g hg => ?_)) (fun e => Cs_f (fun z => e (by rw [z.1])))
  rw [i32_1] at hg
  exact Ok_ile hg i32_1 (fun e => Cs_f (fun z => by omega)) (fun e2 => Cs_t ⟨by omega, by omega⟩)
theorem partsIn_ok {w w2 : Int32} (hV : Vd fa fb n m) (hn : n ≤ 32) (hm : m ≤ 64) (h : RY n m fa fb y) (hp : PL fa fb m y) (h1 : w.toInt = (kd : Int)) (hkd : kd ≤ 1) (h2 : w2.toInt = (b : Int)) {f : Nat → Nat} (hf : ∀ j, j < n → (Md_nameOf y (32 * kd + j)).toInt = (f j : Int)) :
    Ok (Md_m_partsIn y w w2) (fun r => r.toInt = (cnt (fun p => lp fa fb m p = p ∧ f (fa p) = b ∧ f (fb p) = b) m : Int)) := by
  unfold Md_m_partsIn
  refine Ok_cntw (N := m) (Q := fun p => lp fa fb m p = p ∧ f (fa p) = b ∧ f (fb p) = b) (by omega) h.2.1 (fun c i => rfl) (fun j c i hj hi => ?_)
  have hfj := h.2.2.1 j hj
  have hv := hV j hj
  refine Ok_eqr hi (by omega) (hp.1 j hj) hi (fun e => ?_) (fun e => Cs_f (fun z => e (by rw [z.1])))
  refine Ok_rdb hi (by omega) (Ok_eqr (off_ok h1 hkd hfj.1 (by omega)) (by omega) (hf _ hv.1) h2 (fun e2 => ?_) (fun e2 => Cs_f (fun z => e2 (by rw [z.2.1]))))
  exact Ok_rdb hi (by omega) (Ok_eqr (off_ok h1 hkd hfj.2 (by omega)) (by omega) (hf _ hv.2) h2 (fun e3 => Cs_t ⟨by omega, by omega, by omega⟩) (fun e3 => Cs_f (fun z => e3 (by rw [z.2.2]))))
theorem nodesOfPart_ok {w : Int32} (hV : Vd fa fb n m) (hn : n ≤ 32) (hm : m ≤ 64) (hmm : (Md_m y).toInt = (m : Int)) (hf : ∀ l, l < m → (Md_first y l).toInt = (fa l : Int) ∧ (Md_second y l).toInt = (fb l : Int)) (hp : PL fa fb m y) (hw : w.toInt = (p : Int)) : Ok (Md_m_nodesOfPart y w) (fun r => ∀ i, i < 32 → (bt r i = true ↔ ∃ l, l < m ∧ lp fa fb m l = p ∧ atN fa fb l i)) := by
  unfold Md_m_nodesOfPart
  refine Ok_for m (fun j s => ∀ i, i < 32 → (bt s i = true ↔ ∃ l, l < j ∧ lp fa fb m l = p ∧ atN fa fb l i)) (by omega) i32_0 (fun i _ => by rw [b_0]; exact ⟨fun z => absurd z Bool.false_ne_true, fun ⟨l, hl, _⟩ => absurd hl (Nat.not_lt_zero l)⟩) ?_ ?_
  · intro j s i hj hi hI
    dsimp only [Md_m_nodesOfPart_s4]
    have hfj := hf j hj
    have hv := hV j hj
    refine Ok_ite (fun q => by rw [i32_le] at q; omega) (fun _ => Ok_eqr hi (by omega) (hp.1 j hj) hw (fun e => ?_) (fun e => ?_))
    · refine Ok_rdb hi (by omega) (Ok_rdb hi (by omega) (Ok_some ⟨nx_s hi (by omega), fun q hq => ?_⟩))
      rw [bt_or2 hfj.1 (by omega) hfj.2 (by omega) hq, hI q hq]
      constructor
      · intro z
        rcases z with ⟨l, hl, z⟩ | z
        · exact ⟨l, by omega, z⟩
        · exact ⟨j, Nat.lt_succ_self j, Int.natCast_inj.mp e, z.imp Eq.symm Eq.symm⟩
      · intro ⟨l, hl, z1, z2⟩
        by_cases e2 : l = j
        · rw [e2] at z2; exact Or.inr (z2.imp Eq.symm Eq.symm)
        · exact Or.inl ⟨l, by omega, z1, z2⟩
    · refine Ok_some ⟨nx_s hi (by omega), fun q hq => ?_⟩
      rw [hI q hq]
      constructor
      · intro ⟨l, hl, z⟩
        exact ⟨l, by omega, z⟩
      · intro ⟨l, hl, z1, z2⟩
        by_cases e2 : l = j
        · rw [e2] at z1; exact absurd (by rw [z1]) e
        · exact ⟨l, by omega, z1, z2⟩
  · intro s i hi hI
    dsimp only [Md_m_nodesOfPart_s4]
    exact Ok_ite (fun _ => Ok_omap (Ok_some hI)) (fun q => by rw [i32_le] at q; omega)
/-- double-safe, by the parts that lie -/
theorem areSafe_ok {w1 w2 : Int32} (hV : Vd fa fb n m) (hn : n ≤ 32) (hm : m ≤ 64) (hmm : (Md_m y).toInt = (m : Int)) (hf : ∀ l, l < m → (Md_first y l).toInt = (fa l : Int) ∧ (Md_second y l).toInt = (fb l : Int)) (hC : ∀ l, l < m → (Md_closedBy y l).toInt = hC fa fb m l) (hp : PL fa fb m y) (h1 : w1.toInt = (u : Int)) (h2 : w2.toInt = (v : Int)) (hu : u < n) (hv : v < n) : Ok (Md_m_areSafe y w1 w2) (fun r => r = true ↔ dsf fa fb m u v) := by
  have dE : dsf fa fb m u v ↔ ∃ p, p < m ∧ lp fa fb m p = p ∧ ¬ brg fa fb m p ∧ (∃ l, l < m ∧ lp fa fb m l = p ∧ atN fa fb l u) ∧ ∃ l, l < m ∧ lp fa fb m l = p ∧ atN fa fb l v := by
    constructor
    · intro ⟨a, b, ha, hb, hau, hbv, hab, hnb⟩
      have hl := lp_ok (fa := fa) (fb := fb) ha
      refine ⟨lp fa fb m a, hl.2.1, lp_id ha, fun z => ?_, ⟨a, ha, rfl, hau⟩, ⟨b, hb, ((lp_iff ha hb).mpr hab).symm, hbv⟩⟩
      have := brg_alone z ha hl.2.2
      rw [← this] at z
      exact hnb z
    · intro ⟨p, hpm, hpp, hnb, ⟨a, ha, hap, hau⟩, b, hb, hbp, hbv⟩
      refine ⟨a, b, ha, hb, hau, hbv, (lp_iff ha hb).mp (by rw [hap, hbp]), fun z => ?_⟩
      have e1 : pe fa fb m a = pe fa fb m p := (lp_iff ha hpm).mp (by rw [hap, hpp])
      have := brg_alone z hpm e1
      rw [← this] at z
      exact hnb z
  rw [dE]
  unfold Md_m_areSafe
  refine Ok_for1 m (fun j => ¬ ∃ p, p < j ∧ lp fa fb m p = p ∧ ¬ brg fa fb m p ∧ (∃ l, l < m ∧ lp fa fb m l = p ∧ atN fa fb l u) ∧ ∃ l, l < m ∧ lp fa fb m l = p ∧ atN fa fb l v) (by omega) i32_0 (fun ⟨p, hp, _⟩ => absurd hp (Nat.not_lt_zero p)) ?_ ?_
  · intro j i hj hi hI
    dsimp only [Md_m_areSafe_s2]
    have no : ¬ (lp fa fb m j = j ∧ ¬ brg fa fb m j ∧ (∃ l, l < m ∧ lp fa fb m l = j ∧ atN fa fb l u) ∧ ∃ l, l < m ∧ lp fa fb m l = j ∧ atN fa fb l v) → Ok (some (Sum.inl (i + 1)) : Option (Int32 ⊕ Bool)) (LR (fun p => p.toInt = ((j + 1 : Nat) : Int) ∧ ¬ ∃ p, p < j + 1 ∧ lp fa fb m p = p ∧ ¬ brg fa fb m p ∧ (∃ l, l < m ∧ lp fa fb m l = p ∧ atN fa fb l u) ∧ ∃ l, l < m ∧ lp fa fb m l = p ∧ atN fa fb l v) (fun r => r = true ↔ ∃ p, p < m ∧ lp fa fb m p = p ∧ ¬ brg fa fb m p ∧ (∃ l, l < m ∧ lp fa fb m l = p ∧ atN fa fb l u) ∧ ∃ l, l < m ∧ lp fa fb m l = p ∧ atN fa fb l v)) := by
      intro hno
      refine Ok_some ⟨nx_s hi (by omega), fun ⟨p, hpj, z⟩ => ?_⟩
      by_cases e : p = j
      · rw [e] at z; exact hno z
      · exact hI ⟨p, by omega, z⟩
    refine Ok_ite (fun q => by rw [i32_le] at q; omega) (fun _ => Ok_eqr hi (by omega) (hp.1 j hj) hi (fun e => ?_) (fun e => no (fun z => e (by rw [z.1]))))
    refine Ok_tf (isBrR_ok hC hm hi hj) (fun q => no (fun z => z.2.1 q)) (fun q => Ok_then (nodesOfPart_ok hV hn hm hmm hf hp hi) (fun g hg => ?_))
    refine Ok_eqb (has_ok h1 (by omega)) (Ok_ite (fun q1 => ?_) (fun q1 => no (fun z => q1 ((hg u (by omega)).mpr z.2.2.1))))
    refine Ok_eqb (has_ok h2 (by omega)) (Ok_ite (fun q2 => ?_) (fun q2 => no (fun z => q2 ((hg v (by omega)).mpr z.2.2.2))))
    exact Ok_omap (Ok_some ⟨fun _ => ⟨j, hj, Int.natCast_inj.mp e, q, (hg u (by omega)).mp q1, (hg v (by omega)).mp q2⟩, fun _ => rfl⟩)
  · intro i hi hI
    dsimp only [Md_m_areSafe_s2]
    exact Ok_ite (fun _ => Ok_omap (Ok_some ⟨fun z => absurd z Bool.false_ne_true, fun z => absurd z hI⟩)) (fun q => by rw [i32_le] at q; omega)
end R28
