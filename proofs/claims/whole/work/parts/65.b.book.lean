/-! CLASS 15: PartBook: small questions -/
section W65b
variable {fa fb : Nat → Nat} {n m k u v b l t : Nat} {x : PbS}
theorem z64 {x : Int64} : x = 0 ↔ ∀ j, j < 64 → bt64 x j = false := by
  constructor
  · intro h j _; rw [h]; exact bt64_0 j
  · intro h
    refine wb_inj (BitVec.eq_of_getLsbD_eq fun i hi => ?_)
    have := h i hi
    unfold bt64 at this
    rw [this]
    exact (bt64_0 i).symm
theorem bookAt_cnt (hp : PbOK n m fa fb x) (hm : m ≤ 64) (hv : v < n) : cnt (fun j => bt64 (Pb_at x v) j = true) 64 = pcn fa fb m (fun l => atN fa fb l v) := by
  rw [← pcn_pnm hm]
  exact cnt_congr (fun q hq => hp.2.2.2.2.1 v q hv hq)
/-- links at a node that are no bridges, by parts -/
theorem bookIn_iff (hV : Vd fa fb n m) (hp : PbOK n m fa fb x) {q : Nat} (hq : q < 64) {R : Nat → Prop} {B : Prop} (hB : B ↔ ∃ l, l < m ∧ R l ∧ pnm fa fb m l = q) : (B ∧ bt64 (Pb_onRings x) q = true) ↔ ∃ l, l < m ∧ (R l ∧ ¬ brg fa fb m l) ∧ pnm fa fb m l = q := by
  rw [hB, hp.2.2.2.2.2 q hq]
  constructor
  · intro ⟨⟨a, ha, hR, e⟩, c, hc, hb, e2⟩
    refine ⟨a, ha, ⟨hR, fun z => ?_⟩, e⟩
    have := brg_alone z hc ((prt_same ha hc).mp (show pnm fa fb m a = pnm fa fb m c by rw [e, e2]))
    rw [← this] at z
    exact hb z
  · intro ⟨a, ha, ⟨hR, hb⟩, e⟩
    exact ⟨⟨a, ha, hR, e⟩, a, ha, hb, e⟩
theorem bookRing_cnt (hV : Vd fa fb n m) (hp : PbOK n m fa fb x) (hm : m ≤ 64) (hv : v < n) : cnt (fun j => bt64 (Pb_at x v &&& Pb_onRings x) j = true) 64 = pcn fa fb m (atR n fa fb m 1 v) := by
  rw [← pcn_pnm hm]
  refine cnt_congr (fun q hq => ?_)
  rw [bt64_and, Bool.and_eq_true, bookIn_iff hV hp hq (hp.2.2.2.2.1 v q hv hq)]
  constructor
  · intro ⟨l, hl, ⟨h1, h2⟩, e⟩
    exact ⟨l, hl, ⟨h1, fun _ => (blk_link hV hl).mp h2⟩, e⟩
  · intro ⟨l, hl, ⟨h1, h2⟩, e⟩
    exact ⟨l, hl, ⟨h1, (blk_link hV hl).mpr (h2 (by decide))⟩, e⟩
theorem isCutC_ok {w : Int32} (hp : PbOK n m fa fb x) (hn : n ≤ 32) (hm : m ≤ 64) (hw : w.toInt = (v : Int)) (hv : v < n) : Ok (Pb_m_isCut x w) (fun r => r = true ↔ cutN fa fb m v) := by
  unfold Pb_m_isCut
  refine Ok_rdb hw (by omega) (Ok_then (bitCount_ok _) (fun g hg => ?_))
  rw [bookAt_cnt hp hm hv] at hg
  unfold cutN
  exact Ok_ile hg i32_1 (fun e => Ok_some ⟨fun z => absurd z Bool.false_ne_true, fun z => by omega⟩) (fun e => Ok_some ⟨fun _ => by omega, fun _ => rfl⟩)
theorem shareC_ok {w1 w2 : Int32} (hV : Vd fa fb n m) (hp : PbOK n m fa fb x) (hn : n ≤ 32) (hm : m ≤ 64) (h1 : w1.toInt = (u : Int)) (hu : u < n) (h2 : w2.toInt = (v : Int)) (hv : v < n) : Ok (Pb_m_shareRing x w1 w2) (fun r => r = true ↔ dsf fa fb m u v) := by
  have key : ((Pb_at x u &&& Pb_at x v) &&& Pb_onRings x) = 0 ↔ ¬ dsf fa fb m u v := by
    rw [z64]
    constructor
    · intro h ⟨a, c, ha, hc, hau, hcv, e, hnb⟩
      have hq : pnm fa fb m a < 64 := by have := pnm_lt (fa := fa) (fb := fb) ha; omega
      have := h _ hq
      rw [bt64_and, bt64_and, (hp.2.2.2.2.1 u _ hu hq).mpr ⟨a, ha, hau, rfl⟩, (hp.2.2.2.2.1 v _ hv hq).mpr ⟨c, hc, hcv, (prt_same hc ha).mpr e.symm⟩, (hp.2.2.2.2.2 _ hq).mpr ⟨a, ha, hnb, rfl⟩] at this
      exact absurd this (by decide)
    · intro h j hj
      refine Bool.eq_false_iff.mpr (fun z => h ?_)
      rw [bt64_and, bt64_and, Bool.and_eq_true, Bool.and_eq_true] at z
      obtain ⟨a, ha, hau, e1⟩ := (hp.2.2.2.2.1 u j hu hj).mp z.1.1
      obtain ⟨c, hc, hcv, e2⟩ := (hp.2.2.2.2.1 v j hv hj).mp z.1.2
      obtain ⟨d, hd, hnb, e3⟩ := (hp.2.2.2.2.2 j hj).mp z.2
      refine ⟨a, c, ha, hc, hau, hcv, (prt_same ha hc).mp (show pnm fa fb m a = pnm fa fb m c by rw [e1, e2]), fun z2 => ?_⟩
      have := brg_alone z2 hd ((prt_same ha hd).mp (show pnm fa fb m a = pnm fa fb m d by rw [e1, e3]))
      rw [← this] at z2
      exact hnb z2
  unfold Pb_m_shareRing
  refine Ok_rdb h1 (by omega) (Ok_rdb h2 (by omega) (Ok_ite (fun q => ?_) (fun q => ?_)))
  · exact Ok_some ⟨fun z => absurd z Bool.false_ne_true, fun z => absurd z (key.mp (lg_eq.mp q))⟩
  · exact Ok_some ⟨fun _ => Classical.byContradiction (fun z => q (lg_eq.mpr (key.mpr z))), fun _ => rfl⟩
theorem allCutsC_ok (hp : PbOK n m fa fb x) (hn : n ≤ 32) (hm : m ≤ 64) : Ok (Pb_m_allCuts x) (fun r => r.toInt = (cnt (fun v => cutN fa fb m v) n : Int)) := by
  unfold Pb_m_allCuts
  refine Ok_cntw (N := n) (Q := fun v => cutN fa fb m v) (by omega) hp.1 (fun c i => rfl) (fun j c i hj hi => ?_)
  exact Ok_tf (isCutC_ok hp hn hm hi hj) (fun q => Cs_t q) (fun q => Cs_f q)
theorem cutsOfC_ok {w : Int32} {M : Nat} {nm : NmS} {s : NSt} (hp : PbOK n m fa fb x) (hn : n ≤ 32) (hm : m ≤ 64) (hN : NmOK M n s nm) (hw : w.toInt = (b : Int)) : Ok (Pb_m_cutsOf x M nm w) (fun r => r.toInt = (cnt (fun v => N_of s v = b ∧ cutN fa fb m v) n : Int)) := by
  unfold Pb_m_cutsOf
  have hNL := hN.1
  refine Ok_cntw (N := n) (Q := fun v => N_of s v = b ∧ cutN fa fb m v) (by omega) hp.1 (fun c i => rfl) (fun j c i hj hi => ?_)
  exact Ok_eqr hi (by omega) (hN.2.2.1.2.1 j hj) hw (fun e => Ok_tf (isCutC_ok hp hn hm hi hj) (fun q => Cs_t ⟨Int.natCast_inj.mp e, q⟩) (fun q => Cs_f (fun z => q z.2))) (fun e => Cs_f (fun z => e (by rw [z.1])))
theorem cutsWithinC_ok {w : Int32} {M : Nat} {nm : NmS} {s : NSt} (hV : Vd fa fb n m) (hp : PbOK n m fa fb x) (hn : n ≤ 32) (hm : m ≤ 64) (hN : NmOK M n s nm) (hw : w.toInt = (b : Int)) : Ok (Pb_m_cutsWithin x M nm w) (fun r => r.toInt = (cnt (fun v => N_of s v = b ∧ 1 < pcn fa fb m (atR n fa fb m 1 v)) n : Int)) := by
  unfold Pb_m_cutsWithin
  have hNL := hN.1
  refine Ok_cntw (N := n) (Q := fun v => N_of s v = b ∧ 1 < pcn fa fb m (atR n fa fb m 1 v)) (by omega) hp.1 (fun c i => rfl) (fun j c i hj hi => ?_)
  refine Ok_eqr hi (by omega) (hN.2.2.1.2.1 j hj) hw (fun e => Ok_rdb hi (by omega) (Ok_then (bitCount_ok _) (fun g hg => ?_))) (fun e => Cs_f (fun z => e (by rw [z.1])))
  rw [bookRing_cnt hV hp hm hj] at hg
  exact Ok_ile hg i32_1 (fun e => Cs_f (fun z => by omega)) (fun e2 => Cs_t ⟨Int.natCast_inj.mp e, by omega⟩)
theorem allAtC_ok {w : Int32} {M : Nat} {nm : NmS} {s : NSt} (hp : PbOK n m fa fb x) (hn : n ≤ 32) (hN : NmOK M n s nm) (hw : w.toInt = (b : Int)) : Ok (Pb_m_allAt x M nm w) (fun r => ∀ q, q < 64 → (bt64 r q = true ↔ ∃ l, l < m ∧ (∃ v, v < n ∧ N_of s v = b ∧ atN fa fb l v) ∧ pnm fa fb m l = q)) := by
  unfold Pb_m_allAt
  have hNL := hN.1
  have hpn := hp.1
  refine Ok_for n (fun j a => ∀ q, q < 64 → (bt64 a q = true ↔ ∃ l, l < m ∧ (∃ v, v < j ∧ N_of s v = b ∧ atN fa fb l v) ∧ pnm fa fb m l = q)) (by omega) i32_0 (fun q _ => by rw [bt64_0]; exact ⟨fun z => absurd z Bool.false_ne_true, fun ⟨l, _, ⟨v, hv, _⟩, _⟩ => absurd hv (Nat.not_lt_zero v)⟩) ?_ ?_
  · intro j a i hj hi hI
    dsimp only [Pb_m_allAt_s5]
    refine Ok_ite (fun q => by rw [i32_le] at q; omega) (fun _ => Ok_eqr hi (by omega) (hN.2.2.1.2.1 j hj) hw (fun e => Ok_rdb hi (by omega) (Ok_some ⟨nx_s hi (by omega), fun q hq => ?_⟩)) (fun e => Ok_some ⟨nx_s hi (by omega), fun q hq => ?_⟩))
    · show bt64 (a ||| Pb_at x j) q = true ↔ _
      rw [bt64_or, Bool.or_eq_true, hI q hq, hp.2.2.2.2.1 j q hj hq]
      constructor
      · intro z
        rcases z with ⟨l, hl, ⟨v, hv, z⟩, e3⟩ | ⟨l, hl, z, e3⟩
        · exact ⟨l, hl, ⟨v, by omega, z⟩, e3⟩
        · exact ⟨l, hl, ⟨j, Nat.lt_succ_self j, Int.natCast_inj.mp e, z⟩, e3⟩
      · intro ⟨l, hl, ⟨v, hv, z1, z2⟩, e3⟩
        by_cases e4 : v = j
        · rw [e4] at z2; exact Or.inr ⟨l, hl, z2, e3⟩
        · exact Or.inl ⟨l, hl, ⟨v, by omega, z1, z2⟩, e3⟩
    · show bt64 a q = true ↔ _
      rw [hI q hq]
      constructor
      · intro ⟨l, hl, ⟨v, hv, z⟩, e3⟩
        exact ⟨l, hl, ⟨v, by omega, z⟩, e3⟩
      · intro ⟨l, hl, ⟨v, hv, z1, z2⟩, e3⟩
        have e4 : v ≠ j := fun e4 => e (by rw [← e4, z1])
        exact ⟨l, hl, ⟨v, by omega, z1, z2⟩, e3⟩
  · intro a i hi hI
    dsimp only [Pb_m_allAt_s5]
    exact Ok_ite (fun _ => Ok_omap (Ok_some hI)) (fun q => by rw [i32_le] at q; omega)
theorem nodesAtC_ok {w : Int32} {q : Nat} (hp : PbOK n m fa fb x) (hn : n ≤ 32) (hw : w.toInt = (q : Int)) (hq : q < 64) : Ok (Pb_m_nodesAt x w) (fun r => r.toInt = (cnt (fun v => ∃ l, l < m ∧ atN fa fb l v ∧ pnm fa fb m l = q) n : Int)) := by
  unfold Pb_m_nodesAt
  refine Ok_cntw (N := n) (Q := fun v => ∃ l, l < m ∧ atN fa fb l v ∧ pnm fa fb m l = q) (by omega) hp.1 (fun c i => rfl) (fun j c i hj hi => Ok_rdb hi (by omega) ?_)
  have e : w.toInt.toNat = q := by omega
  have hh := holds_ok (s := Pb_at x j) (v := w) (by omega) (by omega)
  rw [e] at hh
  exact Ok_eqb hh (Ok_ite (fun z => Cs_t ((hp.2.2.2.2.1 j q hj hq).mp z)) (fun z => Cs_f (fun z2 => z ((hp.2.2.2.2.1 j q hj hq).mpr z2))))
end W65b
