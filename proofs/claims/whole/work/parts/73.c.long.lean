/-! CLASS 17, REFERENCE 32: the longest way, the centre of a land -/
def ecc (n : Nat) (fa fb : Nat → Nat) (m B : Nat) : Int := mxF (aw n fa fb m B) n
def dI (fa fb : Nat → Nat) (m a b : Nat) : Int := ((fw fa fb (qb fa fb m) m a b).length : Int)
noncomputable def lgE (n : Nat) (fa fb : Nat → Nat) (m l : Nat) : Int := mxF (fun b => @ite _ (SL n fa fb m l b) (Classical.propDecidable _) (ecc n fa fb m b) 0) n
/-- the best pair of those that were looked at -/
def LgP (n : Nat) (fa fb : Nat → Nat) (m l : Nat) (J : Nat → Nat → Prop) (best one other : Int) : Prop :=
  (best = -1 ∧ ∀ a b, J a b → SL n fa fb m l a → SL n fa fb m l b → False) ∨ ∃ a b : Nat, one = (a : Int) ∧ other = (b : Int) ∧ SL n fa fb m l a ∧ SL n fa fb m l b ∧ a ≤ b ∧ best = dI fa fb m a b ∧ ∀ a2 b2, J a2 b2 → SL n fa fb m l a2 → SL n fa fb m l b2 → dI fa fb m a2 b2 ≤ best ∧ (dI fa fb m a2 b2 = best → a < a2 ∨ (a = a2 ∧ b ≤ b2))
/-- the first block of those that were looked at from which all is nearest -/
def MN (n : Nat) (fa fb : Nat → Nat) (m l j : Nat) (best : Int) : Prop :=
  (best = -1 ∧ ∀ i, i < j → ¬ SL n fa fb m l i) ∨ ∃ a : Nat, best = (a : Int) ∧ a < j ∧ SL n fa fb m l a ∧ ∀ i, i < j → SL n fa fb m l i → ecc n fa fb m a ≤ ecc n fa fb m i ∧ (ecc n fa fb m i = ecc n fa fb m a → a ≤ i)
section W74
variable {fa fb : Nat → Nat} {n k m r u v a b t l kd B j : Nat} {x : FoS} {nm : NmS} {y : MdS}
theorem SL_ld (hV : Vd fa fb n m) (ha : SL n fa fb m l a) (hb : SL n fa fb m l b) : ld fa fb m a = ld fa fb m b := (land_same hV ha.1 hb.1).mp (ha.2.2.trans hb.2.2.symm)
theorem aw_in (hV : Vd fa fb n m) (ha : SL n fa fb m l a) (hb : SL n fa fb m l b) : aw n fa fb m a b = dI fa fb m a b := if_pos ⟨liv_bnm hb.2.1, SL_ld hV hb ha⟩
theorem aw_out (hV : Vd fa fb n m) (ha : SL n fa fb m l a) (hbn : b < n) (hb : ¬ SL n fa fb m l b) : aw n fa fb m a b = -1 := if_neg (fun z => hb ⟨hbn, z.1, ((land_same hV hbn ha.1).mpr z.2).trans ha.2.2⟩)
theorem dI_symm (hV : Vd fa fb n m) (ha : SL n fa fb m l a) (hb : SL n fa fb m l b) : dI fa fb m a b = dI fa fb m b a := by
  unfold dI
  rw [fw_rev_len (SL_ld hV hb ha)]
theorem dI_lt (hV : Vd fa fb n m) (hn : n ≤ 32) (ha : SL n fa fb m l a) (hb : SL n fa fb m l b) : dI fa fb m a b < 32 := by
  have h1 := pa_len hV ha.1 (SL_ld hV ha hb)
  have h2 := fw_le (fa := fa) (fb := fb) (k := m) (u := a) (v := b)
  unfold dI
  omega
theorem ecc_lt (hV : Vd fa fb n m) (hn : n ≤ 32) (ha : SL n fa fb m l a) : ecc n fa fb m a < 32 := by
  have : ecc n fa fb m a ≤ 31 := mxF_le (by omega) (fun i hi => by
    by_cases q : SL n fa fb m l i
    · rw [aw_in hV ha q]
      have := dI_lt hV hn ha q
      omega
    · rw [aw_out hV ha hi q]; omega)
  omega
theorem ecc_ge : 0 ≤ ecc n fa fb m a := mxF_ge
theorem lg_facts (hV : Vd fa fb n m) {best one other : Int} (ha : SL n fa fb m l a) (hb : SL n fa fb m l b) (hab : a ≤ b) (hbest : best = dI fa fb m a b) (h : ∀ a2 b2, (a2 ≤ b2 ∧ b2 < n) → SL n fa fb m l a2 → SL n fa fb m l b2 → dI fa fb m a2 b2 ≤ best ∧ (dI fa fb m a2 b2 = best → a < a2 ∨ (a = a2 ∧ b ≤ b2))) :
    lgE n fa fb m l = best ∧ ecc n fa fb m a = best ∧ (∀ i, i < a → SL n fa fb m l i → ecc n fa fb m i ≠ best) ∧ (∀ i, i < b → aw n fa fb m a i ≠ best) ∧ 0 ≤ best := by
  have h0 : 0 ≤ best := by rw [hbest]; unfold dI; omega
  have hall : ∀ i c, SL n fa fb m l i → SL n fa fb m l c → dI fa fb m i c ≤ best := by
    intro i c hi hc
    by_cases q : i ≤ c
    · exact (h i c ⟨q, hc.1⟩ hi hc).1
    · rw [dI_symm hV hi hc]; exact (h c i ⟨by omega, hi.1⟩ hc hi).1
  have hecc : ∀ i, SL n fa fb m l i → ecc n fa fb m i ≤ best := fun i hi => mxF_le h0 (fun c hc => by
    by_cases q : SL n fa fb m l c
    · rw [aw_in hV hi q]; exact hall i c hi q
    · rw [aw_out hV hi hc q]; omega)
  have hea : ecc n fa fb m a = best := by
    have h1 := hecc a ha
    have h2 : aw n fa fb m a b ≤ ecc n fa fb m a := mxF_ub hb.1
    rw [aw_in hV ha hb, ← hbest] at h2
    omega
  refine ⟨?_, hea, fun i hi hSi e => ?_, fun i hi e => ?_, h0⟩
  · refine (mxF_uq (fun i hi => ?_) (Or.inr ⟨a, ha.1, ?_⟩) h0).symm
    · by_cases q : SL n fa fb m l i
      · rw [if_pos q]; exact hecc i q
      · rw [if_neg q]; exact h0
    · rw [if_pos ha]; exact hea
  · rcases mxF_at (f := aw n fa fb m i) (k := n) with z | ⟨c, hc, z⟩
    · have z' : ecc n fa fb m i = 0 := z
      have h1 := h i i ⟨Nat.le_refl i, hSi.1⟩ hSi hSi
      have h2 : dI fa fb m i i = 0 := by unfold dI; rw [fw_self]; rfl
      have := h1.2 (by rw [h2]; omega)
      omega
    · have z' : aw n fa fb m i c = ecc n fa fb m i := z
      by_cases q : SL n fa fb m l c
      · rw [aw_in hV hSi q] at z'
        by_cases q2 : i ≤ c
        · have := (h i c ⟨q2, hc⟩ hSi q).2 (by omega)
          omega
        · rw [dI_symm hV hSi q] at z'
          have := (h c i ⟨by omega, hSi.1⟩ q hSi).2 (by omega)
          omega
      · rw [aw_out hV hSi hc q] at z'
        omega
  · have hin : i < n := by have := hb.1; omega
    by_cases q : SL n fa fb m l i
    · rw [aw_in hV ha q] at e
      by_cases q2 : a ≤ i
      · have := (h a i ⟨q2, hin⟩ ha q).2 e
        omega
      · rw [dI_symm hV ha q] at e
        have := (h i a ⟨by omega, ha.1⟩ q ha).2 e
        omega
    · rw [aw_out hV ha hin q] at e
      omega
theorem MN_uq {c d : Int} (h1 : MN n fa fb m l j c) (h2 : MN n fa fb m l j d) : c = d := by
  rcases h1 with ⟨e1, h1⟩ | ⟨a, e1, ha, hs, h1⟩
  · rcases h2 with ⟨e2, h2⟩ | ⟨b, e2, hb, hs2, h2⟩
    · rw [e1, e2]
    · exact absurd hs2 (h1 b hb)
  · rcases h2 with ⟨e2, h2⟩ | ⟨b, e2, hb, hs2, h2⟩
    · exact absurd hs (h2 a ha)
    · have p1 := h1 b hb hs2
      have p2 := h2 a ha hs
      have p3 := p1.2 (by omega)
      have p4 := p2.2 (by omega)
      omega
/-! the class -/
theorem isBlockOfC_ok (hV : Vd fa fb n m) (hn : n ≤ 32) (hF : FoOK n fa fb m x) (hN : NmOK 32 n (hL n fa fb m) nm) {w w2 : Int32} (hw : w.toInt = (l : Int)) (h2 : w2.toInt = (b : Int)) (hb : b < n) : Ok (Fo_m_isBlockOf x 32 nm w w2) (fun r => r = true ↔ SL n fa fb m l b) := by
  have hFH := FH_f (k := m) hV hn
  have hbe : (Fo_below x b).toInt = (tot n fa fb m b : Int) := (hF.2.2.2 b hb).2.2.2.2.1
  have htot : 0 < tot n fa fb m b ↔ liv (hB n fa fb m) b := by
    constructor
    · intro h
      refine Classical.byContradiction (fun z => ?_)
      have : tot n fa fb m b = 0 := cnt_none (fun v hv q => z (by
        have bv := bnm_lt (k := m) hV hv
        exact (ch_ok hFH rfl bv.1 bv.2 b q).2.1))
      omega
    · intro h
      refine cnt_pos (P := fun v => b ∈ chn n fa fb m (bnm n fa fb m v)) hb ?_
      show b ∈ chn n fa fb m (bnm n fa fb m b)
      rw [liv_bnm h]
      exact ch_self hFH hb h
  unfold Fo_m_isBlockOf
  refine Ok_rdb h2 (by omega) (Ok_ile hbe i32_0 (fun q => ?_) (fun q => Ok_rdb h2 (by omega) (Ok_ieq (hN.2.2.1.2.1 b hb) hw (fun e => ?_) (fun e => ?_))))
  · exact Ok_some ⟨fun z => absurd z Bool.false_ne_true, fun z => by have := htot.mpr z.2.1; omega⟩
  · exact Ok_some ⟨fun _ => ⟨hb, htot.mp (by omega), Int.natCast_inj.mp e⟩, fun _ => rfl⟩
  · exact Ok_some ⟨fun z => absurd z Bool.false_ne_true, fun z => absurd (by rw [← z.2.2]; rfl) e⟩
theorem FoOK_away {f : Nat → Int32} (h : FoOK n fa fb m x) : FoOK n fa fb m (Fo_set_away x f) := h
theorem Fo_away_s {f : Nat → Int32} : Fo_away (Fo_set_away x f) = f := rfl
theorem farthestC_ok (hV : Vd fa fb n m) (hn : n ≤ 32) (hF : FoOK n fa fb m x) (hBn : B < n) (hBl : liv (hB n fa fb m) B) {w : Int32} (hw : w.toInt = (B : Int)) : Ok (Fo_m_farthest x w) (fun r => r.1.toInt = ecc n fa fb m B ∧ FoOK n fa fb m r.2 ∧ ∀ b, b < n → (Fo_away r.2 b).toInt = aw n fa fb m B b) := by
  unfold Fo_m_farthest
  refine Ok_then (measure_ok hV hn hF hBn hBl hw) (fun g hg => ?_)
  obtain ⟨f, e, hf⟩ := hg
  have hF2 : FoOK n fa fb m g := by rw [e]; exact FoOK_away hF
  have haw : ∀ b, b < n → (Fo_away g b).toInt = aw n fa fb m B b := fun b hb => by rw [e, Fo_away_s]; exact hf b hb
  have hnm := hF2.1
  refine Ok_for n (fun j c => c.toInt = mxF (aw n fa fb m B) j) (by omega) i32_0 i32_0 ?_ ?_
  · intro j c i hj hi hc
    dsimp only [Fo_m_farthest_s9]
    refine Ok_ite (fun q => by rw [i32_le] at q; omega) (fun _ => Ok_rdb hi (by omega) (Ok_some ⟨nx_s hi (by omega), ?_⟩))
    rw [mxF_s]
    exact maxI hc (haw j hj)
  · intro c i hi hc
    dsimp only [Fo_m_farthest_s9]
    exact Ok_ite (fun _ => Ok_omap (Ok_some ⟨hc, hF2, haw⟩)) (fun q => by rw [i32_le] at q; omega)
theorem longestC_ok (hV : Vd fa fb n m) (hn : n ≤ 32) (hF : FoOK n fa fb m x) (hN : NmOK 32 n (hL n fa fb m) nm) {w : Int32} (hw : w.toInt = (l : Int)) : Ok (Fo_m_longest x 32 nm w) (fun r => r.1.toInt = lgE n fa fb m l ∧ FoOK n fa fb m r.2) := by
  have hlen := ord_len (k := m) hV hn
  unfold Fo_m_longest
  refine Ok_for3 (ord n fa fb m).length (fun j z c => FoOK n fa fb m z ∧ 0 ≤ c.toInt ∧ (∀ (i b : Nat), i < j → (ord n fa fb m)[i]? = some b → SL n fa fb m l b → ecc n fa fb m b ≤ c.toInt) ∧ (c.toInt = 0 ∨ ∃ b, SL n fa fb m l b ∧ ecc n fa fb m b = c.toInt)) (by omega) i32_0 ⟨hF, by rw [i32_0]; omega, fun i b hi => absurd hi (Nat.not_lt_zero i), Or.inl i32_0⟩ ?_ ?_
  · intro j z c i hj hi ⟨hz, h0, h1, h2⟩
    dsimp only [Fo_m_longest_s5]
    have hcn := hz.2.1
    obtain ⟨b, hbk⟩ := getE (P := ord n fa fb m) (i := j) hj
    have ho := ord_get hz hbk
    have hm := (ord_mem hV hn).mp (List.mem_of_getElem? hbk)
    refine Ok_ite (fun q => by rw [i32_le] at q; omega) (fun _ => Ok_rdb hi (by omega) (Ok_eqr ho (by omega) (hN.2.2.1.2.1 b hm.1) hw (fun e => ?_) (fun e => ?_)))
    · have hSb : SL n fa fb m l b := ⟨hm.1, hm.2, Int.natCast_inj.mp e⟩
      refine Ok_rdb hi (by omega) (Ok_then (farthestC_ok hV hn hz hm.1 hm.2 ho) (fun g hg => Ok_some ⟨nx_s hi (by omega), hg.2.1, ?_⟩))
      show 0 ≤ (if c < g.1 then g.1 else c).toInt ∧ (∀ (i2 b2 : Nat), i2 < j + 1 → (ord n fa fb m)[i2]? = some b2 → SL n fa fb m l b2 → ecc n fa fb m b2 ≤ (if c < g.1 then g.1 else c).toInt) ∧ ((if c < g.1 then g.1 else c).toInt = 0 ∨ ∃ b2, SL n fa fb m l b2 ∧ ecc n fa fb m b2 = (if c < g.1 then g.1 else c).toInt)
      rw [maxI (a := c) rfl hg.1]
      refine ⟨by omega, fun i2 b2 hi2 hb2 hs2 => ?_, ?_⟩
      · by_cases q : i2 = j
        · rw [q, hbk] at hb2
          rw [← Option.some.inj hb2]; omega
        · have := h1 i2 b2 (by omega) hb2 hs2; omega
      · by_cases q : c.toInt ≤ ecc n fa fb m b
        · exact Or.inr ⟨b, hSb, by omega⟩
        · rcases h2 with z2 | ⟨b2, z1, z2⟩
          · exact Or.inl (by omega)
          · exact Or.inr ⟨b2, z1, by omega⟩
    · refine Ok_some ⟨nx_s hi (by omega), hz, h0, fun i2 b2 hi2 hb2 hs2 => ?_, h2⟩
      by_cases q : i2 = j
      · rw [q, hbk] at hb2
        rw [← Option.some.inj hb2] at hs2
        exact absurd (by rw [← hs2.2.2]; rfl) e
      · exact h1 i2 b2 (by omega) hb2 hs2
  · intro z c i hi ⟨hz, h0, h1, h2⟩
    dsimp only [Fo_m_longest_s5]
    have hcn := hz.2.1
    refine Ok_ite (fun _ => Ok_omap (Ok_some ⟨?_, hz⟩)) (fun q => by rw [i32_le] at q; omega)
    refine mxF_uq (fun b hb => ?_) ?_ h0
    · by_cases q : SL n fa fb m l b
      · rw [if_pos q]
        obtain ⟨j, hj⟩ := List.getElem?_of_mem ((ord_mem hV hn).mpr ⟨q.1, q.2.1⟩)
        exact h1 j b (List.getElem?_eq_some_iff.mp hj).1 hj q
      · rw [if_neg q]; exact h0
    · rcases h2 with z2 | ⟨b, z1, z2⟩
      · exact Or.inl z2
      · exact Or.inr ⟨b, z1.1, by rw [if_pos z1]; exact z2⟩
theorem longestLesserC_ok (hV : Vd fa fb n m) (hn : n ≤ 32) (hF : FoOK n fa fb m x) (hN : NmOK 32 n (hL n fa fb m) nm) {w : Int32} (hw : w.toInt = (l : Int)) (ha : SL n fa fb m l a) (hea : ecc n fa fb m a = lgE n fa fb m l) (hno : ∀ i, i < a → SL n fa fb m l i → ecc n fa fb m i ≠ lgE n fa fb m l) : Ok (Fo_m_longestLesser x 32 nm w) (fun r => r.1.toInt = (a : Int) ∧ FoOK n fa fb m r.2) := by
  unfold Fo_m_longestLesser
  refine Ok_then (longestC_ok hV hn hF hN hw) (fun g3 hg3 => ?_)
  have han := ha.1
  refine Ok_for a (fun j z => FoOK n fa fb m z) (by omega) i32_0 hg3.2 ?_ ?_
  · intro j z i hj hi hz
    dsimp only [Fo_m_longestLesser_s10]
    have hnm := hz.1
    refine Ok_ite (fun q => by rw [i32_le] at q; omega) (fun _ => Ok_tf (isBlockOfC_ok hV hn hz hN hw hi (show j < n by omega)) (fun hs => ?_) (fun _ => Ok_some ⟨nx_s hi (by omega), hz⟩))
    exact Ok_then (farthestC_ok hV hn hz hs.1 hs.2.1 hi) (fun g hg => Ok_ieq hg.1 hg3.1 (fun e => absurd e (hno j hj hs)) (fun _ => Ok_some ⟨nx_s hi (by omega), hg.2.1⟩))
  · intro z i hi hz
    dsimp only [Fo_m_longestLesser_s10]
    have hnm := hz.1
    refine Ok_ite (fun q => by rw [i32_le] at q; omega) (fun _ => Ok_tf (isBlockOfC_ok hV hn hz hN hw hi han) (fun hs => ?_) (fun z2 => absurd ha z2))
    exact Ok_then (farthestC_ok hV hn hz hs.1 hs.2.1 hi) (fun g hg => Ok_ieq hg.1 hg3.1 (fun e => Ok_omap (Ok_some ⟨hi, hg.2.1⟩)) (fun q => absurd hea q))
theorem longestOtherC_ok (hV : Vd fa fb n m) (hn : n ≤ 32) (hF : FoOK n fa fb m x) (hN : NmOK 32 n (hL n fa fb m) nm) {w : Int32} (hw : w.toInt = (l : Int)) (ha : SL n fa fb m l a) (hea : ecc n fa fb m a = lgE n fa fb m l) (hno : ∀ i, i < a → SL n fa fb m l i → ecc n fa fb m i ≠ lgE n fa fb m l) (hb : SL n fa fb m l b) (heb : dI fa fb m a b = lgE n fa fb m l) (hno2 : ∀ i, i < b → aw n fa fb m a i ≠ lgE n fa fb m l) : Ok (Fo_m_longestOther x 32 nm w) (fun r => r.1.toInt = (b : Int) ∧ FoOK n fa fb m r.2) := by
  unfold Fo_m_longestOther
  refine Ok_then (longestC_ok hV hn hF hN hw) (fun g3 hg3 => Ok_then (longestLesserC_ok hV hn hg3.2 hN hw ha hea hno) (fun g10 hg10 => ?_))
  have hbn := hb.1
  refine Ok_ieq hg10.1 i32_m1 (fun q => by omega) (fun _ => Ok_then (measure_ok hV hn hg10.2 ha.1 ha.2.1 hg10.1) (fun g hg => ?_))
  obtain ⟨f, e, hf⟩ := hg
  have hF2 : FoOK n fa fb m g := by rw [e]; exact FoOK_away hg10.2
  have haw : ∀ b, b < n → (Fo_away g b).toInt = aw n fa fb m a b := fun b hb => by rw [e, Fo_away_s]; exact hf b hb
  have hnm := hF2.1
  refine Ok_upto (fun j i => i.toInt = (j : Int)) (e := b) (by omega) i32_0 ?_ ?_
  · intro j i hj hi
    dsimp only [Fo_m_longestOther_s32]
    refine Ok_ite (fun q => by rw [i32_le] at q; omega) (fun _ => Ok_eqr hi (by omega) (haw j (by omega)) hg3.1 (fun e => absurd e (hno2 j hj)) (fun _ => Ok_some (nx_s hi (by omega))))
  · intro i hi
    dsimp only [Fo_m_longestOther_s32]
    refine Ok_ite (fun q => by rw [i32_le] at q; omega) (fun _ => Ok_eqr hi (by omega) (haw b hbn) hg3.1 (fun e => Ok_omap (Ok_some ⟨hi, hF2⟩)) (fun q => absurd ?_ q))
    rw [aw_in hV ha hb]; exact heb
def MI (n : Nat) (fa fb : Nat → Nat) (m l j : Nat) (p : FoS × Int32 × Int32 × Int32) : Prop := p.2.2.2.toInt = (j : Int) ∧ FoOK n fa fb m p.1 ∧ MN n fa fb m l j p.2.1.toInt ∧ ((p.2.1.toInt = -1 ∧ p.2.2.1.toInt = 32) ∨ ∃ a : Nat, p.2.1.toInt = (a : Int) ∧ p.2.2.1.toInt = ecc n fa fb m a)
theorem MI_0 (hF : FoOK n fa fb m x) : MI n fa fb m l 0 (x, -1, 32, 0) := by
  unfold MI
  refine ⟨i32_0, hF, Or.inl ⟨i32_m1, fun i hi => absurd hi (Nat.not_lt_zero i)⟩, Or.inl ⟨i32_m1, i32_32⟩⟩
theorem MI_i {z : FoS} {c d i : Int32} (h1 : i.toInt = (j : Int)) (h2 : FoOK n fa fb m z) (h3 : MN n fa fb m l j c.toInt) (h4 : (c.toInt = -1 ∧ d.toInt = 32) ∨ ∃ a : Nat, c.toInt = (a : Int) ∧ d.toInt = ecc n fa fb m a) : MI n fa fb m l j (z, c, d, i) := ⟨h1, h2, h3, h4⟩
theorem middleC_ok (hV : Vd fa fb n m) (hn : n ≤ 32) (hF : FoOK n fa fb m x) (hN : NmOK 32 n (hL n fa fb m) nm) {w : Int32} (hw : w.toInt = (l : Int)) : Ok (Fo_m_middle x 32 nm w) (fun r => MN n fa fb m l n r.1.toInt ∧ FoOK n fa fb m r.2) := by
  unfold Fo_m_middle
  refine Ok_upto (MI n fa fb m l) (e := n) (by omega) (MI_0 hF) ?_ ?_
  · intro j ⟨z, c, d, i⟩ hj ⟨hi, hz, hM, hcd⟩
    dsimp only at hi hz hM hcd
    dsimp only [Fo_m_middle_s9]
    have hnm := hz.1
    refine Ok_ite (fun q => by rw [i32_le] at q; omega) (fun _ => Ok_tf (isBlockOfC_ok hV hn hz hN hw hi hj) (fun hs => ?_) (fun hns => Ok_some (MI_i (nx_s hi (by omega)) hz ?_ hcd)))
    · have hlt := ecc_lt hV hn hs
      refine Ok_then (farthestC_ok hV hn hz hs.1 hs.2.1 hi) (fun g hg => Ok_ile rfl hg.1 (fun q => Ok_some (MI_i (nx_s hi (by omega)) hg.2.1 ?_ hcd)) (fun q => Ok_some (MI_i (nx_s hi (by omega)) hg.2.1 ?_ (Or.inr ⟨j, hi, hg.1⟩))))
      · -- it stays
        rcases hcd with ⟨e1, e2⟩ | ⟨a, e1, e2⟩
        · omega
        · rcases hM with ⟨e3, _⟩ | ⟨a2, e3, ha2, hs2, hM⟩
          · omega
          · have : a2 = a := by omega
            subst this
            refine Or.inr ⟨a2, e3, by omega, hs2, fun i2 hi2 hs3 => ?_⟩
            by_cases q2 : i2 = j
            · rw [q2]; exact ⟨by omega, fun _ => by omega⟩
            · exact hM i2 (by omega) hs3
      · refine Or.inr ⟨j, hi, Nat.lt_succ_self j, hs, fun i2 hi2 hs3 => ?_⟩
        by_cases q2 : i2 = j
        · rw [q2]; exact ⟨Int.le_refl _, fun _ => Nat.le_refl _⟩
        · rcases hM with ⟨_, hM⟩ | ⟨a2, e3, ha2, hs2, hM⟩
          · exact absurd hs3 (hM i2 (by omega))
          · have h5 := hM i2 (by omega) hs3
            rcases hcd with ⟨e1, e2⟩ | ⟨a, e1, e2⟩
            · omega
            · have : a2 = a := by omega
              subst this
              exact ⟨by omega, fun e4 => by omega⟩
    · rcases hM with ⟨e3, hM⟩ | ⟨a2, e3, ha2, hs2, hM⟩
      · refine Or.inl ⟨e3, fun i2 hi2 => ?_⟩
        by_cases q2 : i2 = j
        · rw [q2]; exact hns
        · exact hM i2 (by omega)
      · refine Or.inr ⟨a2, e3, by omega, hs2, fun i2 hi2 hs3 => ?_⟩
        by_cases q2 : i2 = j
        · rw [q2] at hs3; exact absurd hs3 hns
        · exact hM i2 (by omega) hs3
  · intro ⟨z, c, d, i⟩ ⟨hi, hz, hM, hcd⟩
    dsimp only at hi hz hM hcd
    dsimp only [Fo_m_middle_s9]
    have hnm := hz.1
    exact Ok_ite (fun _ => Ok_omap (Ok_some ⟨hM, hz⟩)) (fun q => by rw [i32_le] at q; omega)
end W74
