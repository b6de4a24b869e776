/-! CLASS 16: Forest: small questions -/
/-- blocks of a land -/
def SL (n : Nat) (fa fb : Nat → Nat) (m l b : Nat) : Prop := b < n ∧ liv (hB n fa fb m) b ∧ lnm n fa fb m b = l
noncomputable def dgr (n : Nat) (fa fb : Nat → Nat) (m b : Nat) : Nat := nch n fa fb m b n + bb (fPP n fa fb m b ≠ -1)
section W73
variable {fa fb : Nat → Nat} {n k m r u v b t l kd : Nat} {x : FoS} {nm : NmS} {S : Nat → Prop}
theorem ord_get (hF : FoOK n fa fb m x) {j b : Nat} (h : (ord n fa fb m)[j]? = some b) : (Fo_order x j).toInt = (b : Int) := hF.2.2.1 j b h
theorem ord_cnt (hV : Vd fa fb n m) (hn : n ≤ 32) : (pf S (ord n fa fb m)).length = cnt (fun b => liv (hB n fa fb m) b ∧ S b) n := by
  have h := nodup_cnt (n := n) (Q := liv (hB n fa fb m)) (p := fun b => bB (S b)) (TOT_nodup (FH_f (k := m) hV hn)) (fun x => ord_mem hV hn)
  show ((ord n fa fb m).filter (fun b => bB (S b))).length = _
  exact h.trans (cnt_congr (fun i hi => by rw [bB_iff]))
/-- counting in the row -/
theorem ordC_ok (hV : Vd fa fb n m) (hn : n ≤ 32) (hF : FoOK n fa fb m x) {step : Int32 × Int32 → Option ((Int32 × Int32) ⊕ Int32)} {body : Int32 → Int32 → Option ((Int32 × Int32) ⊕ Int32)} (hstep : ∀ c i, step (c, i) = if Fo_count x ≤ i then omap (some c) else body c i)
    (hb : ∀ (k : Nat) (c i : Int32) (b : Nat), i.toInt = (k : Int) → k < 32 → (Fo_order x k).toInt = (b : Int) → b < n → liv (hB n fa fb m) b → Ok (body c i) (Cs (S b) c i)) : Ok (iter step FU (0, 0)) (fun r => r.toInt = (cnt (fun b => liv (hB n fa fb m) b ∧ S b) n : Int)) := by
  have hlen := ord_len (k := m) hV hn
  have hfl := fl_pf (P := fun j => S (Fo_order x j).toInt.toNat) (S := S) (g := fun j => (Fo_order x j).toInt.toNat) (M := ord n fa fb m) (fun j b hj => by
    have := ord_get hF hj
    have e : (Fo_order x j).toInt.toNat = b := by omega
    rw [e]; exact ⟨Iff.rfl, rfl⟩)
  rw [← ord_cnt hV hn, ← hfl, fl_len]
  refine Ok_cntw (N := (ord n fa fb m).length) (Q := fun j => S (Fo_order x j).toInt.toNat) (by omega) hF.2.1 hstep (fun k c i hk hi => ?_)
  obtain ⟨b, hbk⟩ := getE (P := ord n fa fb m) (i := k) hk
  have ho := ord_get hF hbk
  have hm := (ord_mem hV hn).mp (List.mem_of_getElem? hbk)
  have e : (Fo_order x k).toInt.toNat = b := by omega
  show Ok (body c i) (Cs (S (Fo_order x k).toInt.toNat) c i)
  rw [e]
  exact hb k c i b hi (by omega) ho hm.1 hm.2
theorem blocksOfC_ok (hV : Vd fa fb n m) (hn : n ≤ 32) (hF : FoOK n fa fb m x) (hN : NmOK 32 n (hL n fa fb m) nm) {w : Int32} (hw : w.toInt = (l : Int)) : Ok (Fo_m_blocksOf x 32 nm w) (fun r => r.toInt = (cnt (fun b => liv (hB n fa fb m) b ∧ lnm n fa fb m b = l) n : Int)) := by
  unfold Fo_m_blocksOf
  refine ordC_ok (S := fun b => lnm n fa fb m b = l) hV hn hF (fun c i => rfl) (fun k c i b hi hk ho hbn hl => ?_)
  exact Ok_rdb hi hk (Ok_eqr ho (by omega) (hN.2.2.1.2.1 b hbn) hw (fun e => Cs_t (Int.natCast_inj.mp e)) (fun e => Cs_f (fun z => e (by rw [← z]; rfl))))
theorem leavesOfC_ok (hV : Vd fa fb n m) (hn : n ≤ 32) (hF : FoOK n fa fb m x) (hN : NmOK 32 n (hL n fa fb m) nm) {w : Int32} (hw : w.toInt = (l : Int)) : Ok (Fo_m_leavesOf x 32 nm w) (fun r => r.toInt = (cnt (fun b => liv (hB n fa fb m) b ∧ (lnm n fa fb m b = l ∧ dgr n fa fb m b = 1)) n : Int)) := by
  unfold Fo_m_leavesOf
  refine ordC_ok (S := fun b => lnm n fa fb m b = l ∧ dgr n fa fb m b = 1) hV hn hF (fun c i => rfl) (fun k c i b hi hk ho hbn hl => ?_)
  have hd : (Fo_bridgesAt x b).toInt = (dgr n fa fb m b : Int) := (hF.2.2.2 b hbn).2.2.2.1
  refine Ok_rdb hi hk (Ok_eqr ho (by omega) (hN.2.2.1.2.1 b hbn) hw (fun e => Ok_rdb hi hk (Ok_eqr ho (by omega) hd i32_1 (fun e2 => Cs_t ⟨Int.natCast_inj.mp e, by omega⟩) (fun e2 => Cs_f (fun z => e2 (by rw [z.2]; rfl))))) (fun e => Cs_f (fun z => e (by rw [← z.1]; rfl))))
theorem leafC_ok (hV : Vd fa fb n m) (hn : n ≤ 32) (hF : FoOK n fa fb m x) (hN : NmOK 32 n (hL n fa fb m) nm) {w w2 : Int32} (hw : w.toInt = (l : Int)) : Ok (Fo_m_leaf x 32 nm w w2) (fun r => r.toInt = pick (pf (fun b => lnm n fa fb m b = l ∧ dgr n fa fb m b = 1) (ord n fa fb m)) w2.toInt) := by
  have hlen := ord_len (k := m) hV hn
  have hfl := fl_pf (P := fun j => (fun b => lnm n fa fb m b = l ∧ dgr n fa fb m b = 1) (Fo_order x j).toInt.toNat) (S := fun b => lnm n fa fb m b = l ∧ dgr n fa fb m b = 1) (g := fun j => (Fo_order x j).toInt.toNat) (M := ord n fa fb m) (fun j b hj => by
    have := ord_get hF hj
    have e : (Fo_order x j).toInt.toNat = b := by omega
    rw [e]; exact ⟨Iff.rfl, rfl⟩)
  rw [← hfl]
  unfold Fo_m_leaf
  refine Ok_picku (R := fun (z : Int) (r : Int32) => r.toInt = z) (ord n fa fb m).length _ _ w2 (by omega) ?_ ?_
  · intro k c i hk hi _
    dsimp only [Fo_m_leaf_s6]
    have hcn := hF.2.1
    obtain ⟨b, hbk⟩ := getE (P := ord n fa fb m) (i := k) hk
    have ho := ord_get hF hbk
    have hm := (ord_mem hV hn).mp (List.mem_of_getElem? hbk)
    have e : (Fo_order x k).toInt.toNat = b := by omega
    rw [e]
    have hd : (Fo_bridgesAt x b).toInt = (dgr n fa fb m b : Int) := (hF.2.2.2 b hm.1).2.2.2.1
    refine Ok_ite (fun q => by rw [i32_le] at q; omega) (fun _ => Ok_rdb hi (by omega) (Ok_eqr ho (by omega) (hN.2.2.1.2.1 b hm.1) hw (fun e => Ok_rdb hi (by omega) (Ok_eqr ho (by omega) hd i32_1 (fun e2 => ?_) (fun e2 => Pk_f (fun z => e2 (by rw [z.2]; rfl))))) (fun e => Pk_f (fun z => e (by rw [← z.1]; rfl)))))
    exact Pk_step ⟨Int.natCast_inj.mp e, by omega⟩ (Ok_rdb hi (by omega) (Ok_some ho))
  · intro c i hi _
    dsimp only [Fo_m_leaf_s6]
    have hcn := hF.2.1
    exact Ok_ite (fun _ => Ok_omap (Ok_some i32_m1)) (fun q => by rw [i32_le] at q; omega)
/-- a root of a land -/
theorem root_at (hV : Vd fa fb n m) (hb : b < n) (hl : liv (hB n fa fb m) b) (hr : fPP n fa fb m b = -1) : b = bnm n fa fb m (hR n fa fb m b) := by
  have hrn := (hR_ok (k := m) hV).1 b hb
  unfold fPP at hr
  rw [fP_liv hl] at hr
  have hnil : fw fa fb (qb fa fb m) m b (hR n fa fb m b) = [] := by
    unfold bup hdw at hr
    cases e : fw fa fb (qb fa fb m) m b (hR n fa fb m b) with
    | nil => rfl
    | cons s L =>
      rw [e] at hr
      have : ((bnm n fa fb m s.2 : Nat) : Int) = -1 := hr
      omega
  have := (NmQ_b hV b (hR n fa fb m b) hb hrn.1).mpr ⟨hrn.2.symm, hnil⟩
  rw [liv_bnm hl] at this
  exact this
theorem par_land (hV : Vd fa fb n m) (hn : n ≤ 32) (hb : b < n) {a : Nat} (h : fPP n fa fb m b = (a : Int)) : a < n ∧ liv (hB n fa fb m) a ∧ lnm n fa fb m a = lnm n fa fb m b := by
  have hF := FH_f (k := m) hV hn
  have hl := fPP_liv h
  obtain ⟨h1, h2, h3⟩ := ch_par hF hb hl h
  refine ⟨h1, h2, ?_⟩
  have ha : a ∈ chn n fa fb m b := by rw [h3]; exact List.mem_cons_of_mem _ (ch_self hF h1 h2)
  have := chn_dist hV hb hl ha
  exact (land_same hV h1 hb).mpr this.2.2.1
theorem rootOfC_ok (hV : Vd fa fb n m) (hn : n ≤ 32) (hF : FoOK n fa fb m x) (hN : NmOK 32 n (hL n fa fb m) nm) {w : Int32} (hw : w.toInt = (l : Int)) (hl : l < n) (hll : liv (hL n fa fb m) l) : Ok (Fo_m_rootOf x 32 nm w) (fun r => r.toInt = (bnm n fa fb m (hR n fa fb m l) : Int)) := by
  have hlen := ord_len (k := m) hV hn
  have hFH := FH_f (k := m) hV hn
  have hRk := hR_ok (k := m) hV
  have hlnl : lnm n fa fb m l = l := hll
  -- there is a block of the land
  have bl := bnm_lt (k := m) hV hl
  have hbl : lnm n fa fb m (bnm n fa fb m l) = l := ((land_same hV bl.1 hl).mpr (bnm_same (k := m) hV hl).1).trans hlnl
  unfold Fo_m_rootOf
  refine Ok_for1 (ord n fa fb m).length (fun j => ∀ (i b : Nat), i < j → (ord n fa fb m)[i]? = some b → lnm n fa fb m b ≠ l) (by omega) i32_0 (fun i b hi => absurd hi (Nat.not_lt_zero i)) ?_ ?_
  · intro j i hj hi hI
    dsimp only [Fo_m_rootOf_s2]
    have hcn := hF.2.1
    obtain ⟨b, hbk⟩ := getE (P := ord n fa fb m) (i := j) hj
    have ho := ord_get hF hbk
    have hm := (ord_mem hV hn).mp (List.mem_of_getElem? hbk)
    refine Ok_ite (fun q => by rw [i32_le] at q; omega) (fun _ => Ok_rdb hi (by omega) (Ok_eqr ho (by omega) (hN.2.2.1.2.1 b hm.1) hw (fun e => Ok_omap (Ok_rdb hi (by omega) (Ok_some ?_))) (fun e => Ok_some ⟨nx_s hi (by omega), fun i2 b2 hi2 hb2 => ?_⟩)))
    · show (Fo_order x j).toInt = _
      have e' : lnm n fa fb m b = l := Int.natCast_inj.mp e
      have hsplit : ord n fa fb m = (ord n fa fb m).take j ++ b :: (ord n fa fb m).drop (j + 1) := by
        have q1 := List.drop_eq_getElem_cons (l := ord n fa fb m) (i := j) hj
        have g1 : (ord n fa fb m)[j]'hj = b := (List.getElem?_eq_some_iff.mp hbk).2
        rw [g1] at q1
        have q3 := List.take_append_drop j (ord n fa fb m)
        rw [q1] at q3
        exact q3.symm
      have hPF : PFst (fPP n fa fb m) [] ((ord n fa fb m).take j ++ b :: (ord n fa fb m).drop (j + 1)) := by rw [← hsplit]; exact TOT_PF
      have hroot : fPP n fa fb m b = -1 := by
        rcases PFst_at hPF with z | ⟨a, ha, z⟩
        · exact z
        · exfalso
          have ha' := ha.resolve_left (fun q => by cases q)
          obtain ⟨i2, hi2⟩ := List.getElem?_of_mem ha'
          have hi3 := (List.getElem?_eq_some_iff.mp hi2).1
          rw [List.length_take] at hi3
          rw [List.getElem?_take_of_lt (by omega)] at hi2
          exact hI i2 a (by omega) hi2 ((par_land hV hn hm.1 z).2.2.trans e')
      rw [ho]
      have h1 := root_at hV hm.1 hm.2 hroot
      have h2 : hR n fa fb m b = hR n fa fb m l := hRk.2 _ _ ((land_same hV hm.1 hl).mp (by
        have e2 : lnm n fa fb m b = lnm n fa fb m l := e'.trans hlnl.symm
        exact e2))
      rw [h2] at h1
      rw [← h1]
    · by_cases e2 : i2 = j
      · rw [e2, hbk] at hb2
        rw [← Option.some.inj hb2]
        intro z
        exact e (by rw [← z]; rfl)
      · exact hI i2 b2 (by omega) hb2
  · intro i hi hI
    exfalso
    obtain ⟨j, hj⟩ := List.getElem?_of_mem ((ord_mem hV hn).mpr bl)
    exact hI j _ (List.getElem?_eq_some_iff.mp hj).1 hj hbl
/-- the greatest of a row -/
def mxF (f : Nat → Int) : Nat → Int
  | 0 => 0
  | k + 1 => max (mxF f k) (f k)
theorem mxF_s {f : Nat → Int} : mxF f (k + 1) = max (mxF f k) (f k) := rfl
theorem mxF_ub {f : Nat → Int} {i : Nat} (hi : i < k) : f i ≤ mxF f k := by
  induction k with
  | zero => omega
  | succ k ih =>
    rw [mxF_s]
    by_cases e : i = k
    · rw [e]; omega
    · have := ih (by omega); omega
theorem mxF_ge {f : Nat → Int} : 0 ≤ mxF f k := by
  induction k with
  | zero => exact Int.le_refl _
  | succ k ih => rw [mxF_s]; omega
theorem mxF_at {f : Nat → Int} : mxF f k = 0 ∨ ∃ i, i < k ∧ f i = mxF f k := by
  induction k with
  | zero => exact Or.inl rfl
  | succ k ih =>
    rw [mxF_s]
    by_cases h : mxF f k ≤ f k
    · exact Or.inr ⟨k, Nat.lt_succ_self k, by omega⟩
    · rcases ih with z | ⟨i, hi, z⟩
      · exact Or.inl (by omega)
      · exact Or.inr ⟨i, by omega, by omega⟩
theorem mxF_uq {f : Nat → Int} {r : Int} (h1 : ∀ i, i < k → f i ≤ r) (h2 : r = 0 ∨ ∃ i, i < k ∧ f i = r) (h3 : 0 ≤ r) : r = mxF f k := by
  have h4 := mxF_ge (f := f) (k := k)
  have h5 : mxF f k ≤ r := by
    rcases mxF_at (f := f) (k := k) with z | ⟨i, hi, z⟩
    · omega
    · have := h1 i hi; omega
  rcases h2 with z | ⟨i, hi, z⟩
  · omega
  · have := mxF_ub (f := f) hi; omega
theorem mxF_le {f : Nat → Int} {c : Int} (hc : 0 ≤ c) (h : ∀ i, i < k → f i ≤ c) : mxF f k ≤ c := by
  induction k with
  | zero => exact hc
  | succ k ih =>
    rw [mxF_s]
    have h1 := ih (fun i hi => h i (by omega))
    have h2 := h k (Nat.lt_succ_self k)
    omega
/-- the deepest -/
theorem deepestC_ok (hV : Vd fa fb n m) (hn : n ≤ 32) (hF : FoOK n fa fb m x) : Ok (Fo_m_deepest x) (fun r => r.toInt = mxF (fun v => ((chn n fa fb m (bnm n fa fb m v)).length : Int) - 1) n) := by
  have hlen := ord_len (k := m) hV hn
  unfold Fo_m_deepest
  refine Ok_for (ord n fa fb m).length (fun j c => 0 ≤ c.toInt ∧ (∀ (i b : Nat), i < j → (ord n fa fb m)[i]? = some b → ((chn n fa fb m b).length : Int) - 1 ≤ c.toInt) ∧ (c.toInt = 0 ∨ ∃ b, b < n ∧ liv (hB n fa fb m) b ∧ ((chn n fa fb m b).length : Int) - 1 = c.toInt)) (by omega) i32_0 ⟨by rw [i32_0]; omega, fun i b hi => absurd hi (Nat.not_lt_zero i), Or.inl i32_0⟩ ?_ ?_
  · intro j c i hj hi ⟨h0, h1, h2⟩
    dsimp only [Fo_m_deepest_s4]
    have hcn := hF.2.1
    obtain ⟨b, hbk⟩ := getE (P := ord n fa fb m) (i := j) hj
    have ho := ord_get hF hbk
    have hm := (ord_mem hV hn).mp (List.mem_of_getElem? hbk)
    have hd := (hF.2.2.2 b hm.1).2.2.2.2.2 hm.2
    refine Ok_ite (fun q => by rw [i32_le] at q; omega) (fun _ => Ok_rdb hi (by omega) (Ok_rdb ho (by omega) (Ok_some ⟨nx_s hi (by omega), ?_⟩)))
    show 0 ≤ (if c < Fo_deep x b then Fo_deep x b else c).toInt ∧ (∀ (i b2 : Nat), i < j + 1 → (ord n fa fb m)[i]? = some b2 → ((chn n fa fb m b2).length : Int) - 1 ≤ (if c < Fo_deep x b then Fo_deep x b else c).toInt) ∧ ((if c < Fo_deep x b then Fo_deep x b else c).toInt = 0 ∨ ∃ b2, b2 < n ∧ liv (hB n fa fb m) b2 ∧ ((chn n fa fb m b2).length : Int) - 1 = (if c < Fo_deep x b then Fo_deep x b else c).toInt)
    rw [maxI (b := Fo_deep x b) rfl hd]
    refine ⟨by omega, fun i2 b2 hi2 hb2 => ?_, ?_⟩
    · by_cases e : i2 = j
      · rw [e, hbk] at hb2
        rw [← Option.some.inj hb2]; omega
      · have := h1 i2 b2 (by omega) hb2; omega
    · by_cases q : c.toInt ≤ ((chn n fa fb m b).length : Int) - 1
      · exact Or.inr ⟨b, hm.1, hm.2, by omega⟩
      · rcases h2 with z | ⟨b2, z1, z2, z3⟩
        · exact Or.inl (by omega)
        · exact Or.inr ⟨b2, z1, z2, by omega⟩
  · intro c i hi ⟨h0, h1, h2⟩
    dsimp only [Fo_m_deepest_s4]
    have hcn := hF.2.1
    refine Ok_ite (fun _ => Ok_omap (Ok_some ?_)) (fun q => by rw [i32_le] at q; omega)
    refine mxF_uq (fun v hv => ?_) ?_ h0
    · obtain ⟨j, hj⟩ := List.getElem?_of_mem ((ord_mem hV hn).mpr (bnm_lt (k := m) hV hv))
      exact h1 j _ (List.getElem?_eq_some_iff.mp hj).1 hj
    · rcases h2 with z | ⟨b, z1, z2, z3⟩
      · exact Or.inl z
      · exact Or.inr ⟨b, z1, by
          show ((chn n fa fb m (bnm n fa fb m b)).length : Int) - 1 = _
          rw [liv_bnm z2]; exact z3⟩
end W73
