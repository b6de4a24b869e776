/-! CALLS 10: worst, best -/
def mxI (V : Nat → Int) : Nat → Int × Int
  | 0 => (-1, -1)
  | k + 1 => if (mxI V k).1 < V k then (V k, (k : Int)) else mxI V k
def bsI (V : Nat → Int) (u o : Nat) : Nat → Int × Int × Int → Int × Int × Int
  | 0, t => t
  | k + 1, t => if (bsI V u o k t).1 < V (o + k) then (V (o + k), (u : Int), ((o + k : Nat) : Int)) else bsI V u o k t
def bsO (V : Nat → Nat → Int) (n : Nat) : Nat → Int × Int × Int
  | 0 => (0, -1, -1)
  | u + 1 => bsI (V u) u (u + 1) (n - (u + 1)) (bsO V n u)
section K10
variable {fa fb ga gb : Nat → Nat} {n k m r u v b t l kd : Nat} {X Y : SBS} {M x y q : MdS} {V : Nat → Int}
theorem mxI_s : mxI V (k + 1) = if (mxI V k).1 < V k then (V k, (k : Int)) else mxI V k := rfl
theorem mxI_ge : -1 ≤ (mxI V k).1 := by
  induction k with
  | zero => exact Int.le_refl _
  | succ k ih =>
    rw [mxI_s]
    by_cases h : (mxI V k).1 < V k
    · rw [if_pos h]; show -1 ≤ V k; omega
    · rw [if_neg h]; exact ih
noncomputable def wpV (n : Nat) (fa fb : Nat → Nat) (m l : Nat) : Int := @ite _ (brg fa fb m l) (Classical.propDecidable _) ((sdn fa fb m l (fa l) n : Int) * (sdn fa fb m l (fb l) n : Int)) (-1)
theorem wpV_t (h : brg fa fb m l) : wpV n fa fb m l = (sdn fa fb m l (fa l) n : Int) * (sdn fa fb m l (fb l) n : Int) := if_pos h
theorem wpV_f (h : ¬ brg fa fb m l) : wpV n fa fb m l = -1 := if_neg h
theorem prodS {a c : Int32} {p s : Nat} (ha : a.toInt = (p : Int)) (hc : c.toInt = (s : Int)) (hp : p ≤ 32) (hs : s ≤ 32) : (a * c).toInt = (p : Int) * (s : Int) := by
  have h1 : p * s ≤ 32 * 32 := Nat.mul_le_mul hp hs
  have h2 : ((p * s : Nat) : Int) = (p : Int) * (s : Int) := Int.natCast_mul p s
  have h3 : (p : Int) * (s : Int) ≤ 1024 := by omega
  have h4 : 0 ≤ (p : Int) * (s : Int) := by omega
  rw [i32_mul (by rw [ha, hc]; omega) (by rw [ha, hc]; omega), ha, hc]
theorem pc_worst : PC_worst Inv := by
  intro X M ⟨n, m, fa, fb, hv, hc, hr, hd⟩ v1
  apply pcQ
  have hT : Rd n m fa fb M (Md_set_told M 0) := Rd_told hr
  have hn := hv.2.1
  have hm := hv.2.2.1
  have hV := hv.2.2.2.1
  have hin := isInt_ok (x := Md_set_told M 0) (w := v1) i64_0 i64_1
  have hC : ∀ {fin : Int32 → Int32 → Option Int32} {P : Int32 → Prop}, (∀ a c i, (SB_m_worst_s7 X v1 a c i = if (Wb_links (SB_now X)) ≤ i then (omap (fin a c)) else ((SB_m_productOfSides X i).bind fun g22 => if g22 ≤ a then (some (.inl (a, c, (i + 1)))) else (some (.inl (g22, i, (i + 1))))))) → (∀ a c : Int32, a.toInt = (mxI (wpV n fa fb m) m).1 → c.toInt = (mxI (wpV n fa fb m) m).2 → Ok (fin a c) P) → Ok (SB_m_worst X v1) P := by
    intro fin P hst hfin
    unfold SB_m_worst
    refine Ok_for3 m (fun j a c => a.toInt = (mxI (wpV n fa fb m) j).1 ∧ c.toInt = (mxI (wpV n fa fb m) j).2) (by omega) i32_0 ⟨i32_m1, i32_m1⟩ ?_ ?_
    · intro j a c i hj hi ⟨ha, hcc⟩
      show Ok (SB_m_worst_s7 X v1 a c i) _
      rw [hst]
      have hl := hc.1.1.1
      have hf := hc.1.1.2.1 j hj
      refine Ok_ite (fun q => by rw [i32_le] at q; omega) (fun _ => ?_)
      have hprod : Ok (SB_m_productOfSides X i) (fun r => r.toInt = wpV n fa fb m j) := by
        unfold SB_m_productOfSides
        refine Ok_tf (isBrC_ok hc.1.1.2.2.1 hm hi hj) (fun hb => ?_) (fun hb => Ok_some (by rw [wpV_f hb]; exact i32_m1))
        rw [wpV_t hb]
        refine Ok_rdb hi (by omega) (Ok_rdb hi (by omega) (Ok_then (sideC_ok hv hc hi hj hf.1 hf.2 (E_of j)) (fun g hg => Ok_then (sideC_ok hv hc hi hj hf.2 hf.1 (E_of j).symm) (fun g2 hg2 => Ok_some ?_))))
        exact prodS (hg.1 hb) (hg2.1 hb) (Nat.le_trans cnt_le hn) (Nat.le_trans cnt_le hn)
      refine Ok_then hprod (fun g hg => Ok_ile hg ha (fun q => Ok_some ⟨nx_s hi (by omega), ?_⟩) (fun q => Ok_some ⟨nx_s hi (by omega), ?_⟩))
      · rw [mxI_s, if_neg (by omega)]; exact ⟨ha, hcc⟩
      · rw [mxI_s, if_pos (by omega)]; exact ⟨hg, hi⟩
    · intro a c i hi ⟨ha, hcc⟩
      show Ok (SB_m_worst_s7 X v1 a c i) _
      rw [hst]
      have hl := hc.1.1.1
      exact Ok_ite (fun _ => Ok_omap (hfin a c ha hcc)) (fun q => by rw [i32_le] at q; omega)
  unfold Md_m_worst
  by_cases h3 : 0 ≤ v1.toInt ∧ v1.toInt ≤ 1
  · refine T2_t2 hin h3 (T2_b2 (runsAll_ok hv hT) (fun g hg => ?_))
    have hy := Rt_y hg
    refine ans hv hc hd (E := if v1 = 0 then (mxI (wpV n fa fb m) m).2 else (mxI (wpV n fa fb m) m).1) (hC (fun a c i => rfl) (fun a c ha hcc => ?_)) ?_
    · by_cases q0 : v1 = 0
      · rw [if_pos q0, if_pos q0]; exact Ok_some hcc
      · rw [if_neg q0, if_neg q0]
        refine Ok_ite (fun _ => Ok_some ha) (fun q1 => ?_)
        exfalso
        have z0 : v1.toInt ≠ 0 := fun e => q0 (i32_ext (by rw [e]; rfl))
        have z1 : v1.toInt ≠ 1 := fun e => q1 (i32_ext (by rw [e]; rfl))
        omega
    · refine Ok_for3 m (fun j a c => a.toInt = (mxI (wpV n fa fb m) j).1 ∧ c.toInt = (mxI (wpV n fa fb m) j).2) (by omega) i32_0 ⟨i32_m1, i32_m1⟩ ?_ ?_
      · intro j a c i hj hi ⟨ha, hcc⟩
        dsimp only [Md_m_worst_s29]
        have hl := hy.2.1
        have hf := hy.2.2.1 j hj
        have hge := mxI_ge (V := wpV n fa fb m) (k := j)
        refine Ok_ite (fun q => by rw [i32_le] at q; omega) (fun _ => Ok_tf (ry_br hy hm hi hj) (fun hb => ?_) (fun hb => Ok_some ⟨nx_s hi (by omega), ?_⟩))
        · refine Ok_rdb hi (by omega) (Ok_then (sideR_ok hv hy hi hf.1 (hV j hj).1) (fun g2 hg2 => Ok_rdb hi (by omega) (Ok_then (sideR_ok hv hy hi hf.2 (hV j hj).2) (fun g3 hg3 => ?_))))
          have hp := prodS hg2 hg3 (Nat.le_trans cnt_le hn) (Nat.le_trans cnt_le hn)
          rw [← wpV_t hb] at hp
          refine Ok_ilt ha hp (fun q => Ok_some ⟨nx_s hi (by omega), ?_⟩) (fun q => Ok_some ⟨nx_s hi (by omega), ?_⟩)
          · rw [mxI_s, if_pos (by omega)]; exact ⟨hp, hi⟩
          · rw [mxI_s, if_neg (by omega)]; exact ⟨ha, hcc⟩
        · rw [mxI_s, wpV_f hb, if_neg (by omega)]; exact ⟨ha, hcc⟩
      · intro a c i hi ⟨ha, hcc⟩
        dsimp only [Md_m_worst_s29]
        have hl := hy.2.1
        refine Ok_ite (fun _ => Ok_omap ?_) (fun q => by rw [i32_le] at q; omega)
        by_cases q0 : v1 = 0
        · rw [if_pos q0, if_pos q0]; exact Ok_some ⟨hcc, Rt_d hg⟩
        · rw [if_neg q0, if_neg q0]; exact Ok_some ⟨ha, Rt_d hg⟩
  · refine T2_f2 hin h3 (ans hv hc hd (E := -1) (hC (fun a c i => rfl) (fun a c ha hcc => ?_)) (Ok_some ⟨i32_m1, hT⟩))
    have z0 : v1 ≠ 0 := fun e => h3 (by rw [e]; decide)
    have z1 : v1 ≠ 1 := fun e => h3 (by rw [e]; decide)
    rw [if_neg z0, if_neg z1]
    exact Ok_some i32_m1
/-! best -/
def bsV (fa fb : Nat → Nat) (m u v : Nat) : Int := ((if ld fa fb m u = ld fa fb m v then (fw fa fb (qb fa fb m) m u v).length else 0 : Nat) : Int)
theorem bsO_0 {W : Nat → Nat → Int} : bsO W n 0 = (0, -1, -1) := rfl
theorem bsI_0 {u o : Nat} {t : Int × Int × Int} : bsI V u o 0 t = t := rfl
theorem bsI_s {u o : Nat} {t : Int × Int × Int} : bsI V u o (k + 1) t = if (bsI V u o k t).1 < V (o + k) then (V (o + k), (u : Int), ((o + k : Nat) : Int)) else bsI V u o k t := rfl
theorem bsI_ok {u o : Nat} {t : Int × Int × Int} (h : 0 ≤ t.1 ∧ (t.1 = 0 → t.2.1 = -1 ∧ t.2.2 = -1)) : 0 ≤ (bsI V u o k t).1 ∧ ((bsI V u o k t).1 = 0 → (bsI V u o k t).2.1 = -1 ∧ (bsI V u o k t).2.2 = -1) := by
  induction k with
  | zero => exact h
  | succ k ih =>
    rw [bsI_s]
    by_cases q : (bsI V u o k t).1 < V (o + k)
    · rw [if_pos q]
      refine ⟨?_, fun z => ?_⟩
      · show 0 ≤ V (o + k); omega
      · have z' : V (o + k) = 0 := z
        omega
    · rw [if_neg q]; exact ih
theorem bsO_ok {W : Nat → Nat → Int} : 0 ≤ (bsO W n u).1 ∧ ((bsO W n u).1 = 0 → (bsO W n u).2.1 = -1 ∧ (bsO W n u).2.2 = -1) := by
  induction u with
  | zero => exact ⟨Int.le_refl _, fun _ => ⟨rfl, rfl⟩⟩
  | succ u ih => exact bsI_ok ih
theorem aw_bnm (hV : Vd fa fb n m) (hu : u < n) (hv : v < n) : aw n fa fb m (bnm n fa fb m u) (bnm n fa fb m v) = if ld fa fb m u = ld fa fb m v then ((fw fa fb (qb fa fb m) m u v).length : Int) else -1 := by
  have bv := bnm_lt (k := m) hV hv
  have e1 := (bnm_same (k := m) hV hu).1
  have e2 := (bnm_same (k := m) hV hv).1
  unfold aw
  by_cases q : ld fa fb m u = ld fa fb m v
  · rw [if_pos q, if_pos ⟨liv_bnm bv.2, by rw [e1, e2]; exact q.symm⟩, fw_bb hV hu hv q]
  · rw [if_neg q, if_neg (fun z => q (by rw [← e1, ← e2]; exact z.2.symm))]
def BI (n m : Nat) (fa fb : Nat → Nat) (X : SBS) (j : Nat) (p : SBS × Int32 × Int32 × Int32 × Int32) : Prop := p.2.2.2.2.toInt = (j : Int) ∧ Xd n m fa fb X p.1 ∧ p.2.1.toInt = (bsO (bsV fa fb m) n j).1 ∧ p.2.2.1.toInt = (bsO (bsV fa fb m) n j).2.1 ∧ p.2.2.2.1.toInt = (bsO (bsV fa fb m) n j).2.2
theorem BI_0 (hc : CI n m fa fb X) : BI n m fa fb X 0 (X, 0, -1, -1, 0) := by
  unfold BI
  rw [bsO_0]
  exact ⟨i32_0, ⟨hc, rfl⟩, i32_0, i32_m1, i32_m1⟩
theorem pc_best : PC_best Inv := by
  intro X M ⟨n, m, fa, fb, hv, hc, hr, hd⟩ v1
  apply pcX
  have hT : Rd n m fa fb M (Md_set_told M 0) := Rd_told hr
  have hn := hv.2.1
  have hm := hv.2.2.1
  have hV := hv.2.2.2.1
  have hin := isInt_ok (x := Md_set_told M 0) (w := v1) i64_0 i64_2
  have hC : ∀ {fin : SBS → Int32 → Int32 → Int32 → Option (Int32 × SBS)} {P : Int32 × SBS → Prop}, (∀ z a c d i, (SB_m_best_s10 v1 z a c d i = if (Wb_nodes (SB_now z)) ≤ i then (omap (fin z a c d)) else ((rd (Nm_of (Wb_blocks (SB_now z))) 32 i).bind fun g38 => (Fo_m_measure (SB_forest z) g38).bind fun g39 => iter (fun p : Int32 × Int32 × Int32 × Int32 => SB_m_best_s48 (SB_set_forest z g39) v1 i p.1 p.2.1 p.2.2.1 p.2.2.2) FU (a, c, d, (i + 1))))) → (∀ (z : SBS) (a c d : Int32), Xd n m fa fb X z → a.toInt = (bsO (bsV fa fb m) n n).1 → c.toInt = (bsO (bsV fa fb m) n n).2.1 → d.toInt = (bsO (bsV fa fb m) n n).2.2 → Ok (fin z a c d) P) → Ok (SB_m_best X v1) P := by
    intro fin P hst hfin
    unfold SB_m_best
    refine Ok_upto (BI n m fa fb X) (e := n) (by omega) (BI_0 hc) ?_ ?_
    · intro j ⟨z, a, c, d, i⟩ hj ⟨hi, hz, ha, hcc, hdd⟩
      dsimp only at hi hz ha hcc hdd
      show Ok (SB_m_best_s10 v1 z a c d i) _
      rw [hst]
      have hzn := hz.1.1.1.2.2.2.1.1
      have bj := bnm_lt (k := m) hV hj
      refine Ok_ite (fun q => by rw [i32_le] at q; omega) (fun _ => Ok_rdb hi (by omega) ?_)
      have hbj : (Nm_of (Wb_blocks (SB_now z)) j).toInt = (bnm n fa fb m j : Int) := hz.1.1.1.2.2.2.2.1.2.2.1.2.1 j hj
      refine Ok_then (measure_ok hV hn hz.1.2.1 bj.1 bj.2 hbj) (fun g hg => ?_)
      obtain ⟨f, hg1, hg2⟩ := hg
      have hXd : Xd n m fa fb X (SB_set_forest z g) := by
        rw [hg1]
        have h1 : ∀ y : FoS, FoOK n fa fb m y → FoOK n fa fb m (Fo_set_away y f) := fun y h => h
        exact ⟨⟨hz.1.1, h1 _ hz.1.2.1, hz.1.2.2⟩, hz.2⟩
      have hn1 : SB_now (SB_set_forest z g) = SB_now z := rfl
      have hn2 : SB_forest (SB_set_forest z g) = g := rfl
      have hga : Fo_away g = f := by rw [hg1]; rfl
      generalize SB_set_forest z g = z2 at *
      refine Ok_upto (fun k p => p.2.2.2.toInt = ((j + 1 + k : Nat) : Int) ∧ p.1.toInt = (bsI (bsV fa fb m j) j (j + 1) k (bsO (bsV fa fb m) n j)).1 ∧ p.2.1.toInt = (bsI (bsV fa fb m j) j (j + 1) k (bsO (bsV fa fb m) n j)).2.1 ∧ p.2.2.1.toInt = (bsI (bsV fa fb m j) j (j + 1) k (bsO (bsV fa fb m) n j)).2.2) (e := n - (j + 1)) (by omega) ⟨nx_s hi (by omega), by rw [bsI_0]; exact ha, by rw [bsI_0]; exact hcc, by rw [bsI_0]; exact hdd⟩ ?_ ?_
      · intro k ⟨a, c, d, i2⟩ hk ⟨hi2, ha, hcc, hdd⟩
        dsimp only [SB_m_best_s48] at *
        rw [hn1, hn2, hga]
        have hk2 : j + 1 + k < n := by omega
        have bk := bnm_lt (k := m) hV hk2
        have hbk : (Nm_of (Wb_blocks (SB_now z)) (j + 1 + k)).toInt = (bnm n fa fb m (j + 1 + k) : Int) := hz.1.1.1.2.2.2.2.1.2.2.1.2.1 _ hk2
        have haw := hg2 _ bk.1
        rw [aw_bnm hV hj hk2] at haw
        have hge := (bsI_ok (V := bsV fa fb m j) (u := j) (o := j + 1) (k := k) (bsO_ok (W := bsV fa fb m) (n := n) (u := j))).1
        refine Ok_ite (fun q => by rw [i32_le] at q; omega) (fun _ => Ok_rdb hi2 (by omega) (Ok_rdb hbk (by omega) ?_))
        refine Ok_ile haw ha (fun q => Ok_some ⟨nx_s (k := j + 1 + k) hi2 (by omega), ?_⟩) (fun q => Ok_some ⟨nx_s (k := j + 1 + k) hi2 (by omega), ?_⟩)
        · rw [bsI_s, if_neg ?_]
          · exact ⟨ha, hcc, hdd⟩
          · by_cases q2 : ld fa fb m j = ld fa fb m (j + 1 + k)
            · rw [if_pos q2] at q
              have e : bsV fa fb m j (j + 1 + k) = ((fw fa fb (qb fa fb m) m j (j + 1 + k)).length : Int) := by unfold bsV; rw [if_pos q2]
              rw [e]; omega
            · have e : bsV fa fb m j (j + 1 + k) = 0 := by unfold bsV; rw [if_neg q2]; rfl
              rw [e]; omega
        · by_cases q2 : ld fa fb m j = ld fa fb m (j + 1 + k)
          · rw [if_pos q2] at q haw
            have e : bsV fa fb m j (j + 1 + k) = ((fw fa fb (qb fa fb m) m j (j + 1 + k)).length : Int) := by unfold bsV; rw [if_pos q2]
            rw [bsI_s, if_pos (by rw [e]; exact q)]
            exact ⟨by rw [e]; exact haw, hi, hi2⟩
          · rw [if_neg q2] at q; omega
      · intro ⟨a, c, d, i2⟩ ⟨hi2, ha, hcc, hdd⟩
        dsimp only [SB_m_best_s48] at *
        rw [hn1]
        exact Ok_ite (fun _ => Ok_omap (Ok_some ⟨nx_s hi (by omega), hXd, ha, hcc, hdd⟩)) (fun q => by rw [i32_le] at q; omega)
    · intro ⟨z, a, c, d, i⟩ ⟨hi, hz, ha, hcc, hdd⟩
      dsimp only at hi hz ha hcc hdd
      show Ok (SB_m_best_s10 v1 z a c d i) _
      rw [hst]
      have hzn := hz.1.1.1.2.2.2.1.1
      exact Ok_ite (fun _ => Ok_omap (hfin z a c d hz ha hcc hdd)) (fun q => by rw [i32_le] at q; omega)
  unfold Md_m_best
  have hB0 := bsO_ok (W := bsV fa fb m) (n := n) (u := n)
  by_cases h3 : 0 ≤ v1.toInt ∧ v1.toInt ≤ 2
  · refine T2_t2 hin h3 (T2_b2 (runsAll_ok hv hT) (fun g hg => ?_))
    have hy := Rt_y hg
    have hnn := hy.1
    refine ansX hv hd (E := if (bsO (bsV fa fb m) n n).1 = 0 then -1 else if v1 = 0 then (bsO (bsV fa fb m) n n).1 else if v1 = 1 then (bsO (bsV fa fb m) n n).2.1 else (bsO (bsV fa fb m) n n).2.2) (hC (fun z a c d i => rfl) (fun z a c d hz ha hcc hdd => ?_)) ?_
    · by_cases e0 : (bsO (bsV fa fb m) n n).1 = 0
      · obtain ⟨b1, b2⟩ := hB0.2 e0
        rw [if_pos e0]
        refine Ok_ite (fun _ => Ok_ite (fun _ => Ok_some ⟨i32_m1, hz⟩) (fun q => absurd (i32_ext (by rw [ha, e0]; rfl)) q)) (fun _ => Ok_ite (fun _ => Ok_some ⟨by show c.toInt = -1; rw [hcc, b1], hz⟩) (fun _ => Ok_ite (fun _ => Ok_some ⟨by show d.toInt = -1; rw [hdd, b2], hz⟩) (fun _ => Ok_some ⟨i32_m1, hz⟩)))
      · rw [if_neg e0]
        by_cases q0 : v1 = 0
        · rw [if_pos q0, if_pos q0]
          exact Ok_ite (fun z => absurd (by rw [← ha, z]; rfl) e0) (fun _ => Ok_some ⟨ha, hz⟩)
        · rw [if_neg q0, if_neg q0]
          by_cases q1 : v1 = 1
          · rw [if_pos q1, if_pos q1]; exact Ok_some ⟨hcc, hz⟩
          · rw [if_neg q1, if_neg q1]
            refine Ok_ite (fun _ => Ok_some ⟨hdd, hz⟩) (fun q2 => ?_)
            exfalso
            have z0 : v1.toInt ≠ 0 := fun e => q0 (i32_ext (by rw [e]; rfl))
            have z1 : v1.toInt ≠ 1 := fun e => q1 (i32_ext (by rw [e]; rfl))
            have z2 : v1.toInt ≠ 2 := fun e => q2 (i32_ext (by rw [e]; rfl))
            omega
    · refine Ok_upto (fun j p => p.2.2.2.toInt = (j : Int) ∧ p.1.toInt = (bsO (bsV fa fb m) n j).1 ∧ p.2.1.toInt = (bsO (bsV fa fb m) n j).2.1 ∧ p.2.2.1.toInt = (bsO (bsV fa fb m) n j).2.2) (e := n) (by omega) ⟨i32_0, by rw [bsO_0]; exact i32_0, by rw [bsO_0]; exact i32_m1, by rw [bsO_0]; exact i32_m1⟩ ?_ ?_
      · intro j ⟨a, c, d, i⟩ hj ⟨hi, ha, hcc, hdd⟩
        dsimp only [Md_m_best_s34] at *
        refine Ok_ite (fun q => by rw [i32_le] at q; omega) (fun _ => ?_)
        refine Ok_upto (fun k p => p.2.2.2.toInt = ((j + 1 + k : Nat) : Int) ∧ p.1.toInt = (bsI (bsV fa fb m j) j (j + 1) k (bsO (bsV fa fb m) n j)).1 ∧ p.2.1.toInt = (bsI (bsV fa fb m j) j (j + 1) k (bsO (bsV fa fb m) n j)).2.1 ∧ p.2.2.1.toInt = (bsI (bsV fa fb m j) j (j + 1) k (bsO (bsV fa fb m) n j)).2.2) (e := n - (j + 1)) (by omega) ⟨nx_s hi (by omega), by rw [bsI_0]; exact ha, by rw [bsI_0]; exact hcc, by rw [bsI_0]; exact hdd⟩ ?_ ?_
        · intro k ⟨a, c, d, i2⟩ hk ⟨hi2, ha, hcc, hdd⟩
          dsimp only [Md_m_best_s49] at *
          have hk2 : j + 1 + k < n := by omega
          refine Ok_ite (fun q => by rw [i32_le] at q; omega) (fun _ => Ok_then (endedIf_ok hv hy hi hi2 hj hk2) (fun g2 hg2 => ?_))
          refine Ok_ilt ha (show g2.toInt = bsV fa fb m j (j + 1 + k) from hg2) (fun q => Ok_then (endedIf_ok hv hy hi hi2 hj hk2) (fun g3 hg3 => Ok_some ⟨nx_s (k := j + 1 + k) hi2 (by omega), ?_⟩)) (fun q => Ok_some ⟨nx_s (k := j + 1 + k) hi2 (by omega), ?_⟩)
          · rw [bsI_s, if_pos q]; exact ⟨hg3, hi, hi2⟩
          · rw [bsI_s, if_neg (by omega)]; exact ⟨ha, hcc, hdd⟩
        · intro ⟨a, c, d, i2⟩ ⟨hi2, ha, hcc, hdd⟩
          dsimp only [Md_m_best_s49] at *
          exact Ok_ite (fun _ => Ok_omap (Ok_some ⟨nx_s hi (by omega), ha, hcc, hdd⟩)) (fun q => by rw [i32_le] at q; omega)
      · intro ⟨a, c, d, i⟩ ⟨hi, ha, hcc, hdd⟩
        dsimp only [Md_m_best_s34] at *
        refine Ok_ite (fun _ => Ok_omap ?_) (fun q => by rw [i32_le] at q; omega)
        refine Ok_ieq ha i32_0 (fun e0 => ?_) (fun e0 => ?_)
        · rw [if_pos e0]; exact Ok_some ⟨i32_m1, Rt_d hg⟩
        · rw [if_neg e0]
          by_cases q0 : v1 = 0
          · rw [if_pos q0, if_pos q0]; exact Ok_some ⟨ha, Rt_d hg⟩
          · rw [if_neg q0, if_neg q0]
            by_cases q1 : v1 = 1
            · rw [if_pos q1, if_pos q1]; exact Ok_some ⟨hcc, Rt_d hg⟩
            · rw [if_neg q1, if_neg q1]; exact Ok_some ⟨hdd, Rt_d hg⟩
  · refine T2_f2 hin h3 (ansX hv hd (E := -1) (hC (fun z a c d i => rfl) (fun z a c d hz ha hcc hdd => ?_)) (Ok_some ⟨i32_m1, hT⟩))
    have z0 : v1 ≠ 0 := fun e => h3 (by rw [e]; decide)
    have z1 : v1 ≠ 1 := fun e => h3 (by rw [e]; decide)
    have z2 : v1 ≠ 2 := fun e => h3 (by rw [e]; decide)
    rw [if_neg z0, if_neg z1, if_neg z2]
    exact Ok_some ⟨i32_m1, hz⟩
end K10
