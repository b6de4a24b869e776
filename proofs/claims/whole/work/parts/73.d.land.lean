/-! CALLS 11: land, centre -/
def Jp (n j k a b : Nat) : Prop := a ≤ b ∧ b < n ∧ (a < j ∨ (a = j ∧ b < j + k))
def LI (n : Nat) (fa fb : Nat → Nat) (m l j k : Nat) (p : Int32 × Int32 × Int32 × Int32) : Prop := p.2.2.2.toInt = ((j + k : Nat) : Int) ∧ LgP n fa fb m l (Jp n j k) p.1.toInt p.2.1.toInt p.2.2.1.toInt
noncomputable def lvE (n : Nat) (fa fb : Nat → Nat) (m l : Nat) : Nat := cnt (fun b => liv (hB n fa fb m) b ∧ (lnm n fa fb m b = l ∧ dgr n fa fb m b = 1)) n
section K11
variable {fa fb ga gb : Nat → Nat} {n k m r u v a b t l kd j : Nat} {X Y : SBS} {M x y q : MdS} {best one other : Int} {J J2 : Nat → Nat → Prop}
theorem LgP_congr (h : ∀ a b, J a b ↔ J2 a b) (hL : LgP n fa fb m l J best one other) : LgP n fa fb m l J2 best one other := by
  rcases hL with ⟨e, hL⟩ | ⟨a, b, e1, e2, s1, s2, hab, e3, hL⟩
  · exact Or.inl ⟨e, fun a b hj => hL a b ((h a b).mpr hj)⟩
  · exact Or.inr ⟨a, b, e1, e2, s1, s2, hab, e3, fun a2 b2 hj => hL a2 b2 ((h a2 b2).mpr hj)⟩
theorem Jp_s {a b : Nat} (hjk : j + k < n) : Jp n j (k + 1) a b ↔ Jp n j k a b ∨ (a = j ∧ b = j + k) := by
  unfold Jp
  omega
theorem Jp_e {a b : Nat} : Jp n j (n - j) a b ↔ Jp n (j + 1) 0 a b := by
  unfold Jp
  omega
theorem LgP_skip (hjk : j + k < n) (hL : LgP n fa fb m l (Jp n j k) best one other) (hn : ¬ (SL n fa fb m l j ∧ SL n fa fb m l (j + k))) : LgP n fa fb m l (Jp n j (k + 1)) best one other := by
  rcases hL with ⟨e, hL⟩ | ⟨a, b, e1, e2, s1, s2, hab, e3, hL⟩
  · refine Or.inl ⟨e, fun a b hj s1 s2 => ?_⟩
    rcases (Jp_s hjk).mp hj with z | ⟨z1, z2⟩
    · exact hL a b z s1 s2
    · rw [z1] at s1; rw [z2] at s2; exact hn ⟨s1, s2⟩
  · refine Or.inr ⟨a, b, e1, e2, s1, s2, hab, e3, fun a2 b2 hj s3 s4 => ?_⟩
    rcases (Jp_s hjk).mp hj with z | ⟨z1, z2⟩
    · exact hL a2 b2 z s3 s4
    · rw [z1] at s3; rw [z2] at s4; exact absurd ⟨s3, s4⟩ hn
theorem LgP_take (hjk : j + k < n) (hL : LgP n fa fb m l (Jp n j k) best one other) (h1 : SL n fa fb m l j) (h2 : SL n fa fb m l (j + k)) (hd : best < dI fa fb m j (j + k)) : LgP n fa fb m l (Jp n j (k + 1)) (dI fa fb m j (j + k)) (j : Int) ((j + k : Nat) : Int) := by
  refine Or.inr ⟨j, j + k, rfl, rfl, h1, h2, by omega, rfl, fun a2 b2 hj s3 s4 => ?_⟩
  rcases (Jp_s hjk).mp hj with z | ⟨z1, z2⟩
  · rcases hL with ⟨e, hL⟩ | ⟨a, b, e1, e2, s1, s2, hab, e3, hL⟩
    · exact absurd s4 (fun q => hL a2 b2 z s3 q)
    · have := (hL a2 b2 z s3 s4).1
      exact ⟨by omega, fun q => by omega⟩
  · rw [z1, z2]
    exact ⟨Int.le_refl _, fun _ => Or.inr ⟨rfl, Nat.le_refl _⟩⟩
theorem LgP_keep (hjk : j + k < n) (hL : LgP n fa fb m l (Jp n j k) best one other) (h1 : SL n fa fb m l j) (h2 : SL n fa fb m l (j + k)) (hd : dI fa fb m j (j + k) ≤ best) (hlex : ∀ a b : Nat, one = (a : Int) → other = (b : Int) → a < j ∨ (a = j ∧ b ≤ j + k)) : LgP n fa fb m l (Jp n j (k + 1)) best one other := by
  have hd0 : 0 ≤ dI fa fb m j (j + k) := by unfold dI; omega
  rcases hL with ⟨e, hL⟩ | ⟨a, b, e1, e2, s1, s2, hab, e3, hL⟩
  · omega
  · refine Or.inr ⟨a, b, e1, e2, s1, s2, hab, e3, fun a2 b2 hj s3 s4 => ?_⟩
    rcases (Jp_s hjk).mp hj with z | ⟨z1, z2⟩
    · exact hL a2 b2 z s3 s4
    · rw [z1, z2]
      exact ⟨hd, fun _ => hlex a b e1 e2⟩
/-- where the best pair lies -/
def LgB (n j k : Nat) (one other : Int) : Prop := ∀ a b : Nat, one = (a : Int) → other = (b : Int) → a < j ∨ (a = j ∧ b ≤ j + k)
def LJ (n : Nat) (fa fb : Nat → Nat) (m l j k : Nat) (p : Int32 × Int32 × Int32 × Int32) : Prop := LI n fa fb m l j k p ∧ (p.1.toInt = -1 ∨ LgB n j k p.2.1.toInt p.2.2.1.toInt)
theorem LJ_i {c1 c2 c3 i : Int32} (h1 : i.toInt = ((j + k : Nat) : Int)) (h2 : LgP n fa fb m l (Jp n j k) c1.toInt c2.toInt c3.toInt) (h3 : c1.toInt = -1 ∨ LgB n j k c2.toInt c3.toInt) : LJ n fa fb m l j k (c1, c2, c3, i) := ⟨⟨h1, h2⟩, h3⟩
theorem longestR_ok (hv : HV n m fa fb) (h : RY n m fa fb y) {w w2 : Int32} (hw : w.toInt = (l : Int)) (hex : ∃ c, SL n fa fb m l c) : Ok (Md_m_longest y w w2) (fun r => ∃ a b, SL n fa fb m l a ∧ SL n fa fb m l b ∧ a ≤ b ∧ (∀ a2 b2, (a2 ≤ b2 ∧ b2 < n) → SL n fa fb m l a2 → SL n fa fb m l b2 → dI fa fb m a2 b2 ≤ dI fa fb m a b ∧ (dI fa fb m a2 b2 = dI fa fb m a b → a < a2 ∨ (a = a2 ∧ b ≤ b2))) ∧ (w2 = 0 → r.toInt = dI fa fb m a b) ∧ (w2 = 1 → r.toInt = (a : Int)) ∧ (w2 ≠ 0 → w2 ≠ 1 → r.toInt = (b : Int))) := by
  have hn := hv.2.1
  have hV := hv.2.2.2.1
  have hnn := h.1
  unfold Md_m_longest
  refine Ok_upto (fun j p => LJ n fa fb m l j 0 p) (e := n) (by omega) (LJ_i i32_0 (Or.inl ⟨i32_m1, fun a b hj => by unfold Jp at hj; omega⟩) (Or.inl i32_m1)) ?_ ?_
  · intro j ⟨c1, c2, c3, i⟩ hj ⟨⟨hi, hL⟩, hB0⟩
    dsimp only at hi hL hB0
    dsimp only [Md_m_longest_s11]
    refine Ok_ite (fun q => by rw [i32_le] at q; omega) (fun _ => ?_)
    refine Ok_upto (fun k p => LJ n fa fb m l j k p) (e := n - j) (by omega) (LJ_i hi hL hB0) ?_ ?_
    · intro k ⟨d1, d2, d3, i2⟩ hk ⟨⟨hi2, hL⟩, hB1⟩
      dsimp only at hi2 hL hB1
      dsimp only [Md_m_longest_s24]
      have hi' : i.toInt = (j : Int) := hi
      have hjk : j + k < n := by omega
      have hB2 : d1.toInt = -1 ∨ LgB n j (k + 1) d2.toInt d3.toInt := hB1.imp id (fun z a b e1 e2 => by have := z a b e1 e2; omega)
      have skip : ¬ (SL n fa fb m l j ∧ SL n fa fb m l (j + k)) → Ok (some (Sum.inl (d1, d2, d3, i2 + 1)) : Option ((Int32 × Int32 × Int32 × Int32) ⊕ ((Int32 × Int32 × Int32 × Int32) ⊕ Int32))) (LR (LJ n fa fb m l j (k + 1)) (LR (LJ n fa fb m l (j + 1) 0) (fun r : Int32 => ∃ a b, SL n fa fb m l a ∧ SL n fa fb m l b ∧ a ≤ b ∧ (∀ a2 b2, (a2 ≤ b2 ∧ b2 < n) → SL n fa fb m l a2 → SL n fa fb m l b2 → dI fa fb m a2 b2 ≤ dI fa fb m a b ∧ (dI fa fb m a2 b2 = dI fa fb m a b → a < a2 ∨ (a = a2 ∧ b ≤ b2))) ∧ (w2 = 0 → r.toInt = dI fa fb m a b) ∧ (w2 = 1 → r.toInt = (a : Int)) ∧ (w2 ≠ 0 → w2 ≠ 1 → r.toInt = (b : Int))))) :=
        fun hns => Ok_some (LJ_i (nx_s (k := j + k) hi2 (by omega)) (LgP_skip hjk hL hns) hB2)
      refine Ok_ite (fun q => by rw [i32_le] at q; omega) (fun _ => Ok_tf (isBlockOfR_ok hV hn h hi' hw) (fun h1 => Ok_tf (isBlockOfR_ok hV hn h hi2 hw) (fun h2 => ?_) (fun h2 => skip (fun z => h2 z.2))) (fun h1 => skip (fun z => h1 z.1)))
      have s1 : SL n fa fb m l j := h1
      have s2 : SL n fa fb m l (j + k) := h2
      have hap := apart_ok' hV hn h.2.2.2.2.2.1 hi' hi2 s1.1 s1.2.1 s2.1 s2.2.1 (SL_ld hV s1 s2)
      refine Ok_then hap (fun g hg => ?_)
      have hg' : g.toInt = dI fa fb m j (j + k) := hg
      refine Ok_ilt rfl hg' (fun q => Ok_then hap (fun g2 hg2 => Ok_some (LJ_i (nx_s (k := j + k) hi2 (by omega)) ?_ (Or.inr (fun a b e1 e2 => by omega))))) (fun q => Ok_some (LJ_i (nx_s (k := j + k) hi2 (by omega)) ?_ hB2))
      · have hg2' : g2.toInt = dI fa fb m j (j + k) := hg2
        rw [hg2', hi', hi2]
        exact LgP_take hjk hL s1 s2 q
      · refine LgP_keep hjk hL s1 s2 q (fun a b e1 e2 => ?_)
        rcases hB1 with z | z
        · have : 0 ≤ dI fa fb m j (j + k) := by unfold dI; omega
          omega
        · have := z a b e1 e2
          omega
    · intro ⟨d1, d2, d3, i2⟩ ⟨⟨hi2, hL⟩, hB1⟩
      dsimp only at hi2 hL hB1
      dsimp only [Md_m_longest_s24]
      have hi' : i.toInt = (j : Int) := hi
      refine Ok_ite (fun _ => Ok_omap (Ok_some (LJ_i (nx_s hi' (by omega)) (LgP_congr (fun a b => Jp_e) hL) ?_))) (fun q => by rw [i32_le] at q; omega)
      exact hB1.imp id (fun z a b e1 e2 => by have := z a b e1 e2; omega)
  · intro ⟨c1, c2, c3, i⟩ ⟨⟨hi, hL⟩, hB0⟩
    dsimp only at hi hL hB0
    dsimp only [Md_m_longest_s11]
    refine Ok_ite (fun _ => Ok_omap ?_) (fun q => by rw [i32_le] at q; omega)
    rcases hL with ⟨e, hL⟩ | ⟨a, b, e1, e2, s1, s2, hab, e3, hL⟩
    · obtain ⟨c, hc⟩ := hex
      exact absurd hc (fun z => hL c c (by have := z.1; unfold Jp; omega) z z)
    · have hfin : ∀ a2 b2, (a2 ≤ b2 ∧ b2 < n) → SL n fa fb m l a2 → SL n fa fb m l b2 → dI fa fb m a2 b2 ≤ dI fa fb m a b ∧ (dI fa fb m a2 b2 = dI fa fb m a b → a < a2 ∨ (a = a2 ∧ b ≤ b2)) := fun a2 b2 hj s3 s4 => by
        rw [← e3]
        exact hL a2 b2 (by unfold Jp; omega) s3 s4
      by_cases q0 : w2 = 0
      · rw [if_pos q0]
        exact Ok_some ⟨a, b, s1, s2, hab, hfin, fun _ => e3, fun z => absurd (q0.symm.trans z) (by decide), fun z => absurd q0 z⟩
      · rw [if_neg q0]
        by_cases q1 : w2 = 1
        · rw [if_pos q1]
          exact Ok_some ⟨a, b, s1, s2, hab, hfin, fun z => absurd z q0, fun _ => e1, fun _ z => absurd q1 z⟩
        · rw [if_neg q1]
          exact Ok_some ⟨a, b, s1, s2, hab, hfin, fun z => absurd z q0, fun z => absurd z q1, fun _ _ => e2⟩
/-! mending's number -/
theorem lone_lv (hV : Vd fa fb n m) (hn : n ≤ 32) : cnt (fun b => (liv (hB n fa fb m) b ∧ lnm n fa fb m b = l) ∧ cnt (fun l => brg fa fb m l ∧ (bnm n fa fb m (fa l) = b ∨ bnm n fa fb m (fb l) = b)) m = 1) n = lvE n fa fb m l := by
  refine cnt_congr (fun b hb => ?_)
  constructor
  · intro ⟨⟨h1, h2⟩, h3⟩
    rw [brg_at hV hn hb h1] at h3
    exact ⟨h1, h2, h3⟩
  · intro ⟨h1, h2, h3⟩
    exact ⟨⟨h1, h2⟩, by rw [brg_at hV hn hb h1]; exact h3⟩
theorem mendC_ok (hv : HV n m fa fb) (hc : CI n m fa fb X) {w : Int32} (hw : w.toInt = (l : Int)) : Ok (SB_m_mendOf X w) (fun r => r.toInt = (((lvE n fa fb m l + 1) / 2 : Nat) : Int)) := by
  have hn := hv.2.1
  have hle : lvE n fa fb m l ≤ n := cnt_le
  unfold SB_m_mendOf
  exact Ok_then (leavesOfC_ok hv.2.2.2.1 hn hc.2.1 hc.1.1.2.2.2.2.2.1 hw) (fun g hg => Ok_then (i32_div2 (k := lvE n fa fb m l + 1) (nx_s hg (by show lvE n fa fb m l < 1000000; omega)) (by omega)) (fun g2 hg2 => Ok_some hg2))
theorem mendR_ok (hv : HV n m fa fb) (h : RY n m fa fb y) {w : Int32} (hw : w.toInt = (l : Int)) : Ok (Md_m_mend y w) (fun r => r.toInt = (((lvE n fa fb m l + 1) / 2 : Nat) : Int)) := by
  have hn := hv.2.1
  have hle : lvE n fa fb m l ≤ n := cnt_le
  have hl := loneR_ok hv.2.2.2.1 hn hv.2.2.1 h hw
  rw [lone_lv hv.2.2.2.1 hn] at hl
  unfold Md_m_mend
  exact Ok_then hl (fun g hg => Ok_then (i32_div2 (k := lvE n fa fb m l + 1) (nx_s hg (by omega)) (by omega)) (fun g2 hg2 => Ok_some hg2))
/-- a land has a block -/
theorem SL_ex (hV : Vd fa fb n m) (hl : l < n) (hll : liv (hL n fa fb m) l) : ∃ c, SL n fa fb m l c := by
  have bl := bnm_lt (k := m) hV hl
  have hlnl : lnm n fa fb m l = l := hll
  exact ⟨_, bl.1, bl.2, ((land_same hV bl.1 hl).mpr (bnm_same (k := m) hV hl).1).trans hlnl⟩
theorem Xd_fo (hc : CI n m fa fb X) {g : FoS} (hg : FoOK n fa fb m g) : Xd n m fa fb X (SB_set_forest X g) := ⟨⟨hc.1, hg, hc.2.2⟩, rfl⟩
theorem pc_land : PC_land Inv := by
  intro X M ⟨n, m, fa, fb, hv, hc, hr, hd⟩ v1 v2
  apply pcX
  have hT : Rd n m fa fb M (Md_set_told M 0) := Rd_told hr
  unfold SB_m_land Md_m_land
  refine T2_b2 (runsAll_ok hv hT) (fun g0 hg0 => ?_)
  have hn := hv.2.1
  have hm := hv.2.2.1
  have hV := hv.2.2.2.1
  by_cases h1 : isL n fa fb m v1.toInt
  · obtain ⟨b, hb1, hb2, hb3⟩ := id h1
    refine T2_t1 (livesL_ok hv hc) h1 (T2_t2 (isLandR_ok hV hn (Rt_y hg0)) h1 (T2_b2 (lays_ok hv hg0) (fun g hgl => ?_)))
    have hg := hgl.1
    have hp := hgl.2
    have hy := Rt_y hg
    have hrd := Rt_d hg
    have hW := hc.1.1
    have hX : Xd n m fa fb X X := ⟨hc, rfl⟩
    obtain ⟨w1, wF, wE, wT, wB, wL, wP⟩ := hc.1.1
    have hlb : lnm n fa fb m b = b := hb3
    have hex := SL_ex hV hb2 hb3
    refine T2_ite (fun _ => ?_) (fun _ => T2_ite (fun _ => ?_) (fun _ => T2_ite (fun _ => ?_) (fun _ => T2_ite (fun _ => ?_) (fun _ => T2_ite (fun _ => ?_) (fun _ => T2_ite (fun _ => ?_) (fun _ => T2_ite (fun _ => ?_) (fun _ => T2_ite (fun q7 => ?_) (fun _ => T2_ite (fun q8 => ?_) (fun _ => T2_ite (fun q9 => ?_) (fun _ => T2_ite (fun _ => ?_) (fun _ => ?_)))))))))))
    · refine ansX hv hd (E := (cnt (fun v => lnm n fa fb m v = b) n : Int)) (Ok_rdb hb1 (by omega) (Ok_some ⟨?_, hX⟩)) (Ok_then (sizeOfR_ok (kd := 1) hy.1 hn i32_1 (by omega) hb1 (ry_lnd hy)) (fun g2 hg2 => Ok_some ⟨hg2, hrd⟩))
      have := land_size (m := m) hV hb2
      rw [hlb] at this
      show (Nm_size (Wb_lands (SB_now X)) b).toInt = _
      rw [wL.2.2.1.2.2.2.2.1 b hb2, this]
    · exact ansX hv hd (Ok_then (blocksOfC_ok hV hn hc.2.1 wL hb1) (fun g2 hg2 => Ok_some ⟨hg2, hX⟩)) (Ok_then (blocksOfR_ok hV hn hy hb1) (fun g2 hg2 => Ok_some ⟨hg2, hrd⟩))
    · refine ansX hv hd (Ok_then (bridgesOfC_ok hV hW hn hm hb1) (fun g2 hg2 => Ok_some ⟨hg2, hX⟩)) (Ok_then (linksOfR_ok (w2 := 1) hV hn hm hy hb1) (fun g2 hg2 => Ok_some ⟨hg2.trans (congrArg (fun z : Nat => (z : Int)) (cnt_congr (fun i hi => ⟨fun z => ⟨z.2 (by decide), z.1⟩, fun z => ⟨z.2, fun _ => z.1⟩⟩))), hrd⟩))
    · refine ansX hv hd (Ok_then (linksOfC_ok hV hW hn hm hb1) (fun g2 hg2 => Ok_some ⟨hg2, hX⟩)) (Ok_then (linksOfR_ok (w2 := 0) hV hn hm hy hb1) (fun g2 hg2 => Ok_some ⟨hg2.trans (congrArg (fun z : Nat => (z : Int)) (cnt_congr (fun i hi => ⟨fun z => z.1, fun z => ⟨z, fun z2 => absurd i32_0 z2⟩⟩))), hrd⟩))
    · exact ansX hv hd (Ok_then (rootOfC_ok hV hn hc.2.1 wL hb1 hb2 hb3) (fun g2 hg2 => Ok_some ⟨hg2, hX⟩)) (Ok_then (rootOfR_ok hV hn hy hb1 hb2) (fun g2 hg2 => Ok_some ⟨hg2, hrd⟩))
    · exact ansX hv hd (Ok_then (mendC_ok hv hc hb1) (fun g2 hg2 => Ok_some ⟨hg2, hX⟩)) (Ok_then (mendR_ok hv hy hb1) (fun g2 hg2 => Ok_some ⟨hg2, hrd⟩))
    · exact ansX hv hd (Ok_then (cutsOfC_ok hc.2.2 hn hm wL hb1) (fun g2 hg2 => Ok_some ⟨hg2, hX⟩)) (Ok_then (cutsOfR_ok hV hn hm hy hp hb1) (fun g2 hg2 => Ok_some ⟨hg2, hrd⟩))
    · unfold Md_m_land_j125
      refine T2_b2 (longestR_ok (w2 := v2 - 7) hv hy hb1 hex) (fun g2 hg2 => ?_)
      obtain ⟨a, c, s1, s2, hac, hf, e1, _, _⟩ := hg2
      have hfc := lg_facts (one := 0) (other := 0) hV s1 s2 hac rfl hf
      refine ansX hv hd (E := lgE n fa fb m b) (Ok_then (longestC_ok hV hn hc.2.1 wL hb1) (fun g3 hg3 => Ok_some ⟨hg3.1, Xd_fo hc hg3.2⟩)) (Ok_some ⟨?_, hrd⟩)
      show g2.toInt = _
      rw [e1 (by rw [q7]; decide), hfc.1]
    · unfold Md_m_land_j125
      refine T2_b2 (longestR_ok (w2 := v2 - 7) hv hy hb1 hex) (fun g2 hg2 => ?_)
      obtain ⟨a, c, s1, s2, hac, hf, _, e1, _⟩ := hg2
      have hfc := lg_facts (one := 0) (other := 0) hV s1 s2 hac rfl hf
      rw [← hfc.1] at hfc
      exact ansX hv hd (E := (a : Int)) (Ok_then (longestLesserC_ok hV hn hc.2.1 wL hb1 s1 hfc.2.1 hfc.2.2.1) (fun g3 hg3 => Ok_some ⟨hg3.1, Xd_fo hc hg3.2⟩)) (Ok_some ⟨e1 (by rw [q8]; decide), hrd⟩)
    · unfold Md_m_land_j125
      refine T2_b2 (longestR_ok (w2 := v2 - 7) hv hy hb1 hex) (fun g2 hg2 => ?_)
      obtain ⟨a, c, s1, s2, hac, hf, _, _, e1⟩ := hg2
      have hfc := lg_facts (one := 0) (other := 0) hV s1 s2 hac rfl hf
      have heb := hfc.1.symm
      rw [← hfc.1] at hfc
      exact ansX hv hd (E := (c : Int)) (Ok_then (longestOtherC_ok hV hn hc.2.1 wL hb1 s1 hfc.2.1 hfc.2.2.1 s2 heb hfc.2.2.2.1) (fun g3 hg3 => Ok_some ⟨hg3.1, Xd_fo hc hg3.2⟩)) (Ok_some ⟨e1 (by rw [q9]; decide) (by rw [q9]; decide), hrd⟩)
    · refine ansX hv hd (E := (pcn fa fb m (fun l => lnm n fa fb m (fa l) = b ∧ lnm n fa fb m (fb l) = b) : Int)) (Ok_then (allAtC_ok hc.2.2 hn wL hb1) (fun g2 hg2 => Ok_then (bitCount_ok _) (fun g3 hg3 => Ok_some ⟨?_, hX⟩))) (Ok_then (partsIn_ok (kd := 1) (f := lnm n fa fb m) hV hn hm hy hp i32_1 (by omega) hb1 (ry_lnd hy)) (fun g2 hg2 => Ok_some ⟨?_, hrd⟩))
      · show g3.toInt = _
        rw [hg3, ← pcn_pnm hm]
        refine congrArg (fun z : Nat => (z : Int)) (cnt_congr (fun q hq => ?_))
        rw [hg2 q hq]
        constructor
        · intro ⟨l, hl, ⟨v, hvn, h2, h3⟩, e⟩
          have h5 := lnm_link (n := n) hV hl
          refine ⟨l, hl, ?_, e⟩
          rcases h3 with h3 | h3
          · have h6 : lnm n fa fb m (fa l) = b := by rw [h3]; exact h2
            exact ⟨h6, h5.symm.trans h6⟩
          · have h6 : lnm n fa fb m (fb l) = b := by rw [h3]; exact h2
            exact ⟨h5.trans h6, h6⟩
        · intro ⟨l, hl, ⟨h2, h3⟩, e⟩
          exact ⟨l, hl, ⟨fa l, (hV l hl).1, h2, Or.inl rfl⟩, e⟩
      · show g2.toInt = _
        rw [hg2, partsIn_pcn (fun a c ha hc2 e => part_lnd hV ha hc2 e)]
    · exact T2_some ⟨rfl, Inv_of hv hc hd hrd⟩
  · exact T2_f1 (livesL_ok hv hc) h1 (T2_f2 (isLandR_ok hV hn (Rt_y hg0)) h1 (T2_some ⟨rfl, Inv_of hv hc hd (Rt_d hg0)⟩))
end K11
