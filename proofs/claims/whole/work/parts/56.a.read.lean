/-! CLASS 7: Forest: read off a web: parents, children -/
def fP (n : Nat) (fa fb : Nat → Nat) (k b : Nat) : Int × Int := if bnm n fa fb k b = b then bup n fa fb k b else (-1, -1)
def lst (L : List Nat) : Int := match L.getLast? with
  | some x => (x : Int)
  | none => -1
theorem lst_nil : lst [] = -1 := rfl
theorem lst_app {L : List Nat} {c : Nat} : lst (L ++ [c]) = (c : Int) := by
  unfold lst
  rw [List.getLast?_concat]
theorem lst_neg {L : List Nat} : lst L = -1 ↔ L = [] := by
  unfold lst
  cases h : L.getLast? with
  | none => exact ⟨fun _ => List.getLast?_eq_none_iff.mp h, fun _ => rfl⟩
  | some x =>
    constructor
    · intro q
      have q : (x : Int) = -1 := q
      omega
    · intro q; rw [q] at h; cases h
section W56a
variable {fa fb : Nat → Nat} {n k u v b t y r : Nat} {x : FoS} {w : WbS} {L : List (Nat × Nat)}
def F1 (n : Nat) (fa fb : Nat → Nat) (k : Nat) (x : FoS) : Prop := (Fo_names x).toInt = (n : Int) ∧ ∀ b, b < n → (Fo_parent x b).toInt = (fP n fa fb k b).1 ∧ (Fo_upLink x b).toInt = (fP n fa fb k b).2 ∧ (Fo_below x b).toInt = (cnt (fun v => bnm n fa fb k v = b) n : Int)
def F1z (n : Nat) (x : FoS) : Prop := ∀ b, b < n → (Fo_children x b).toInt = 0 ∧ (Fo_bridgesAt x b).toInt = 0 ∧ (Fo_lastChild x b).toInt = -1 ∧ (Fo_childBefore x b).toInt = -1
theorem up1_bup (hV : Vd fa fb n k) (hv : v < n) {t y : Nat} (e : up1 n fa fb k v = ((y : Int), (t : Int))) (hq : qb fa fb k t = true) : bup n fa fb k (bnm n fa fb k v) = ((bnm n fa fb k y : Int), (t : Int)) ∧ y < n ∧ t < k := by
  have hvr := ((hR_ok hV).1 v hv).2.symm
  unfold up1 at e
  cases hp : pa fa fb k v (hR n fa fb k v) with
  | nil =>
    rw [hp] at e
    have := congrArg Prod.fst e
    have this : (-1 : Int) = (y : Int) := this
    omega
  | cons s M =>
    obtain ⟨t2, y2⟩ := s
    rw [hp] at e
    have e1 := congrArg Prod.fst e
    have e2 := congrArg Prod.snd e
    have e1 : (y2 : Int) = (y : Int) := e1
    have e2 : (t2 : Int) = (t : Int) := e2
    have hy : y2 = y := by omega
    have ht : t2 = t := by omega
    subst hy ht
    have hd := pa_hd hvr hp
    refine ⟨?_, (isE_lt hV hd.1 hd.2.2.1).2, hd.1⟩
    rw [bup_bnm hV hv]
    have : fw fa fb (qb fa fb k) k v (hR n fa fb k v) = (t2, y2) :: M.filter (fun s => qb fa fb k s.1) := by unfold fw; rw [hp, List.filter_cons, if_pos hq]
    rw [this]
    rfl
theorem readNodes_ok (hV : Vd fa fb n k) (hn : n ≤ 32) (hk : k ≤ 64) (hT : TrOK n k fa fb w) (hE : EndOK k fa fb w) (hB : NmOK 32 n (hB n fa fb k) (Wb_blocks w)) (h0 : (Fo_names x).toInt = (n : Int)) (h1 : ∀ b, b < n → (Fo_parent x b).toInt = -1 ∧ (Fo_upLink x b).toInt = -1 ∧ (Fo_below x b).toInt = 0) (hz : F1z n x) :
    Ok (Fo_m_readNodes x w) (fun q => F1 n fa fb k q ∧ F1z n q) := by
  have ho := hB.2.2.1.2.1
  obtain ⟨hnd, hup⟩ := hT
  unfold Fo_m_readNodes
  refine Ok_for n (fun j y => (Fo_names y).toInt = (n : Int) ∧ F1z n y ∧ (∀ b, b < n → (Fo_below y b).toInt = (cnt (fun v => bnm n fa fb k v = b) j : Int)) ∧
      (∀ b, b < n → ((Fo_parent y b).toInt = (fP n fa fb k b).1 ∧ (Fo_upLink y b).toInt = (fP n fa fb k b).2) ∨ ((Fo_parent y b).toInt = -1 ∧ (Fo_upLink y b).toInt = -1 ∧ ∀ v t z : Nat, v < j → bnm n fa fb k v = b → up1 n fa fb k v = ((z : Int), (t : Int)) → qb fa fb k t = false))) (by omega) i32_0 ⟨h0, hz, fun b hb => (h1 b hb).2.2, fun b hb => Or.inr ⟨(h1 b hb).1, (h1 b hb).2.1, fun v t z hv => absurd hv (Nat.not_lt_zero v)⟩⟩ ?_ ?_
  · intro j y i hj hi ⟨y0, yz, yb, yp⟩
    dsimp only [Fo_m_readNodes_s2]
    refine Ok_ite (fun q => by rw [i32_le] at q; omega) (fun _ => ?_)
    have hj32 := Nat.lt_of_lt_of_le hj hn
    have hbj := bnm_lt (k := k) (fa := fa) (fb := fb) hV hj
    have hb32 := Nat.lt_of_lt_of_le hbj.1 hn
    have oj : (Nm_of (Wb_blocks w) j).toInt = (bnm n fa fb k j : Int) := ho j hj
    refine Ok_rdb hi hj32 (Ok_rdb oj hb32 (Ok_wrb oj hb32 (Ok_rdb hi hj32 ?_)))
    have hbel : ∀ b, b < n → (va_up (Fo_below y) (bnm n fa fb k j) (Fo_below y (bnm n fa fb k j) + 1) b).toInt = (cnt (fun v => bnm n fa fb k v = b) (j + 1) : Int) := by
      intro b hb
      by_cases e : b = bnm n fa fb k j
      · rw [e, vu_s, cnt_t (P := fun v => bnm n fa fb k v = bnm n fa fb k j) rfl]
        have := cnt_le (P := fun v => bnm n fa fb k v = bnm n fa fb k j) (n := j)
        exact nx_s (yb _ hbj.1) (by omega)
      · rw [vu_n e, cnt_f (P := fun v => bnm n fa fb k v = b) (fun z => e z.symm)]
        exact yb b hb
    have hu := hup j hj
    -- no bridge up from this node
    have none : (∀ t z : Nat, up1 n fa fb k j = ((z : Int), (t : Int)) → qb fa fb k t = false) → Ok (some (Sum.inl (Fo_set_below y (va_up (Fo_below y) (bnm n fa fb k j) (Fo_below y (bnm n fa fb k j) + 1)), i + 1)) : Option ((FoS × Int32) ⊕ FoS))
        (LR (fun p => p.2.toInt = ((j + 1 : Nat) : Int) ∧ (Fo_names p.1).toInt = (n : Int) ∧ F1z n p.1 ∧ (∀ b, b < n → (Fo_below p.1 b).toInt = (cnt (fun v => bnm n fa fb k v = b) (j + 1) : Int)) ∧
      (∀ b, b < n → ((Fo_parent p.1 b).toInt = (fP n fa fb k b).1 ∧ (Fo_upLink p.1 b).toInt = (fP n fa fb k b).2) ∨ ((Fo_parent p.1 b).toInt = -1 ∧ (Fo_upLink p.1 b).toInt = -1 ∧ ∀ v t z : Nat, v < j + 1 → bnm n fa fb k v = b → up1 n fa fb k v = ((z : Int), (t : Int)) → qb fa fb k t = false))) (fun q => F1 n fa fb k q ∧ F1z n q)) := by
      intro hno
      refine Ok_some ⟨nx_s hi (mil hj32), y0, yz, hbel, fun b hb => ?_⟩
      rcases yp b hb with g | ⟨g1, g2, g3⟩
      · exact Or.inl g
      · refine Or.inr ⟨g1, g2, fun v t z hv hvb hvu => ?_⟩
        by_cases e : v = j
        · rw [e] at hvu; exact hno t z hvu
        · exact g3 v t z (by omega) hvb hvu
    refine Ok_ite (fun q => ?_) (fun q => ?_)
    · refine none (fun t z e => ?_)
      have e2 := congrArg Prod.snd e
      have e2 : (up1 n fa fb k j).2 = (t : Int) := e2
      rw [i32_eq, hu.2, e2, i32_m1] at q
      omega
    · -- the link up
      have hvr := ((hR_ok hV).1 j hj).2.symm
      cases hp : pa fa fb k j (hR n fa fb k j) with
      | nil =>
        exfalso
        apply q
        have := (up1_r (n := n) rfl hp).2
        exact i32_ext (by rw [hu.2, this, i32_m1])
      | cons s M =>
        obtain ⟨t, z⟩ := s
        have e1 := up1_s hV hvr rfl hp
        have hd := pa_hd hvr hp
        have hzn := (isE_lt hV hd.1 hd.2.2.1).2
        have hut : (Wb_upLink w j).toInt = (t : Int) := hu.2.trans e1.2
        have huz : (Wb_up w j).toInt = (z : Int) := hu.1.trans e1.1
        have hup1 : up1 n fa fb k j = ((z : Int), (t : Int)) := Prod.ext e1.1 e1.2
        refine Ok_then (isBr_ok hE hk hut hd.1) (fun g hg => Ok_ite (fun q2 => ?_) (fun q2 => ?_))
        · rw [hg] at q2
          have hbz := bnm_lt (k := k) (fa := fa) (fb := fb) hV hzn
          have oz : (Nm_of (Wb_blocks w) z).toInt = (bnm n fa fb k z : Int) := ho z hzn
          refine Ok_rdb hi hj32 (Ok_rdb huz (Nat.lt_of_lt_of_le hzn hn) (Ok_wrb oj hb32 (Ok_wrb oj hb32 (Ok_some ⟨nx_s hi (mil hj32), y0, yz, hbel, fun b hb => ?_⟩))))
          have hbup := (up1_bup hV hj hup1 q2).1
          by_cases e : b = bnm n fa fb k j
          · left
            have hf : fP n fa fb k b = bup n fa fb k b := if_pos (by rw [e]; exact hbj.2)
            show (va_up (Fo_parent y) (bnm n fa fb k j) (Nm_of (Wb_blocks w) z) b).toInt = _ ∧ (va_up (Fo_upLink y) (bnm n fa fb k j) (Wb_upLink w j) b).toInt = _
            rw [hf, e, vu_s, vu_s, hbup]
            exact ⟨oz, hut⟩
          · show ((va_up (Fo_parent y) (bnm n fa fb k j) (Nm_of (Wb_blocks w) z) b).toInt = _ ∧ (va_up (Fo_upLink y) (bnm n fa fb k j) (Wb_upLink w j) b).toInt = _) ∨ ((va_up (Fo_parent y) (bnm n fa fb k j) (Nm_of (Wb_blocks w) z) b).toInt = -1 ∧ (va_up (Fo_upLink y) (bnm n fa fb k j) (Wb_upLink w j) b).toInt = -1 ∧ _)
            rw [vu_n e, vu_n e]
            rcases yp b hb with g | ⟨g1, g2, g3⟩
            · exact Or.inl g
            · refine Or.inr ⟨g1, g2, fun v t' z' hv hvb hvu => ?_⟩
              by_cases ej : v = j
              · rw [ej] at hvb; exact absurd hvb.symm e
              · exact g3 v t' z' (by omega) hvb hvu
        · rw [hg] at q2
          refine none (fun t' z' e => ?_)
          rw [hup1] at e
          have e2 := congrArg Prod.snd e
          have e2 : (t : Int) = (t' : Int) := e2
          have : t = t' := by omega
          rw [← this]
          simpa using q2
  · intro y i hi ⟨y0, yz, yb, yp⟩
    dsimp only [Fo_m_readNodes_s2]
    refine Ok_ite (fun _ => Ok_omap (Ok_some ⟨⟨y0, fun b hb => ?_⟩, yz⟩)) (fun q => by rw [i32_le] at q; omega)
    have goal : (Fo_parent y b).toInt = (fP n fa fb k b).1 ∧ (Fo_upLink y b).toInt = (fP n fa fb k b).2 := by
      rcases yp b hb with g | ⟨g1, g2, g3⟩
      · exact g
      · have hf : fP n fa fb k b = (-1, -1) := by
          unfold fP
          by_cases c : bnm n fa fb k b = b
          · rw [if_pos c]
            unfold bup
            have hbr := ((hR_ok hV).1 b hb).2.symm
            cases hp : fw fa fb (qb fa fb k) k b (hR n fa fb k b) with
            | nil => rfl
            | cons s M =>
              obtain ⟨t, z⟩ := s
              obtain ⟨v, q1, q2, q3, q4, q5, q6, q7, q8, q9, q10⟩ := fw_hd hbr hp
              have hv := (isE_lt hV q6 q8).1
              have hvb : bnm n fa fb k v = b := by
                rw [← (NmQ_b (n := n) hV b v hb hv).mpr ⟨q1, q2⟩]; exact c
              have hrv : hR n fa fb k v = hR n fa fb k b := (hR_ok hV).2 v b q1.symm
              have e1 := up1_s hV (q1.symm.trans hbr) hrv q3
              have := g3 v t z hv hvb (Prod.ext e1.1 e1.2)
              rw [q5] at this; cases this
          · rw [if_neg c]
        rw [hf]
        exact ⟨g1, g2⟩
    exact ⟨goal.1, goal.2, yb b hb⟩
noncomputable def nch (n : Nat) (fa fb : Nat → Nat) (k b j : Nat) : Nat := cnt (fun c => (fP n fa fb k c).1 = (b : Int)) j
noncomputable def cl (n : Nat) (fa fb : Nat → Nat) (k : Nat) (b : Int) (j : Nat) : List Nat := fl (fun c => (fP n fa fb k c).1 = b) (fun c => c) j
def F2 (n : Nat) (fa fb : Nat → Nat) (k : Nat) (x : FoS) : Prop := F1 n fa fb k x ∧ ∀ b, b < n → (Fo_children x b).toInt = (nch n fa fb k b n : Int) ∧ (Fo_bridgesAt x b).toInt = (nch n fa fb k b n : Int) + (bb ((fP n fa fb k b).1 ≠ -1) : Int) ∧ (Fo_lastChild x b).toInt = lst (cl n fa fb k b n) ∧ ((fP n fa fb k b).1 ≠ -1 → (Fo_childBefore x b).toInt = lst (cl n fa fb k (fP n fa fb k b).1 b))
theorem fP_ok (hV : Vd fa fb n k) (hb : b < n) : (fP n fa fb k b).1 = -1 ∨ ∃ c, c < n ∧ (fP n fa fb k b).1 = (c : Int) ∧ liv (hB n fa fb k) c := by
  unfold fP
  by_cases c : bnm n fa fb k b = b
  · rw [if_pos c]
    unfold bup
    have hbr := ((hR_ok hV).1 b hb).2.symm
    cases hp : fw fa fb (qb fa fb k) k b (hR n fa fb k b) with
    | nil => exact Or.inl rfl
    | cons s M =>
      have hs := fw_hd_lt (t := s.1) (y := s.2) hV hbr hp
      have := bnm_lt (k := k) (fa := fa) (fb := fb) hV hs.1
      exact Or.inr ⟨_, this.1, rfl, this.2⟩
  · rw [if_neg c]; exact Or.inl rfl
theorem hang_ok (hV : Vd fa fb n k) (hn : n ≤ 32) (h1 : F1 n fa fb k x) (hz : F1z n x) : Ok (Fo_m_hangChildren x) (F2 n fa fb k) := by
  unfold Fo_m_hangChildren
  refine Ok_for n (fun j y => F1 n fa fb k y ∧ (∀ b, b < n → (Fo_children y b).toInt = (nch n fa fb k b j : Int) ∧ (Fo_bridgesAt y b).toInt = (nch n fa fb k b j : Int) + (bb (b < j ∧ (fP n fa fb k b).1 ≠ -1) : Int) ∧ (Fo_lastChild y b).toInt = lst (cl n fa fb k b j)) ∧
      ∀ b, b < j → (fP n fa fb k b).1 ≠ -1 → (Fo_childBefore y b).toInt = lst (cl n fa fb k (fP n fa fb k b).1 b)) (by omega) i32_0 ⟨h1, fun b hb => ?_, fun b hb => absurd hb (Nat.not_lt_zero b)⟩ ?_ ?_
  · have := hz b hb
    rw [bb_f (fun z => absurd z.1 (Nat.not_lt_zero b))]
    exact ⟨this.1, this.2.1, this.2.2.1⟩
  · intro j y i hj hi ⟨y1, y2, y3⟩
    dsimp only [Fo_m_hangChildren_s2]
    have hj32 := Nat.lt_of_lt_of_le hj hn
    refine Ok_ite (fun q => by have := y1.1; rw [i32_le] at q; omega) (fun _ => Ok_rdb hi hj32 ?_)
    have hpj := (y1.2 j hj).1
    rcases fP_ok hV hj with e | ⟨a, ha, e, hal⟩
    · refine Ok_ite (fun _ => ?_) (fun q => absurd (i32_ext (by rw [hpj, e, i32_m1])) q)
      refine Ok_some ⟨nx_s hi (mil hj32), y1, fun b hb => ?_, fun b hb hb1 => ?_⟩
      · have h0 : ¬ (fP n fa fb k j).1 = (b : Int) := by rw [e]; omega
        have e1 : nch n fa fb k b (j + 1) = nch n fa fb k b j := cnt_f (P := fun c => (fP n fa fb k c).1 = (b : Int)) h0
        have e2 : cl n fa fb k b (j + 1) = cl n fa fb k b j := fl_f (P := fun c => (fP n fa fb k c).1 = (b : Int)) h0
        have e3 : bb (b < j + 1 ∧ (fP n fa fb k b).1 ≠ -1) = bb (b < j ∧ (fP n fa fb k b).1 ≠ -1) := bb_congr ⟨fun z => ⟨by
          have : b ≠ j := fun q => z.2 (q ▸ e)
          omega, z.2⟩, fun z => ⟨by omega, z.2⟩⟩
        rw [e1, e2, e3]
        exact y2 b hb
      · have : b ≠ j := fun q => hb1 (q ▸ e)
        exact y3 b (by omega) hb1
    · refine Ok_ite (fun q => by rw [i32_eq, hpj, e, i32_m1] at q; omega) (fun _ => ?_)
      have hpa : (Fo_parent y j).toInt = (a : Int) := hpj.trans e
      have ha32 := Nat.lt_of_lt_of_le ha hn
      have ya := y2 a ha
      refine Ok_rdb hpa ha32 (Ok_wrb hi hj32 (Ok_wrb hpa ha32 (Ok_rdb hpa ha32 (Ok_wrb hpa ha32 (Ok_rdb hpa ha32 (Ok_wrb hpa ha32 (Ok_rdb hi hj32 (Ok_wrb hi hj32 (Ok_some ?_)))))))))
      have nle : ∀ b, nch n fa fb k b j ≤ j := fun b => cnt_le
      refine ⟨nx_s hi (mil hj32), y1, fun b hb => ⟨?_, ?_, ?_⟩, fun b hb hb1 => ?_⟩
      · show (va_up (Fo_children y) a (Fo_children y a + 1) b).toInt = _
        by_cases eb : b = a
        · rw [eb, vu_s]
          have e1 : nch n fa fb k a (j + 1) = nch n fa fb k a j + 1 := cnt_t (P := fun c => (fP n fa fb k c).1 = (a : Int)) e
          rw [e1]
          exact nx_s ya.1 (by have := nle a; omega)
        · have e1 : nch n fa fb k b (j + 1) = nch n fa fb k b j := cnt_f (P := fun c => (fP n fa fb k c).1 = (b : Int)) (by rw [e]; omega)
          rw [vu_n eb, e1]
          exact (y2 b hb).1
      · show (va_up (va_up (Fo_bridgesAt y) a (Fo_bridgesAt y a + 1)) j (va_up (Fo_bridgesAt y) a (Fo_bridgesAt y a + 1) j + 1) b).toInt = _
        have val : ∀ c, c < n → (va_up (Fo_bridgesAt y) a (Fo_bridgesAt y a + 1) c).toInt = ((nch n fa fb k c (j + 1) + bb (c < j ∧ (fP n fa fb k c).1 ≠ -1) : Nat) : Int) := by
          intro c hc
          have hbb : bb (c < j ∧ (fP n fa fb k c).1 ≠ -1) ≤ 1 := by
            by_cases z : (c < j ∧ (fP n fa fb k c).1 ≠ -1)
            · rw [bb_t z]; exact Nat.le_refl 1
            · rw [bb_f z]; exact Nat.zero_le 1
          by_cases ec : c = a
          · rw [ec, vu_s]
            rw [ec] at hbb
            have e1 : nch n fa fb k a (j + 1) = nch n fa fb k a j + 1 := cnt_t (P := fun c => (fP n fa fb k c).1 = (a : Int)) e
            have h2 : (Fo_bridgesAt y a).toInt = ((nch n fa fb k a j + bb (a < j ∧ (fP n fa fb k a).1 ≠ -1) : Nat) : Int) := by rw [ya.2.1]; omega
            rw [nx_s h2 (by have := nle a; omega), e1]
            omega
          · have e1 : nch n fa fb k c (j + 1) = nch n fa fb k c j := cnt_f (P := fun d => (fP n fa fb k d).1 = (c : Int)) (by rw [e]; omega)
            rw [vu_n ec, e1, (y2 c hc).2.1]; omega
        by_cases eb : b = j
        · rw [eb, vu_s]
          have hv := val j hj
          rw [bb_f (fun z => absurd z.1 (Nat.lt_irrefl j)), Nat.add_zero] at hv
          have nle2 : nch n fa fb k j (j + 1) ≤ j + 1 := cnt_le
          rw [nx_s hv (by omega), bb_t ⟨by omega, by rw [e]; omega⟩]
          omega
        · rw [vu_n eb, val b hb]
          have e3 : bb (b < j + 1 ∧ (fP n fa fb k b).1 ≠ -1) = bb (b < j ∧ (fP n fa fb k b).1 ≠ -1) := bb_congr ⟨fun z => ⟨by omega, z.2⟩, fun z => ⟨by omega, z.2⟩⟩
          rw [e3]; omega
      · show (va_up (Fo_lastChild y) a i b).toInt = _
        by_cases eb : b = a
        · rw [eb, vu_s]
          have e1 : cl n fa fb k a (j + 1) = cl n fa fb k a j ++ [j] := fl_t (P := fun c => (fP n fa fb k c).1 = (a : Int)) e
          rw [e1, lst_app]; exact hi
        · have e1 : cl n fa fb k b (j + 1) = cl n fa fb k b j := fl_f (P := fun c => (fP n fa fb k c).1 = (b : Int)) (by rw [e]; omega)
          rw [vu_n eb, e1]
          exact (y2 b hb).2.2
      · show (va_up (Fo_childBefore y) j (Fo_lastChild y a) b).toInt = _
        by_cases eb : b = j
        · rw [eb, vu_s, e]; exact ya.2.2
        · rw [vu_n eb]; exact y3 b (by omega) hb1
  · intro y i hi ⟨y1, y2, y3⟩
    dsimp only [Fo_m_hangChildren_s2]
    refine Ok_ite (fun _ => Ok_omap (Ok_some ⟨y1, fun b hb => ?_⟩)) (fun q => by have := y1.1; rw [i32_le] at q; omega)
    have := y2 b hb
    rw [bb_congr (show (b < n ∧ (fP n fa fb k b).1 ≠ -1) ↔ (fP n fa fb k b).1 ≠ -1 from ⟨fun z => z.2, fun z => ⟨hb, z⟩⟩)] at this
    exact ⟨this.1, this.2.1, this.2.2, y3 b hb⟩
end W56a
