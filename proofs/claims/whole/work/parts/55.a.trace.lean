/-! CLASS 3: Web: the tree's way -/
def idn (v : Nat) : Nat := v
/-- the step up of a node -/
def up1 (n : Nat) (fa fb : Nat → Nat) (k v : Nat) : Int × Int := hdw idn (-1, -1) (pa fa fb k v (hR n fa fb k v))
def TrOK (n k : Nat) (fa fb : Nat → Nat) (x : WbS) : Prop := (Wb_nodes x).toInt = (n : Int) ∧ ∀ v, v < n → (Wb_up x v).toInt = (up1 n fa fb k v).1 ∧ (Wb_upLink x v).toInt = (up1 n fa fb k v).2
def WayOK (u : Nat) (P : List (Nat × Nat)) (x : WbS) : Prop := (Wb_wayNode x 0).toInt = (u : Int) ∧ ∀ (i : Nat) (s : Nat × Nat), P[i]? = some s → (Wb_wayLink x i).toInt = (s.1 : Int) ∧ (Wb_wayNode x (i + 1)).toInt = (s.2 : Int)
section W55
variable {fa fb : Nat → Nat} {n k u v a b y t r : Nat} {x : WbS} {L M : List (Nat × Nat)}
theorem NmQ_id : NmQ fa fb (fun _ => true) idn n k := NmQ_1
theorem fw_true : fw fa fb (fun _ => true) k u v = pa fa fb k u v := fw_all (fun _ _ => rfl)
theorem pa_len (hV : Vd fa fb n k) (hu : u < n) (hl : ld fa fb k u = ld fa fb k v) : (pa fa fb k u v).length < n := by
  have hnd := nm_nodup (q := fun _ => true) (nm := idn) (v := v) hV NmQ_id rfl hu hl
  rw [fw_true] at hnd
  have := List.Nodup.length_le_of_subset hnd (l₂ := List.range n) (fun c hc => ?_)
  · rw [List.length_cons, nmL, List.length_map, List.length_range] at this
    omega
  · rw [List.mem_range]
    have hc' : c ∈ nds u (pa fa fb k u v) := hc
    exact nds_lt (pa_W hl) (fun l q => hV l q.1) hu c hc'
/-- up from a node that is not the root -/
theorem up1_s (hV : Vd fa fb n k) (hl : ld fa fb k a = ld fa fb k r) (hr : hR n fa fb k a = r) (e : pa fa fb k a r = (t, y) :: M) : (up1 n fa fb k a).1 = (y : Int) ∧ (up1 n fa fb k a).2 = (t : Int) := by
  unfold up1
  rw [hr, e]
  exact ⟨rfl, rfl⟩
theorem up1_r (hr : hR n fa fb k a = r) (e : pa fa fb k a r = []) : (up1 n fa fb k a).1 = -1 ∧ (up1 n fa fb k a).2 = -1 := by
  unfold up1
  rw [hr, e]
  exact ⟨rfl, rfl⟩
theorem high_ok (hV : Vd fa fb n k) (hn : n ≤ 32) (hT : TrOK n k fa fb x) {w : Int32} (hw : w.toInt = (u : Int)) (hu : u < n) : Ok (Wb_m_high x w) (fun r => r.toInt = ((pa fa fb k u (hR n fa fb k u)).length : Int)) := by
  obtain ⟨hnd, hup⟩ := hT
  obtain ⟨hR1, hR2⟩ := hR_ok hV
  have hlen := pa_len (v := hR n fa fb k u) hV hu (hR1 u hu).2.symm
  unfold Wb_m_high
  refine Ok_rdb hw (by omega) ?_
  refine Ok_for n (fun j (c : Int32) => ∃ z, z < n ∧ ld fa fb k z = ld fa fb k u ∧ c.toInt = (up1 n fa fb k z).1 ∧ (pa fa fb k u (hR n fa fb k u)).length = j + (pa fa fb k z (hR n fa fb k u)).length) (by omega) i32_0 ⟨u, hu, rfl, (hup u hu).1, by omega⟩ ?_ ?_
  · intro j c i hj hi ⟨z, hz, hzl, hc, hle⟩
    dsimp only [Wb_m_high_s9]
    have hzr : hR n fa fb k z = hR n fa fb k u := hR2 z u hzl
    have hzl2 : ld fa fb k z = ld fa fb k (hR n fa fb k u) := hzl.trans (hR1 u hu).2.symm
    refine Ok_ite (fun q => by rw [i32_le] at q; omega) (fun _ => ?_)
    cases hp : pa fa fb k z (hR n fa fb k u) with
    | nil =>
      have e := (up1_r hzr hp).1
      refine Ok_ite (fun _ => Ok_omap (Ok_some ?_)) (fun q => absurd (i32_ext (by rw [hc, e, i32_m1])) q)
      rw [hp] at hle
      show i.toInt = _
      rw [hi, hle]; rfl
    | cons s M =>
      obtain ⟨t, y⟩ := s
      have e := (up1_s hV hzl2 hzr hp).1
      have hd := pa_hd hzl2 hp
      have hy := (isE_lt hV hd.1 hd.2.2.1).2
      refine Ok_ite (fun q => by rw [i32_eq, hc, e, i32_m1] at q; omega) (fun _ => ?_)
      have hcy : c.toInt = (y : Int) := hc.trans e
      refine Ok_rdb hcy (by omega) (Ok_some ⟨nx_s hi (by omega), y, hy, hd.2.2.2.2.trans (hR1 u hu).2, (hup y hy).1, ?_⟩)
      rw [hp, List.length_cons, hd.2.2.2.1] at hle
      omega
  · intro c i hi ⟨z, hz, hzl, hc, hle⟩
    omega
/-- the way up: of two nodes in one land the higher goes on -/
theorem climb1 (ha : ld fa fb k a = ld fa fb k r) (hb : ld fa fb k b = ld fa fb k r) (hle : (pa fa fb k b r).length ≤ (pa fa fb k a r).length) (hne : a ≠ b) :
    ∃ t y, pa fa fb k a r = (t, y) :: pa fa fb k y r ∧ pa fa fb k a b = (t, y) :: pa fa fb k y b ∧ ld fa fb k y = ld fa fb k r := by
  have h := fw_climb (q := fun _ => true) (k := k) (a := a) (b := b) (r := r) ha hb (by rw [fw_true, fw_true]; exact hle) (by rw [fw_true]; exact pa_ne (ha.trans hb.symm) hne)
  simpa only [fw_true] using h
theorem pa_rev_len (h : ld fa fb k u = ld fa fb k v) : (pa fa fb k v u).length = (pa fa fb k u v).length := by rw [pa_rev h, rvW_len]
theorem apart_ok (hV : Vd fa fb n k) (hn : n ≤ 32) (hT : TrOK n k fa fb x) (hu : u < n) (hv : v < n) (hl : ld fa fb k u = ld fa fb k v) {w1 w2 w3 w4 : Int32} (h1 : w1.toInt = (u : Int)) (h2 : w2.toInt = (v : Int))
    (h3 : w3.toInt = ((pa fa fb k u (hR n fa fb k u)).length : Int)) (h4 : w4.toInt = ((pa fa fb k v (hR n fa fb k v)).length : Int)) : Ok (Wb_m_apart x w1 w2 w3 w4) (fun r => r.toInt = ((pa fa fb k u v).length : Int)) := by
  obtain ⟨hnd, hup⟩ := hT
  obtain ⟨hR1, hR2⟩ := hR_ok hV
  have hlen := pa_len (v := v) hV hu hl
  have hn1 : (Wb_nodes x - 1).toInt = ((n - 1 : Nat) : Int) := nx_d (k := n - 1) (by rw [hnd]; omega) (by omega)
  obtain ⟨r, hr⟩ : ∃ r, r = hR n fa fb k u := ⟨_, rfl⟩
  have hrv : hR n fa fb k v = r := by rw [hr]; exact (hR2 u v hl).symm
  rw [hrv] at h4
  rw [← hr] at h3
  have hur : ld fa fb k u = ld fa fb k r := by rw [hr]; exact (hR1 u hu).2.symm
  unfold Wb_m_apart
  refine Ok_upto (fun (j : Nat) (p : Int32 × Int32 × Int32 × Int32 × Int32) => p.2.2.2.2.toInt = (j : Int) ∧ ∃ a b : Nat, a < n ∧ b < n ∧ ld fa fb k a = ld fa fb k r ∧ ld fa fb k b = ld fa fb k r ∧ p.1.toInt = (a : Int) ∧ p.2.1.toInt = (b : Int) ∧ p.2.2.1.toInt = ((pa fa fb k a r).length : Int) ∧ p.2.2.2.1.toInt = ((pa fa fb k b r).length : Int) ∧ (pa fa fb k u v).length = j + (pa fa fb k a b).length) (e := n) (by omega) ⟨i32_0, u, v, hu, hv, hur, hl.symm.trans hur, h1, h2, h3, h4, by omega⟩ ?_ ?_
  · intro j p hj ⟨hi, a, b, ha, hb, har, hbr, pa1, pb1, pl, pr, hle⟩
    obtain ⟨v5, v6, v7, v8, v9⟩ := p
    dsimp only at hi pa1 pb1 pl pr
    dsimp only [Wb_m_apart_s16]
    have hra : hR n fa fb k a = r := by rw [hr]; exact hR2 a u (har.trans hur.symm)
    have hrb : hR n fa fb k b = r := by rw [hr]; exact hR2 b u (hbr.trans hur.symm)
    refine Ok_ite (fun q => ?_) (fun _ => ?_)
    · rw [i32_le, hn1, hi] at q
      refine Ok_omap (Ok_some ?_)
      show v9.toInt = _
      rw [hi]
      omega
    refine Ok_ite (fun q => ?_) (fun q => ?_)
    · rw [i32_eq, pa1, pb1] at q
      have : a = b := by omega
      subst this
      rw [pa_self] at hle
      refine Ok_omap (Ok_some ?_)
      show v9.toInt = _
      rw [hi, hle]; rfl
    · have hab : a ≠ b := fun z => q (i32_ext (by rw [pa1, pb1, z]))
      refine Ok_ite (fun q => by rw [i32_eq, pa1, i32_m1] at q; omega) (fun _ => ?_)
      refine Ok_ite (fun q => by rw [i32_eq, pb1, i32_m1] at q; omega) (fun _ => ?_)
      refine Ok_ite (fun q => ?_) (fun q => ?_)
      · rw [i32_lt, pl, pr] at q
        obtain ⟨t, y, e1, e2, e3⟩ := climb1 hbr har (by omega) (fun z => hab z.symm)
        have hd := pa_hd hbr e1
        have hy := (isE_lt hV hd.1 hd.2.2.1).2
        have hub := (hup b hb).1
        have e4 := (up1_s hV hbr hrb e1).1
        have lr := pa_rev_len (hbr.trans har.symm)
        have lr2 := pa_rev_len (e3.trans har.symm)
        rw [e2, List.length_cons] at lr
        have pr' : v8.toInt = (((pa fa fb k y r).length + 1 : Nat) : Int) := by rw [pr, e1, List.length_cons]
        have hyl := pa_len (v := r) hV hy e3
        refine Ok_rdb pb1 (by omega) (Ok_some ⟨nx_s hi (by omega), a, y, ha, hy, har, e3, pa1, hub.trans e4, pl, nx_p pr' (by omega), by omega⟩)
      · rw [i32_lt, pl, pr] at q
        obtain ⟨t, y, e1, e2, e3⟩ := climb1 har hbr (by omega) hab
        have hd := pa_hd har e1
        have hy := (isE_lt hV hd.1 hd.2.2.1).2
        have hua := (hup a ha).1
        have e4 := (up1_s hV har hra e1).1
        rw [e2, List.length_cons] at hle
        have pl' : v7.toInt = (((pa fa fb k y r).length + 1 : Nat) : Int) := by rw [pl, e1, List.length_cons]
        have hyl := pa_len (v := r) hV hy e3
        refine Ok_rdb pa1 (by omega) (Ok_some ⟨nx_s hi (by omega), y, b, hy, hb, e3, hbr, hua.trans e4, pb1, nx_p pl' (by omega), pr, by omega⟩)
  · intro p ⟨hi, a, b, ha, hb, har, hbr, pa1, pb1, pl, pr, hle⟩
    omega
theorem tr_b1 {A p q B P n : Nat} (h1 : P = A + p + B) (h2 : p = q + 1) (h3 : P < n) (h4 : n ≤ 32) : A + q < 32 ∧ A + q + 1 < 32 ∧ A + q < P ∧ A < 32 ∧ A + 1 < 32 ∧ A < P := by omega
theorem tr_c1 {A q : Nat} (h : 0 = A + q) : A = 0 := by omega
theorem tr_c2 {i A p q : Nat} (hi : i < A ∨ A + q ≤ i) (h : p = q + 1) (e : ¬ i = A + q) : i < A ∨ A + p ≤ i := by omega
theorem tr_c3 {i A q : Nat} (hi : i < A ∨ A + q ≤ i) (e : i + 1 = A + q) : i + 1 = A := by omega
theorem tr_c4 {i A p q : Nat} (hi : i < A + 1 ∨ A + 1 + q ≤ i) (h : p = q + 1) (e : ¬ i = A) : (i < A ∨ A + p ≤ i) ∧ i + 1 ≠ A + 1 := by omega
theorem tr_c5 {A q : Nat} (h : A = A + q) : q = 0 := by omega
theorem tr_c6 {A q : Nat} : A + q + 1 ≠ A + q := by omega
theorem tr_c7 {A q : Nat} (h : q ≠ 0) : A + 1 + q ≠ A + 1 := by omega
theorem mil {k : Nat} (h : k < 32) : k < 1000000 := Nat.lt_trans h (by decide)
theorem tr_at {P A M : List (Nat × Nat)} {s0 s : Nat × Nat} {B : List (Nat × Nat)} {i : Nat} (h : P = A ++ (M ++ s0 :: B)) (hs : P[i]? = some s) (hi : i = A.length + M.length) : s = s0 := by
  rw [h, hi, List.getElem?_append_right (by omega), Nat.add_sub_cancel_left, List.getElem?_append_right (Nat.le_refl _), Nat.sub_self] at hs
  exact (Option.some.inj hs).symm
def TrI (fa fb : Nat → Nat) (n k u v r : Nat) (x : WbS) (j : Nat) (p : WbS × Int32 × Int32 × Int32 × Int32 × Int32 × Int32) : Prop :=
  ∃ (a b : Nat) (A B : List (Nat × Nat)) (wn wl : Nat → Int32), a < n ∧ b < n ∧ ld fa fb k a = ld fa fb k r ∧ ld fa fb k b = ld fa fb k r ∧
    p.1 = Wb_set_wayNode (Wb_set_wayLink x wl) wn ∧ p.2.1.toInt = ((pa fa fb k a r).length : Int) ∧ p.2.2.1.toInt = ((pa fa fb k b r).length : Int) ∧ p.2.2.2.1.toInt = (a : Int) ∧ p.2.2.2.2.1.toInt = (b : Int) ∧ p.2.2.2.2.2.1.toInt = (A.length : Int) ∧ p.2.2.2.2.2.2.toInt = ((A.length + (pa fa fb k a b).length : Nat) : Int) ∧
    pa fa fb k u v = A ++ (pa fa fb k a b ++ B) ∧ A.length + B.length = j ∧ (wn 0).toInt = (u : Int) ∧ (wn A.length).toInt = (a : Int) ∧ (wn (A.length + (pa fa fb k a b).length)).toInt = (b : Int) ∧
    ∀ (i : Nat) (s : Nat × Nat), (pa fa fb k u v)[i]? = some s → (i < A.length ∨ A.length + (pa fa fb k a b).length ≤ i) → (wl i).toInt = (s.1 : Int) ∧ (wn (i + 1)).toInt = (s.2 : Int)
theorem tr_step (hV : Vd fa fb n k) (hn : n ≤ 32) (hT : TrOK n k fa fb x) (hR : ∀ c, ld fa fb k c = ld fa fb k r → hR n fa fb k c = r) (hlen : (pa fa fb k u v).length < n) {j : Nat} {g42 : Int32} {p : WbS × Int32 × Int32 × Int32 × Int32 × Int32 × Int32} (hj : j < (pa fa fb k u v).length) {Q : Int32 × WbS → Prop}
    (h : TrI fa fb n k u v r x j p) : Ok (Wb_m_trace_s78 g42 p.1 p.2.1 p.2.2.1 p.2.2.2.1 p.2.2.2.2.1 p.2.2.2.2.2.1 p.2.2.2.2.2.2) (LR (TrI fa fb n k u v r x (j + 1)) Q) := by
  obtain ⟨hnd, hup⟩ := hT
  obtain ⟨a, b, A, B, wn, wl, ha, hb, har, hbr, hp0, pl, pr, pa1, pb1, pf, pbk, hcat, hj2, hw0, hwa, hwb, hway⟩ := h
  obtain ⟨y0, v3, v4, v6, v7, v8, v9⟩ := p
  dsimp only at hp0 pl pr pa1 pb1 pf pbk
  subst hp0
  dsimp only [Wb_m_trace_s78]
  have hra := hR a har
  have hrb := hR b hbr
  have hlc : (pa fa fb k u v).length = A.length + (pa fa fb k a b).length + B.length := by
    have := congrArg List.length hcat
    rw [List.length_append, List.length_append, ← Nat.add_assoc] at this
    exact this
  have hpos : 0 < (pa fa fb k a b).length := by omega
  have hab : a ≠ b := fun z => by rw [z, pa_self] at hpos; exact absurd hpos (Nat.lt_irrefl _)
  refine Ok_ite (fun q => by rw [i32_le] at q; omega) (fun _ => ?_)
  refine Ok_ite (fun q => by rw [i32_eq, pa1, i32_m1] at q; omega) (fun _ => ?_)
  refine Ok_ite (fun q => by rw [i32_eq, pb1, i32_m1] at q; omega) (fun _ => ?_)
  refine Ok_ite (fun q => ?_) (fun q => ?_)
  · rw [i32_lt, pl, pr] at q
    obtain ⟨t, y, e1, e2, e3⟩ := climb1 hbr har (by omega) (fun z => hab z.symm)
    have hd := pa_hd hbr e1
    have hy := (isE_lt hV hd.1 hd.2.2.1).2
    have hub := hup b hb
    have e4 := up1_s hV hbr hrb e1
    have hrevl : pa fa fb k a b = pa fa fb k a y ++ [(t, b)] := by
      rw [pa_rev (hbr.trans har.symm), e2]
      show rvW y (pa fa fb k y a) ++ [(t, b)] = _
      rw [← pa_rev (e3.trans har.symm)]
    have hll : (pa fa fb k a b).length = (pa fa fb k a y).length + 1 := by rw [hrevl, List.length_append]; rfl
    have bnd := tr_b1 hlc hll hlen hn
    have pr' : v4.toInt = (((pa fa fb k y r).length + 1 : Nat) : Int) := by rw [pr, e1, List.length_cons]
    have pbk' : v9.toInt = ((A.length + (pa fa fb k a y).length + 1 : Nat) : Int) := by rw [pbk, hll, Nat.add_assoc]
    have hyl := pa_len (v := r) hV hy e3
    have hb9 : (v9 + (-1)).toInt = ((A.length + (pa fa fb k a y).length : Nat) : Int) := nx_p pbk' (mil bnd.1)
    have hyl2 : (pa fa fb k y r).length < 32 := Nat.lt_of_lt_of_le hyl hn
    have hay : (pa fa fb k a y).length = 0 → a = y := fun z0 => Classical.byContradiction fun z => pa_ne (har.trans e3.symm) z (List.length_eq_zero_iff.mp z0)
    refine Ok_rdb pb1 (Nat.lt_of_lt_of_le hb hn) (Ok_wrb hb9 bnd.1 (Ok_rdb pb1 (Nat.lt_of_lt_of_le hb hn) (Ok_wrb hb9 bnd.1 (Ok_some ?_))))
    have wA : (va_up wn (A.length + (pa fa fb k a y).length) (Wb_up x b) A.length).toInt = (a : Int) := by
      by_cases e : A.length = A.length + (pa fa fb k a y).length
      · rw [← e, vu_s, hub.1, e4.1, hay (tr_c5 e)]
      · rw [vu_n e]; exact hwa
    refine ⟨a, y, A, (t, b) :: B, va_up wn (A.length + (pa fa fb k a y).length) (Wb_up x b), va_up wl (A.length + (pa fa fb k a y).length) (Wb_upLink x b), ha, hy, har, e3, rfl, pl, nx_p pr' (mil hyl2), pa1, hub.1.trans e4.1, pf, hb9, ?_, ?_, ?_, wA, ?_, ?_⟩
    · rw [hcat, hrevl]; simp
    · rw [List.length_cons, ← hj2]; rfl
    · by_cases e : 0 = A.length + (pa fa fb k a y).length
      · have hA : A.length = 0 := tr_c1 e
        have wA2 := wA
        rw [hA] at hwa
        have hA2 : (va_up wn (A.length + (pa fa fb k a y).length) (Wb_up x b) 0).toInt = (a : Int) := by
          have : va_up wn (A.length + (pa fa fb k a y).length) (Wb_up x b) 0 = va_up wn (A.length + (pa fa fb k a y).length) (Wb_up x b) A.length := by rw [hA]
          rw [this]; exact wA2
        rw [hA2, ← hwa]; exact hw0
      · rw [vu_n e]; exact hw0
    · rw [vu_s, hub.1, e4.1]
    · intro i s hs hi
      by_cases e : i = A.length + (pa fa fb k a y).length
      · have es := tr_at (M := pa fa fb k a y) (s0 := (t, b)) (B := B) (by rw [hcat, hrevl]; simp) hs e
        rw [e, vu_s, vu_n tr_c6, es, hub.2, e4.2]
        refine ⟨rfl, ?_⟩
        rw [hll, ← Nat.add_assoc] at hwb
        exact hwb
      · have hi' : i < A.length ∨ A.length + (pa fa fb k a b).length ≤ i := tr_c2 hi hll e
        have h3 := hway i s hs hi'
        rw [vu_n e]
        refine ⟨h3.1, ?_⟩
        by_cases e2 : i + 1 = A.length + (pa fa fb k a y).length
        · have e5 : i + 1 = A.length := tr_c3 hi e2
          rw [e5] at h3 ⊢
          rw [wA, ← hwa]; exact h3.2
        · rw [vu_n e2]; exact h3.2
  · rw [i32_lt, pl, pr] at q
    obtain ⟨t, y, e1, e2, e3⟩ := climb1 har hbr (by omega) hab
    have hd := pa_hd har e1
    have hy := (isE_lt hV hd.1 hd.2.2.1).2
    have hua := hup a ha
    have e4 := up1_s hV har hra e1
    have hll : (pa fa fb k a b).length = (pa fa fb k y b).length + 1 := by rw [e2, List.length_cons]
    have bnd := tr_b1 hlc hll hlen hn
    have pl' : v3.toInt = (((pa fa fb k y r).length + 1 : Nat) : Int) := by rw [pl, e1, List.length_cons]
    have hyl2 : (pa fa fb k y r).length < 32 := Nat.lt_of_lt_of_le (pa_len (v := r) hV hy e3) hn
    have hf1 : (v8 + 1).toInt = ((A.length + 1 : Nat) : Int) := nx_s pf (mil bnd.2.2.2.1)
    refine Ok_rdb pa1 (Nat.lt_of_lt_of_le ha hn) (Ok_wrb pf bnd.2.2.2.1 (Ok_rdb pa1 (Nat.lt_of_lt_of_le ha hn) (Ok_wrb hf1 bnd.2.2.2.2.1 (Ok_some ?_))))
    have hAl : (A ++ [(t, y)]).length = A.length + 1 := by rw [List.length_append]; rfl
    refine ⟨y, b, A ++ [(t, y)], B, va_up wn (A.length + 1) (Wb_up x a), va_up wl A.length (Wb_upLink x a), hy, hb, e3, hbr, rfl, nx_p pl' (mil hyl2), pr, hua.1.trans e4.1, pb1, by rw [hAl]; exact hf1, ?_, ?_, ?_, ?_, ?_, ?_, ?_⟩
    · rw [hAl, pbk, hll]; congr 1; exact (by omega : ∀ a b : Nat, a + (b + 1) = a + 1 + b) _ _
    · rw [hcat, e2]; simp
    · rw [hAl, ← hj2]; exact (by omega : ∀ a b : Nat, a + 1 + b = a + b + 1) _ _
    · rw [vu_n (Nat.zero_ne_add_one _)]; exact hw0
    · rw [hAl, vu_s, hua.1, e4.1]
    · rw [hAl]
      by_cases e : (pa fa fb k y b).length = 0
      · have hyb : y = b := Classical.byContradiction fun z => pa_ne (e3.trans hbr.symm) z (List.length_eq_zero_iff.mp e)
        rw [e, Nat.add_zero, vu_s, hua.1, e4.1, hyb]
      · rw [vu_n (tr_c7 e)]
        rw [hll] at hwb
        have : A.length + 1 + (pa fa fb k y b).length = A.length + ((pa fa fb k y b).length + 1) := (by omega : ∀ a b : Nat, a + 1 + b = a + (b + 1)) _ _
        rw [this]; exact hwb
    · intro i s hs hi
      rw [hAl] at hi
      by_cases e : i = A.length
      · have es := tr_at (A := A) (M := []) (s0 := (t, y)) (B := pa fa fb k y b ++ B) (by rw [hcat, e2]; rfl) hs (by rw [e]; rfl)
        rw [e, vu_s, vu_s, es, hua.1, hua.2, e4.1, e4.2]
        exact ⟨rfl, rfl⟩
      · have hi' := tr_c4 hi hll e
        have h3 := hway i s hs hi'.1
        rw [vu_n e, vu_n hi'.2]
        exact h3
theorem trace_ok (hV : Vd fa fb n k) (hn : n ≤ 32) (hT : TrOK n k fa fb x) (hL : NmOK 32 n (hL n fa fb k) (Wb_lands x)) (hu : u < n) (hv : v < n) {w1 w2 : Int32} (h1 : w1.toInt = (u : Int)) (h2 : w2.toInt = (v : Int)) :
    Ok (Wb_m_trace x w1 w2) (fun r => (¬ ld fa fb k u = ld fa fb k v ∧ r = (-1, x)) ∨ (ld fa fb k u = ld fa fb k v ∧ r.1.toInt = ((pa fa fb k u v).length : Int) ∧ ∃ wn wl, r.2 = Wb_set_wayNode (Wb_set_wayLink x wl) wn ∧ WayOK u (pa fa fb k u v) r.2)) := by
  have hT' := hT
  obtain ⟨hnd, hup⟩ := hT
  obtain ⟨hR1, hR2⟩ := hR_ok hV
  have ho := hL.2.2.1.2.1
  have hsame := land_same (n := n) (k := k) hV hu hv
  unfold Wb_m_trace
  refine Ok_rdb h1 (by omega) (Ok_rdb h2 (by omega) (Ok_ite (fun c => ?_) (fun c => ?_)))
  · rw [i32_eq, ho u hu, ho v hv] at c
    have hl := hsame.mp (by omega)
    have hlen := pa_len (v := v) hV hu hl
    refine Ok_then (high_ok hV hn hT' h1 hu) (fun g25 h25 => Ok_then (high_ok hV hn hT' h2 hv) (fun g31 h31 => Ok_then (apart_ok hV hn hT' hu hv hl h1 h2 h25 h31) (fun g42 h42 => ?_)))
    refine Ok_wrb (k := 0) i32_0 (by omega) (Ok_wrb h42 (by omega) ?_)
    obtain ⟨r, hr⟩ : ∃ r, r = hR n fa fb k u := ⟨_, rfl⟩
    have hrv : hR n fa fb k v = r := by rw [hr]; exact (hR2 u v hl).symm
    rw [hrv] at h31
    rw [← hr] at h25
    have hur : ld fa fb k u = ld fa fb k r := by rw [hr]; exact (hR1 u hu).2.symm
    have hRr : ∀ c, ld fa fb k c = ld fa fb k r → hR n fa fb k c = r := fun c hc => by rw [hr]; exact hR2 c u (hc.trans hur.symm)
    refine Ok_upto (TrI fa fb n k u v r x) (e := (pa fa fb k u v).length) (by omega) ?_ (fun j p hj hp => tr_step hV hn hT' hRr hlen hj hp) ?_
    · refine ⟨u, v, [], [], va_up (va_up (Wb_wayNode x) 0 w1) (pa fa fb k u v).length w2, Wb_wayLink x, hu, hv, hur, hl.symm.trans hur, rfl, h25, h31, h1, h2, i32_0, ?_, by simp, rfl, ?_, ?_, ?_, ?_⟩
      · show g42.toInt = ((0 + _ : Nat) : Int)
        rw [h42]; omega
      all_goals try
        (show (va_up (va_up (Wb_wayNode x) 0 w1) (pa fa fb k u v).length w2 0).toInt = (u : Int)
         by_cases e : 0 = (pa fa fb k u v).length
         · rw [← e, vu_s]
           have huv : u = v := Classical.byContradiction fun z => pa_ne hl z (List.length_eq_zero_iff.mp e.symm)
           rw [h2, huv]
         · rw [vu_n e, vu_s]; exact h1)
      · show (va_up (va_up (Wb_wayNode x) 0 w1) (pa fa fb k u v).length w2 (0 + (pa fa fb k u v).length)).toInt = _
        rw [Nat.zero_add, vu_s]; exact h2
      · intro i s hs hi
        have := (List.getElem?_eq_some_iff.mp hs).1
        rcases hi with hi | hi
        · exact absurd hi (Nat.not_lt_zero _)
        · have hi : 0 + (pa fa fb k u v).length ≤ i := hi
          omega
    · intro p ⟨a, b, A, B, wn, wl, ha, hb, har, hbr, hp0, pl, pr, pa1, pb1, pf, pbk, hcat, hj2, hw0, hwa, hwb, hway⟩
      obtain ⟨y0, v3, v4, v6, v7, v8, v9⟩ := p
      dsimp only at hp0 pl pr pa1 pb1 pf pbk
      subst hp0
      dsimp only [Wb_m_trace_s78]
      have hlc : (pa fa fb k u v).length = A.length + ((pa fa fb k a b).length + B.length) := by
        have := congrArg List.length hcat
        rw [List.length_append, List.length_append] at this
        exact this
      have h0 : (pa fa fb k a b).length = 0 := by omega
      refine Ok_ite (fun _ => Ok_omap (Ok_some ?_)) (fun q => by rw [i32_le] at q; omega)
      refine Or.inr ⟨hl, h42, wn, wl, rfl, hw0, fun i s hs => hway i s hs (by omega)⟩
  · rw [i32_eq, ho u hu, ho v hv] at c
    exact Ok_some (Or.inl ⟨fun z => c (by rw [hsame.mpr z]), rfl⟩)
end W55
