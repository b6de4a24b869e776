/-! THE INVARIANT; two runs beside each other -/
def HV (n m : Nat) (fa fb : Nat → Nat) : Prop := 2 ≤ n ∧ n ≤ 32 ∧ m ≤ 64 ∧ Vd fa fb n m ∧ ∀ l, l < m → fa l ≠ fb l
def CI (n m : Nat) (fa fb : Nat → Nat) (X : SBS) : Prop := WbL n m fa fb (SB_now X) ∧ FoOK n fa fb m (SB_forest X) ∧ PbOK n m fa fb (SB_book X)
def RI (n m : Nat) (fa fb : Nat → Nat) (x : MdS) : Prop := (Md_n x).toInt = (n : Int) ∧ (Md_m x).toInt = (m : Int) ∧ (∀ l, l < m → (Md_first x l).toInt = (fa l : Int) ∧ (Md_second x l).toInt = (fb l : Int)) ∧ ((Md_run x).toInt = -1 ∨ ∃ r, r ≤ m ∧ RunAt n fa fb r x) ∧ PRI fa fb m x
def Inv (X : SBS) (M : MdS) : Prop := ∃ n m fa fb, HV n m fa fb ∧ CI n m fa fb X ∧ RI n m fa fb M ∧ SB_drawn X = Md_state M
/-- an allowed end of a question -/
def Rd (n m : Nat) (fa fb : Nat → Nat) (M q : MdS) : Prop := RI n m fa fb q ∧ Md_state q = Md_state M
def Rt (n m : Nat) (fa fb : Nat → Nat) (M q : MdS) : Prop := RI n m fa fb q ∧ Md_state q = Md_state M ∧ RunAt n fa fb m q
def Xd (n m : Nat) (fa fb : Nat → Nat) (X Y : SBS) : Prop := CI n m fa fb Y ∧ SB_drawn Y = SB_drawn X
def T2 {α β : Type} (R : α → β → Prop) (o1 : Option α) (o2 : Option β) : Prop := ∃ a b, o1 = some a ∧ o2 = some b ∧ R a b
section I1
variable {α β γ : Type} {R : α → β → Prop} {o1 : Option α} {o2 : Option β} {o : Option Bool} {og : Option γ} {P : Prop} {A1 B1 : Option α} {A2 B2 : Option β}
theorem T2_ite {c : Prop} [Decidable c] (ht : c → T2 R A1 A2) (hf : ¬ c → T2 R B1 B2) : T2 R (if c then A1 else B1) (if c then A2 else B2) := by
  by_cases h : c
  · rw [if_pos h, if_pos h]; exact ht h
  · rw [if_neg h, if_neg h]; exact hf h
theorem T2_b1 {f : γ → Option α} {Q : γ → Prop} (h : Ok og Q) (k : ∀ g, Q g → T2 R (f g) o2) : T2 R (og.bind f) o2 := by
  obtain ⟨a, rfl, ha⟩ := h
  exact k a ha
theorem T2_b2 {f : γ → Option β} {Q : γ → Prop} (h : Ok og Q) (k : ∀ g, Q g → T2 R o1 (f g)) : T2 R o1 (og.bind f) := by
  obtain ⟨a, rfl, ha⟩ := h
  exact k a ha
theorem T2_t1 (h : Ok o (fun r => r = true ↔ P)) (hp : P) (k : T2 R A1 o2) : T2 R (o.bind fun g => if g = true then A1 else B1) o2 := T2_b1 h (fun g hg => by rw [if_pos (hg.mpr hp)]; exact k)
theorem T2_f1 (h : Ok o (fun r => r = true ↔ P)) (hp : ¬ P) (k : T2 R B1 o2) : T2 R (o.bind fun g => if g = true then A1 else B1) o2 := T2_b1 h (fun g hg => by rw [if_neg (fun z => hp (hg.mp z))]; exact k)
theorem T2_t2 (h : Ok o (fun r => r = true ↔ P)) (hp : P) (k : T2 R o1 A2) : T2 R o1 (o.bind fun g => if g = true then A2 else B2) := T2_b2 h (fun g hg => by rw [if_pos (hg.mpr hp)]; exact k)
theorem T2_f2 (h : Ok o (fun r => r = true ↔ P)) (hp : ¬ P) (k : T2 R o1 B2) : T2 R o1 (o.bind fun g => if g = true then A2 else B2) := T2_b2 h (fun g hg => by rw [if_neg (fun z => hp (hg.mp z))]; exact k)
theorem T2_p1 {c : Prop} [Decidable c] (h : c) (k : T2 R A1 o2) : T2 R (if c then A1 else B1) o2 := by rw [if_pos h]; exact k
theorem T2_n1 {c : Prop} [Decidable c] (h : ¬ c) (k : T2 R B1 o2) : T2 R (if c then A1 else B1) o2 := by rw [if_neg h]; exact k
theorem T2_p2 {c : Prop} [Decidable c] (h : c) (k : T2 R o1 A2) : T2 R o1 (if c then A2 else B2) := by rw [if_pos h]; exact k
theorem T2_n2 {c : Prop} [Decidable c] (h : ¬ c) (k : T2 R o1 B2) : T2 R o1 (if c then A2 else B2) := by rw [if_neg h]; exact k
theorem T2_fin {P1 : α → Prop} {P2 : β → Prop} (h1 : Ok o1 P1) (h2 : Ok o2 P2) (h : ∀ a b, P1 a → P2 b → R a b) : T2 R o1 o2 := by
  obtain ⟨a, e1, ha⟩ := h1
  obtain ⟨b, e2, hb⟩ := h2
  exact ⟨a, b, e1, e2, h a b ha hb⟩
theorem T2_some {a : α} {b : β} (h : R a b) : T2 R (some a) (some b) := ⟨a, b, rfl, rfl, h⟩
end I1
section I2
variable {fa fb : Nat → Nat} {n m k u v b l t : Nat} {X Y : SBS} {M x y q : MdS}
theorem RI_Fz (h : Fz x y) (hr : RI n m fa fb x) : RI n m fa fb y := by
  obtain ⟨r1, r2, r3, r4, r5⟩ := hr
  obtain ⟨hp, p1, p2, p3, p4, p5⟩ := h
  have e := hp.1
  refine ⟨by rw [e.1]; exact r1, by rw [e.2.1]; exact r2, by rw [e.2.2.2.1, e.2.2.2.2.1]; exact r3, ?_, ?_⟩
  · rcases r4 with z | ⟨r, hr, z⟩
    · exact Or.inl (by rw [e.2.2.2.2.2]; exact z)
    · exact Or.inr ⟨r, hr, Fp_run hp z⟩
  · rcases r5 with z | ⟨r, hr, z1, z2⟩
    · exact Or.inl (by rw [p1]; exact z)
    · refine Or.inr ⟨r, hr, by rw [p1]; exact z1, fun b hb => ?_⟩
      rw [p2, p3, p4, p5]
      exact z2 b hb
theorem Fz_st (h : Fz x y) : Md_state y = Md_state x := h.1.1.2.2.1
theorem Rt_Fz (h : Fz x y) (hr : Rt n m fa fb M x) : Rt n m fa fb M y := ⟨RI_Fz h hr.1, (Fz_st h).trans hr.2.1, Fp_run h.1 hr.2.2⟩
theorem Rd_Fz (h : Fz x y) (hr : Rd n m fa fb M x) : Rd n m fa fb M y := ⟨RI_Fz h hr.1, (Fz_st h).trans hr.2⟩
theorem Rt_d (h : Rt n m fa fb M q) : Rd n m fa fb M q := ⟨h.1, h.2.1⟩
theorem Rt_y (h : Rt n m fa fb M q) : RY n m fa fb q := ⟨h.1.1, h.1.2.1, h.1.2.2.1, h.2.2.2.1⟩
theorem Rd_told (hr : RI n m fa fb M) {w : Int32} : Rd n m fa fb M (Md_set_told M w) := ⟨RI_Fz Fz_to hr, rfl⟩
theorem RI_run (hm : m ≤ 64) (h : RI n m fa fb x) (hq : Fr0 x q) {r : Nat} (hrm : r ≤ m) (hr : RunAt n fa fb r q) : RI n m fa fb q := by
  obtain ⟨r1, r2, r3, r4, r5⟩ := h
  obtain ⟨e1, e2, e3, e4, e5, e6, e7, e8, e9, e10⟩ := hq
  refine ⟨by rw [e1]; exact r1, by rw [e2]; exact r2, by rw [e4, e5]; exact r3, Or.inr ⟨r, hrm, hr⟩, ?_⟩
  rcases r5 with z | ⟨r, hr, z1, z2⟩
  · exact Or.inl (by rw [e6]; exact z)
  · refine Or.inr ⟨r, hr, by rw [e6]; exact z1, fun b hb => ?_⟩
    rw [e7, e8, e9, e10]
    exact z2 b hb
theorem runsTo_ok (hv : HV n m fa fb) (h : RI n m fa fb x) (hx : Md_state x = Md_state M) {w : Int32} (hw : w.toInt = (k : Int)) (hk : k ≤ m) : Ok (Md_m_runs x w) (fun q => RunAt n fa fb k q ∧ Fr0 x q ∧ Rd n m fa fb M q) := by
  obtain ⟨v0, v1, v2, v3, v4⟩ := hv
  refine Ok_mono (runs_ok v3 v1 v2 hk h.1 h.2.2.1 ?_ hw) (fun q hq => ⟨hq.1, hq.2, RI_run v2 h hq.2 hk hq.1, hq.2.2.2.1.trans hx⟩)
  rcases h.2.2.2.1 with z | ⟨r, hr, z⟩
  · exact Or.inl z
  · exact Or.inr ⟨r, by omega, z⟩
theorem runsAll_ok (hv : HV n m fa fb) (h : Rd n m fa fb M x) : Ok (Md_m_runsAll x) (Rt n m fa fb M) := by
  unfold Md_m_runsAll
  exact Ok_then (runsTo_ok hv h.1 h.2 h.1.2.1 (Nat.le_refl m)) (fun g hg => Ok_some ⟨hg.2.2.1, hg.2.2.2, hg.1⟩)
theorem lays_ok (hv : HV n m fa fb) (h : Rt n m fa fb M x) : Ok (Md_m_laysAllParts x) (fun q => Rt n m fa fb M q ∧ PL fa fb m q) := by
  obtain ⟨v0, v1, v2, v3, v4⟩ := hv
  refine Ok_mono (laysAll_ok v3 v1 v2 v4 h.1.2.2.1 h.1.1 h.1.2.1) (fun q hq => ?_)
  obtain ⟨⟨f, w, e⟩, hp⟩ := hq
  subst e
  exact ⟨Rt_Fz Fz_lay h, hp⟩
theorem Inv_of (hv : HV n m fa fb) (hc : CI n m fa fb X) (hd : SB_drawn X = Md_state M) (hq : Rd n m fa fb M q) : Inv X q := ⟨n, m, fa, fb, hv, hc, hq.1, hd.trans hq.2.symm⟩
theorem Inv_ofX (hv : HV n m fa fb) (hc : Xd n m fa fb X Y) (hd : SB_drawn X = Md_state M) (hq : Rd n m fa fb M q) : Inv Y q := ⟨n, m, fa, fb, hv, hc.1, hq.1, hc.2.trans (hd.trans hq.2.symm)⟩
/-- the answers -/
theorem ans {o1 : Option Int32} {o2 : Option (Int32 × MdS)} {E : Int} (hv : HV n m fa fb) (hc : CI n m fa fb X) (hd : SB_drawn X = Md_state M) (h1 : Ok o1 (fun r => r.toInt = E)) (h2 : Ok o2 (fun q => q.1.toInt = E ∧ Rd n m fa fb M q.2)) : T2 (fun r q => q.1 = r ∧ Inv X q.2) o1 o2 :=
  T2_fin h1 h2 (fun a b ha hb => ⟨i32_ext (by rw [ha, hb.1]), Inv_of hv hc hd hb.2⟩)
theorem ansX {o1 : Option (Int32 × SBS)} {o2 : Option (Int32 × MdS)} {E : Int} (hv : HV n m fa fb) (hd : SB_drawn X = Md_state M) (h1 : Ok o1 (fun r => r.1.toInt = E ∧ Xd n m fa fb X r.2)) (h2 : Ok o2 (fun q => q.1.toInt = E ∧ Rd n m fa fb M q.2)) : T2 (fun r q => q.1 = r.1 ∧ Inv r.2 q.2) o1 o2 :=
  T2_fin h1 h2 (fun a b ha hb => ⟨i32_ext (by rw [ha.1, hb.1]), Inv_ofX hv ha.2 hd hb.2⟩)
theorem pcQ {o1 : Option Int32} {o2 : Option (Int32 × MdS)} (h : T2 (fun r q => q.1 = r ∧ Inv X q.2) o1 o2) : ∃ (r : Int32) (M2 : MdS), o1 = some r ∧ o2 = some (r, M2) ∧ Inv X M2 := by
  obtain ⟨a, ⟨b1, b2⟩, e1, e2, e3, e4⟩ := h
  have e3' : b1 = a := e3
  exact ⟨a, b2, e1, by rw [e2, e3'], e4⟩
theorem pcX {o1 : Option (Int32 × SBS)} {o2 : Option (Int32 × MdS)} (h : T2 (fun r q => q.1 = r.1 ∧ Inv r.2 q.2) o1 o2) : ∃ (r : Int32) (X2 : SBS) (M2 : MdS), o1 = some (r, X2) ∧ o2 = some (r, M2) ∧ Inv X2 M2 := by
  obtain ⟨⟨a1, a2⟩, ⟨b1, b2⟩, e1, e2, e3, e4⟩ := h
  have e3' : b1 = a1 := e3
  exact ⟨a1, a2, b2, e1, by rw [e2, e3'], e4⟩
/-! the class: small tests -/
theorem isNodeC_ok {w : Int32} (hc : CI n m fa fb X) : Ok (SB_m_isNode X w) (fun r => r = true ↔ 0 ≤ w.toInt ∧ w.toInt < n) := by
  unfold SB_m_isNode
  have hn := hc.1.1.2.2.2.1.1
  refine Ok_ilt rfl i32_0 (fun e => Ok_some ⟨fun z => absurd z Bool.false_ne_true, fun z => by omega⟩) (fun e => Ok_ile hn rfl (fun e2 => Ok_some ⟨fun z => absurd z Bool.false_ne_true, fun z => by omega⟩) (fun e2 => Ok_some ⟨fun _ => ⟨by omega, by omega⟩, fun _ => rfl⟩))
theorem isLinkC_ok {w : Int32} (hc : CI n m fa fb X) : Ok (SB_m_isLink X w) (fun r => r = true ↔ 0 ≤ w.toInt ∧ w.toInt < m) := by
  unfold SB_m_isLink
  have hn := hc.1.1.1
  refine Ok_ilt rfl i32_0 (fun e => Ok_some ⟨fun z => absurd z Bool.false_ne_true, fun z => by omega⟩) (fun e => Ok_ile hn rfl (fun e2 => Ok_some ⟨fun z => absurd z Bool.false_ne_true, fun z => by omega⟩) (fun e2 => Ok_some ⟨fun _ => ⟨by omega, by omega⟩, fun _ => rfl⟩))
theorem areTwoC_ok {w1 w2 : Int32} (hc : CI n m fa fb X) : Ok (SB_m_areTwoNodes X w1 w2) (fun r => r = true ↔ (0 ≤ w1.toInt ∧ w1.toInt < n) ∧ (0 ≤ w2.toInt ∧ w2.toInt < n) ∧ w1.toInt ≠ w2.toInt) := by
  unfold SB_m_areTwoNodes
  refine Ok_tf (isNodeC_ok hc) (fun h1 => Ok_tf (isNodeC_ok hc) (fun h2 => Ok_ieq rfl rfl (fun e => ?_) (fun e => ?_)) (fun h2 => ?_)) (fun h1 => ?_)
  · exact Ok_some ⟨fun z => absurd z Bool.false_ne_true, fun z => absurd e z.2.2⟩
  · exact Ok_some ⟨fun _ => ⟨h1, h2, e⟩, fun _ => rfl⟩
  · exact Ok_some ⟨fun z => absurd z Bool.false_ne_true, fun z => absurd z.2.1 h2⟩
  · exact Ok_some ⟨fun z => absurd z Bool.false_ne_true, fun z => absurd z.1 h1⟩
theorem livesB_ok {w : Int32} (hv : HV n m fa fb) (hc : CI n m fa fb X) : Ok (Nm_m_lives 32 (Wb_blocks (SB_now X)) w) (fun r => r = true ↔ isB n fa fb m w.toInt) := lives_ok hc.1.1.2.2.2.2.1 (NI_B hv.2.2.2.1).2.1
theorem livesL_ok {w : Int32} (hv : HV n m fa fb) (hc : CI n m fa fb X) : Ok (Nm_m_lives 32 (Wb_lands (SB_now X)) w) (fun r => r = true ↔ isL n fa fb m w.toInt) := lives_ok hc.1.1.2.2.2.2.2.1 (NI_L hv.2.2.2.1).2.1
end I2
