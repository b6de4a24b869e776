/-! CALLS 14: ring -/
/-- distances laid so far -/
def AwD (n : Nat) (fa fb : Nat → Nat) (Z : Nat → Prop) (s far : Nat) (a : Nat → Int32) : Prop := ∀ x, x < n → (dsn fa fb Z x s ≤ far → (a x).toInt = (dsn fa fb Z x s : Int)) ∧ (far < dsn fa fb Z x s → (a x).toInt = -1)
def AwE (n : Nat) (fa fb : Nat → Nat) (Z : Nat → Prop) (s far : Nat) (E : Nat → Nat → Prop) (a : Nat → Int32) : Prop := ∀ x, x < n → (dsn fa fb Z x s ≤ far → (a x).toInt = (dsn fa fb Z x s : Int)) ∧ (far < dsn fa fb Z x s → ((a x).toInt = (far : Int) + 1 ∧ dsn fa fb Z x s = far + 1) ∨ ((a x).toInt = -1 ∧ ∀ y, E y x → dsn fa fb Z y s ≠ far))
noncomputable def nxi (n : Nat) (fa fb : Nat → Nat) (Z : Nat → Prop) (v : Nat) : Nat → Nat → Nat
  | x, 0 => x
  | x, k + 1 => nxn fa fb Z n v (nxi n fa fb Z v x k)
section K14
variable {fa fb ga gb : Nat → Nat} {n k m r u v a b t l kd j s far f e D : Nat} {X Y : SBS} {M x y q : MdS} {Z : Nat → Prop} {E E2 : Nat → Nat → Prop} {z : RoS} {w : WbS}
theorem nxi_s {x : Nat} : nxi n fa fb Z v x (k + 1) = nxi n fa fb Z v (nxn fa fb Z n v x) k := by
  induction k with
  | zero => rfl
  | succ k ih =>
    show nxn fa fb Z n v (nxi n fa fb Z v x (k + 1)) = nxn fa fb Z n v (nxi n fa fb Z v (nxn fa fb Z n v x) k)
    rw [ih]
theorem dwn_get : ∀ {P : List (Nat × Nat)} {u : Nat}, dwn fa fb Z n v u P → ∀ (i : Nat) (p : Nat × Nat), P[i]? = some p → p.2 = nxi n fa fb Z v u (i + 1) := by
  intro P
  induction P with
  | nil => intro u _ i p h; simp at h
  | cons s L ih =>
    intro u h i p hp
    obtain ⟨_, _, _, h4, h5⟩ := h
    cases i with
    | zero =>
      have : s = p := by simpa using hp
      rw [← this, h4]; rfl
    | succ i =>
      rw [nxi_s, ← h4]
      exact ih h5 i p (by simpa using hp)
theorem AwE_congr {a : Nat → Int32} (h : ∀ y x, E2 y x → E y x) (hA : AwE n fa fb Z s far E a) : AwE n fa fb Z s far E2 a := by
  intro x hx
  obtain ⟨h1, h2⟩ := hA x hx
  exact ⟨h1, fun q => (h2 q).imp id (fun z => ⟨z.1, fun y hy => z.2 y (h y x hy)⟩)⟩
/-- a spreading -/
theorem spread_ok {w1 w2 w3 : Int32} (hn : n ≤ 32) (hA : AwE n fa fb Z s far E z) (h1 : w1.toInt = (f : Int)) (h2 : w2.toInt = (t : Int)) (h3 : w3.toInt = (far : Int)) (hf : f < n) (ht : t < n) (hfar : far < 32) (hZ : Z l) (hE : isE fa fb l t f) : Ok (Ro_m_spread z w1 w2 w3) (AwE n fa fb Z s far (fun y x => E y x ∨ (y = f ∧ x = t))) := by
  obtain ⟨f1, f2⟩ := hA f hf
  obtain ⟨t1, t2⟩ := hA t ht
  have hff : (z f).toInt = (far : Int) ↔ dsn fa fb Z f s = far := by
    constructor
    · intro q
      by_cases q2 : dsn fa fb Z f s ≤ far
      · have := f1 q2; omega
      · rcases f2 (by omega) with z1 | z1
        · omega
        · omega
    · intro q
      have := f1 (by omega); omega
  have stay : (dsn fa fb Z f s ≠ far ∨ (z t).toInt ≠ -1) → AwE n fa fb Z s far (fun y x => E y x ∨ (y = f ∧ x = t)) z := by
    intro hq x hx
    obtain ⟨x1, x2⟩ := hA x hx
    refine ⟨x1, fun q => (x2 q).imp id (fun z1 => ⟨z1.1, fun y hy => ?_⟩)⟩
    rcases hy with hy | ⟨e1, e2⟩
    · exact z1.2 y hy
    · rcases hq with hq | hq
      · rw [e1]; exact hq
      · rw [← e2] at hq; exact absurd z1.1 hq
  have ez : Ro_away z = z := rfl
  unfold Ro_m_spread
  rw [ez]
  refine Ok_rdb h1 (by omega) (Ok_ieq rfl h3 (fun q => Ok_rdb h2 (by omega) (Ok_ieq rfl i32_m1 (fun q2 => Ok_wrb h2 (by omega) (Ok_some ?_)) (fun q2 => Ok_some (stay (Or.inr q2))))) (fun q => Ok_some (stay (Or.inl (fun z1 => q (hff.mpr z1))))))
  show AwE n fa fb Z s far (fun y x => E y x ∨ (y = f ∧ x = t)) (va_up z t (w3 + 1))
  have hdf := hff.mp q
  have hdt : far < dsn fa fb Z t s := by
    refine Classical.byContradiction (fun z1 => ?_)
    have := t1 (by omega); omega
  have hd1 : dsn fa fb Z t s ≤ dsn fa fb Z f s + 1 := dsn_E hZ hE (by omega)
  intro x hx
  by_cases e : x = t
  · subst e
    rw [vu_s]
    refine ⟨fun z1 => by omega, fun _ => Or.inl ⟨?_, by omega⟩⟩
    rw [nx_s h3 (by omega)]; omega
  · rw [vu_n e]
    obtain ⟨x1, x2⟩ := hA x hx
    refine ⟨x1, fun q => (x2 q).imp id (fun z1 => ⟨z1.1, fun y hy => ?_⟩)⟩
    rcases hy with hy | ⟨_, e2⟩
    · exact z1.2 y hy
    · exact absurd e2 e
theorem measureR_ok (hv : HV n m fa fb) (hW : WbOK n m fa fb w) {w2 : Int32} (h2 : w2.toInt = (l : Int)) (hl : l < m) (hD : dsn fa fb (ZW m (l : Int)) (fb l) (fa l) = D) (hDn : D ≤ n - 1) : Ok (Ro_m_measure z w w2) (fun r => r.1.toInt = ((D + 1 : Nat) : Int) ∧ AwD n fa fb (ZW m (l : Int)) (fa l) D r.2) := by
  have hn := hv.2.1
  have hn2 := hv.1
  have hm := hv.2.2.1
  have hV := hv.2.2.2.1
  have hfl := hW.2.1 l hl
  have hvl := hV l hl
  have hlk := hW.1
  have hnn := hW.2.2.2.1.1
  unfold Ro_m_measure
  refine Ok_rdb h2 (by omega) (Ok_rdb h2 (by omega) (Ok_wrb hfl.1 (by omega) ?_))
  have hs0 : AwD n fa fb (ZW m (l : Int)) (fa l) 0 (va_up (Ro_away (Ro_set_away z (fillF (Ro_away z) 32 (-1)))) (fa l) 0) := by
    intro x hx
    by_cases e : x = fa l
    · subst e
      rw [vu_s]
      have h0 : dsn fa fb (ZW m (l : Int)) (fa l) (fa l) = 0 := dsn_0.mpr rfl
      exact ⟨fun _ => by rw [h0]; exact i32_0, fun q => by omega⟩
    · rw [vu_n e]
      have h0 : dsn fa fb (ZW m (l : Int)) x (fa l) ≠ 0 := fun q => e (dsn_0.mp q)
      refine ⟨fun q => by omega, fun _ => ?_⟩
      show (fillF (Ro_away z) 32 (-1) x).toInt = -1
      have : fillF (Ro_away z) 32 (-1 : Int32) x = -1 := by unfold fillF; rw [if_pos (by omega)]
      rw [this]; exact i32_m1
  have hset : ∀ (a : RoS) (g : Nat → Int32), Ro_set_away a g = g := fun _ _ => rfl
  rw [hset]
  generalize va_up (Ro_away (Ro_set_away z (fillF (Ro_away z) 32 (-1)))) (fa l) 0 = a0 at *
  refine Ok_for (σ := RoS) D (fun far a => AwD n fa fb (ZW m (l : Int)) (fa l) far a) (by omega) i32_0 hs0 ?_ ?_
  · intro far a i hfar hi hA
    dsimp only [Ro_m_measure_s30]
    have hend := (hA (fb l) hvl.2).2 (by omega)
    have ea : Ro_away a = a := rfl
    rw [ea]
    refine Ok_ite (fun q => by rw [i32_le] at q; omega) (fun _ => Ok_eqr hfl.2 (by omega) hend i32_m1 (fun _ => ?_) (fun q => absurd rfl q))
    refine Ok_for (σ := RoS) m (fun j a => AwE n fa fb (ZW m (l : Int)) (fa l) far (fun y x => ∃ l', l' < j ∧ ZW m (l : Int) l' ∧ isE fa fb l' x y) a) (by omega) i32_0 ?_ ?_ ?_
    · intro x hx
      exact ⟨(hA x hx).1, fun q => Or.inr ⟨(hA x hx).2 q, fun y ⟨l', h, _⟩ => absurd h (Nat.not_lt_zero l')⟩⟩
    · intro j a i2 hj hi2 hI
      dsimp only [Ro_m_measure_s52]
      have hfj := hW.2.1 j hj
      have hvj := hV j hj
      refine Ok_ite (fun q => by rw [i32_le] at q; omega) (fun _ => Ok_ieq hi2 h2 (fun e => Ok_some ⟨nx_s hi2 (by omega), AwE_congr (fun y x hh => by
          obtain ⟨l', h1, h3, h4⟩ := hh
          by_cases e2 : l' = j
          · rw [e2] at h3; exact absurd e h3.2
          · exact ⟨l', by omega, h3, h4⟩) hI⟩) (fun e => ?_))
      · have hZ : ZW m (l : Int) j := ⟨hj, e⟩
        refine Ok_rdb hi2 (by omega) (Ok_rdb hi2 (by omega) (Ok_then (spread_ok hn hI hfj.1 hfj.2 hi hvj.1 hvj.2 (by omega) hZ (Or.inr ⟨rfl, rfl⟩)) (fun g hg => Ok_rdb hi2 (by omega) (Ok_rdb hi2 (by omega) (Ok_then (spread_ok hn hg hfj.2 hfj.1 hi hvj.2 hvj.1 (by omega) hZ (Or.inl ⟨rfl, rfl⟩)) (fun g2 hg2 => Ok_some ⟨nx_s hi2 (by omega), AwE_congr (fun y x hh => by
          obtain ⟨l', h1, h3, h4⟩ := hh
          by_cases e2 : l' = j
          · rw [e2] at h4
            rcases h4 with ⟨q1, q2⟩ | ⟨q1, q2⟩
            · exact Or.inr ⟨q2.symm, q1.symm⟩
            · exact Or.inl (Or.inr ⟨q1.symm, q2.symm⟩)
          · exact Or.inl (Or.inl ⟨l', by omega, h3, h4⟩)) hg2⟩))))))
    · intro a i2 hi2 hI
      dsimp only [Ro_m_measure_s52]
      refine Ok_ite (fun _ => Ok_omap (Ok_some ⟨nx_s hi (by omega), fun x hx => ?_⟩)) (fun q => by rw [i32_le] at q; omega)
      obtain ⟨x1, x2⟩ := hI x hx
      have key : dsn fa fb (ZW m (l : Int)) x (fa l) = far + 1 → (a x).toInt = (far : Int) + 1 := by
        intro q
        rcases x2 (by omega) with z1 | z1
        · exact z1.1
        · exfalso
          obtain ⟨l', y, h3, h4, h5⟩ := dsn_step (fa := fa) (fb := fb) (Z := ZW m (l : Int)) (x := x) (v := fa l) (fun e => by rw [e, dsn_0.mpr rfl] at q; omega) (by omega)
          exact z1.2 y ⟨l', h3.1, h3, h4⟩ (by omega)
      refine ⟨fun q => ?_, fun q => ?_⟩
      · show (a x).toInt = _
        by_cases q2 : dsn fa fb (ZW m (l : Int)) x (fa l) = far + 1
        · rw [key q2, q2]; omega
        · exact x1 (by omega)
      · show (a x).toInt = _
        rcases x2 (by omega) with z1 | z1
        · omega
        · exact z1.1
  · intro a i hi hA
    dsimp only [Ro_m_measure_s30]
    have hend := (hA (fb l) hvl.2).1 (by omega)
    rw [hD] at hend
    have ea : Ro_away a = a := rfl
    have hj : Ok (Ro_m_measure_j119 a w (Wb_second w l)) (fun r => r.1.toInt = ((D + 1 : Nat) : Int) ∧ AwD n fa fb (ZW m (l : Int)) (fa l) D r.2) := by
      unfold Ro_m_measure_j119
      rw [ea]
      exact Ok_eqr hfl.2 (by omega) hend i32_m1 (fun q => by omega) (fun _ => Ok_rdb hfl.2 (by omega) (Ok_some ⟨nx_s hend (by omega), hA⟩))
    rw [ea]
    exact Ok_ite (fun q => by rw [i32_le] at q; omega) (fun _ => Ok_eqr hfl.2 (by omega) hend i32_m1 (fun q => by omega) (fun _ => Ok_omap hj))
/-- the next node of the ring -/
theorem leastNearer_ok (hv : HV n m fa fb) (hW : WbOK n m fa fb w) {w2 w3 : Int32} (h2 : w2.toInt = (l : Int)) (h3 : w3.toInt = (u : Int)) (hu : u < n) (hA : AwD n fa fb (ZW m (l : Int)) s D z) (hne : u ≠ s) (hdu : dsn fa fb (ZW m (l : Int)) u s ≤ D) (hD : D < 32) : Ok (Ro_m_leastNearer z w w2 w3) (fun r => r.toInt = (nxn fa fb (ZW m (l : Int)) n s u : Int)) := by
  have hn := hv.2.1
  have hm := hv.2.2.1
  have hV := hv.2.2.2.1
  have hlk := hW.1
  have hd0 : dsn fa fb (ZW m (l : Int)) u s ≠ 0 := fun q => hne (dsn_0.mp q)
  have hau := (hA u hu).1 hdu
  have ez : Ro_away z = z := rfl
  have hcand : ∀ {l' t : Nat}, ZW m (l : Int) l' → isE fa fb l' u t → t < n := fun hz he => (isE_lt hV hz.1 he).2
  unfold Ro_m_leastNearer
  refine Ok_for m (fun j c => (c.toInt = 32 ∧ ∀ l' t, l' < j → ZW m (l : Int) l' → isE fa fb l' u t → dsn fa fb (ZW m (l : Int)) t s + 1 ≠ dsn fa fb (ZW m (l : Int)) u s) ∨ (∃ t l' : Nat, c.toInt = (t : Int) ∧ ZW m (l : Int) l' ∧ isE fa fb l' u t ∧ dsn fa fb (ZW m (l : Int)) t s + 1 = dsn fa fb (ZW m (l : Int)) u s ∧ ∀ l2 t2, l2 < j → ZW m (l : Int) l2 → isE fa fb l2 u t2 → dsn fa fb (ZW m (l : Int)) t2 s + 1 = dsn fa fb (ZW m (l : Int)) u s → t ≤ t2)) (by omega) i32_0 (Or.inl ⟨i32_32, fun l' t h => absurd h (Nat.not_lt_zero l')⟩) ?_ ?_
  · intro j c i hj hi hI
    dsimp only [Ro_m_leastNearer_s7]
    have hfj := hW.2.1 j hj
    have hvj := hV j hj
    have hnej := hv.2.2.2.2 j hj
    have skip : (∀ t, ZW m (l : Int) j → isE fa fb j u t → dsn fa fb (ZW m (l : Int)) t s + 1 ≠ dsn fa fb (ZW m (l : Int)) u s) → Ok (some (Sum.inl (c, i + 1)) : Option ((Int32 × Int32) ⊕ Int32)) (LR (fun p => p.2.toInt = ((j + 1 : Nat) : Int) ∧ ((p.1.toInt = 32 ∧ ∀ l' t, l' < j + 1 → ZW m (l : Int) l' → isE fa fb l' u t → dsn fa fb (ZW m (l : Int)) t s + 1 ≠ dsn fa fb (ZW m (l : Int)) u s) ∨ (∃ t l' : Nat, p.1.toInt = (t : Int) ∧ ZW m (l : Int) l' ∧ isE fa fb l' u t ∧ dsn fa fb (ZW m (l : Int)) t s + 1 = dsn fa fb (ZW m (l : Int)) u s ∧ ∀ l2 t2, l2 < j + 1 → ZW m (l : Int) l2 → isE fa fb l2 u t2 → dsn fa fb (ZW m (l : Int)) t2 s + 1 = dsn fa fb (ZW m (l : Int)) u s → t ≤ t2))) (fun r : Int32 => r.toInt = (nxn fa fb (ZW m (l : Int)) n s u : Int))) := by
      intro hs
      refine Ok_some ⟨nx_s hi (by omega), ?_⟩
      rcases hI with ⟨e, hI⟩ | ⟨t, l', e1, e3, e4, e5, hI⟩
      · refine Or.inl ⟨e, fun l' t hl hz he => ?_⟩
        by_cases q : l' = j
        · rw [q] at hz he; exact hs t hz he
        · exact hI l' t (by omega) hz he
      · refine Or.inr ⟨t, l', e1, e3, e4, e5, fun l2 t2 hl hz he hd => ?_⟩
        by_cases q : l2 = j
        · rw [q] at hz he; exact absurd hd (hs t2 hz he)
        · exact hI l2 t2 (by omega) hz he hd
    refine Ok_ite (fun q => by rw [i32_le] at q; omega) (fun _ => Ok_ieq hi h2 (fun e => skip (fun t hz => absurd e hz.2)) (fun e => ?_))
    have hZj : ZW m (l : Int) j := ⟨hj, e⟩
    have key : ∀ (t : Nat) (g : Int32), g.toInt = (t : Int) → isE fa fb j u t → (∀ t2, isE fa fb j u t2 → t2 = t) → Ok (Ro_m_leastNearer_j60 z w w2 w3 c i g) (LR (fun p => p.2.toInt = ((j + 1 : Nat) : Int) ∧ ((p.1.toInt = 32 ∧ ∀ l' t, l' < j + 1 → ZW m (l : Int) l' → isE fa fb l' u t → dsn fa fb (ZW m (l : Int)) t s + 1 ≠ dsn fa fb (ZW m (l : Int)) u s) ∨ (∃ t l' : Nat, p.1.toInt = (t : Int) ∧ ZW m (l : Int) l' ∧ isE fa fb l' u t ∧ dsn fa fb (ZW m (l : Int)) t s + 1 = dsn fa fb (ZW m (l : Int)) u s ∧ ∀ l2 t2, l2 < j + 1 → ZW m (l : Int) l2 → isE fa fb l2 u t2 → dsn fa fb (ZW m (l : Int)) t2 s + 1 = dsn fa fb (ZW m (l : Int)) u s → t ≤ t2))) (fun r : Int32 => r.toInt = (nxn fa fb (ZW m (l : Int)) n s u : Int))) := by
      intro t g hg hE huq
      have htn := hcand hZj hE
      obtain ⟨t1, t2⟩ := hA t htn
      unfold Ro_m_leastNearer_j60
      rw [ez]
      have hsub : (z u - 1).toInt = (dsn fa fb (ZW m (l : Int)) u s : Int) - 1 := by rw [i32_sub (by rw [hau, i32_1]; omega) (by rw [hau, i32_1]; omega), hau, i32_1]
      refine Ok_rdb hg (by omega) (Ok_rdb h3 (by omega) (Ok_ieq rfl hsub (fun q => ?_) (fun q => skip (fun t3 _ hE3 hd => ?_))))
      · have hdt : dsn fa fb (ZW m (l : Int)) t s + 1 = dsn fa fb (ZW m (l : Int)) u s := by
          clear hI
          by_cases q2 : dsn fa fb (ZW m (l : Int)) t s ≤ D
          · have := t1 q2; omega
          · have := t2 (by omega); omega
        refine Ok_some ⟨nx_s hi (by omega), Or.inr ?_⟩
        show ∃ t l' : Nat, (if g < c then g else c).toInt = (t : Int) ∧ _
        rcases hI with ⟨e1, hI⟩ | ⟨t0, l', e1, e3, e4, e5, hI⟩
        · refine ⟨t, j, ?_, hZj, hE, hdt, fun l2 t2 hl hz he hd => ?_⟩
          · rw [if_pos (by rw [i32_lt, hg, e1]; omega)]; exact hg
          · by_cases q3 : l2 = j
            · rw [q3] at he; rw [huq t2 he]; exact Nat.le_refl _
            · exact absurd hd (hI l2 t2 (by omega) hz he)
        · by_cases q3 : t < t0
          · refine ⟨t, j, ?_, hZj, hE, hdt, fun l2 t2 hl hz he hd => ?_⟩
            · rw [if_pos (by rw [i32_lt, hg, e1]; omega)]; exact hg
            · by_cases q4 : l2 = j
              · rw [q4] at he; rw [huq t2 he]; exact Nat.le_refl _
              · have := hI l2 t2 (by omega) hz he hd; omega
          · refine ⟨t0, l', ?_, e3, e4, e5, fun l2 t2 hl hz he hd => ?_⟩
            · rw [if_neg (by rw [i32_lt, hg, e1]; omega)]; exact e1
            · by_cases q4 : l2 = j
              · rw [q4] at he; rw [huq t2 he]; omega
              · exact hI l2 t2 (by omega) hz he hd
      · rw [huq t3 hE3] at hd
        have := t1 (by omega)
        omega
    refine Ok_tf (isAtC_ok hW.2.1 hm hi hj h3) (fun hat => ?_) (fun hat => skip (fun t _ hE => absurd (E_atN hE) hat))
    refine Ok_eqr hi (by omega) hfj.1 h3 (fun e1 => ?_) (fun e1 => ?_)
    · have e1' : fa j = u := Int.natCast_inj.mp e1
      refine Ok_rdb hi (by omega) (key (fb j) _ hfj.2 (Or.inl ⟨e1', rfl⟩) (fun t2 he => ?_))
      rcases he with ⟨_, q⟩ | ⟨q1, q2⟩
      · exact q.symm
      · exact absurd (e1'.trans q2.symm) hnej
    · have e2 : fb j = u := by
        rcases hat with q | q
        · exact absurd (by rw [q]) e1
        · exact q
      refine Ok_rdb hi (by omega) (key (fa j) _ hfj.1 (Or.inr ⟨rfl, e2⟩) (fun t2 he => ?_))
      rcases he with ⟨q1, q2⟩ | ⟨q, _⟩
      · exact absurd (by rw [q1]) e1
      · exact q.symm
  · intro c i hi hI
    dsimp only [Ro_m_leastNearer_s7]
    refine Ok_ite (fun _ => Ok_omap ?_) (fun q => by rw [i32_le] at q; omega)
    obtain ⟨l0, t0, hz0, he0, hd1⟩ := dsn_step (fa := fa) (fb := fb) (Z := ZW m (l : Int)) hne (by omega)
    rcases hI with ⟨e1, hI⟩ | ⟨t, l', e1, e3, e4, e5, hI⟩
    · exact absurd hd1 (hI l0 t0 hz0.1 hz0 he0)
    · have htn := hcand e3 e4
      refine Ok_ile i32_32 e1 (fun q => by omega) (fun _ => Ok_some ?_)
      show c.toInt = _
      rw [e1]
      refine congrArg (fun z : Nat => (z : Int)) ?_
      refine (lea_uniq (Nat.le_of_lt htn) (fun _ => ⟨⟨l', e3, e4⟩, e5⟩) (fun i hi ⟨⟨l2, hz2, he2⟩, hd2⟩ => ?_)).symm
      have := hI l2 i hz2.1 hz2 he2 hd2
      omega
theorem pc_ring : PC_ring Inv := by
  intro X M ⟨n, m, fa, fb, hv, hc, hr, hd⟩ v1 v2
  apply pcX
  have hT : Rd n m fa fb M (Md_set_told M 0) := Rd_told hr
  have hn := hv.2.1
  have hn2 := hv.1
  have hm := hv.2.2.1
  have hV := hv.2.2.2.1
  unfold SB_m_ring Md_m_ring
  have hA := isLinkC_ok (w := v1) hc
  have hBx := isLinkR_ok (x := Md_set_told M 0) (w := v1) hr.2.1
  by_cases h1 : 0 ≤ v1.toInt ∧ v1.toInt < m
  · refine T2_t1 hA h1 (T2_t2 hBx h1 (T2_b2 (runsAll_ok hv hT) (fun g hg => ?_)))
    have hl : v1.toInt = (v1.toInt.toNat : Int) := by omega
    have hlm : v1.toInt.toNat < m := by omega
    generalize v1.toInt.toNat = l at *
    have hy := Rt_y hg
    have hW := hc.1.1
    have hf := hW.2.1 l hlm
    have hfR := hy.2.2.1 l hlm
    have hvl := hV l hlm
    by_cases hb : brg fa fb m l
    · exact T2_t1 (isBrC_ok hW.2.2.1 hm hl hlm) hb (T2_t2 (ry_br hy hm hl hlm) hb (T2_some ⟨rfl, Inv_of hv hc hd (Rt_d hg)⟩))
    · refine T2_f1 (isBrC_ok hW.2.2.1 hm hl hlm) hb (T2_f2 (ry_br hy hm hl hlm) hb ?_)
      have hzl : v1.toInt = (l : Int) := hl
      have hRch : Rch fa fb (ZW m (l : Int)) (fb l) (fa l) := by
        have h2 : Rch fa fb (fun l' => l' < m ∧ l' ≠ l) (fa l) (fb l) := (nobrg_iff hlm hb).mpr (ld_link hlm)
        exact h2.symm.mono (fun l' hz => ⟨hz.1, fun z => hz.2 (Int.natCast_inj.mp z)⟩)
      have hDn := dsn_reach hn hRch (fun l' hz => hV l' hz.1) hvl.2
      have hlays := laysWay_ok (x := g) (wo := v1) hV hn hm hy.2.1 hy.2.2.1 hfR.2 hfR.1 hvl.2 hvl.1
      rw [hzl] at hlays
      refine T2_b2 (Ok_rd1 (P := fun r : Int32 => r = Md_second g l) hl (by omega) rfl) (fun g35 hg35 => T2_b2 (Ok_rd1 (P := fun r : Int32 => r = Md_first g l) hl (by omega) rfl) (fun g41 hg41 => ?_))
      rw [hg35, hg41]
      refine T2_b2 hlays (fun gl hgl => ?_)
      have hrd : Rd n m fa fb M gl.2 := Rt_d (Rt_Fz hgl.1 hg)
      rcases hgl.2 with ⟨_, e2⟩ | ⟨_, P, hP, hWy⟩
      · exact absurd hRch e2
      · have hPl := dwn_len hP
        refine T2_b1 (measureR_ok (z := SB_round X) hv hW hl hlm rfl hDn) (fun gm hgm => ?_)
        have hXd : Xd n m fa fb X (SB_set_round X gm.2) := ⟨hc, rfl⟩
        have hn1 : SB_now (SB_set_round X gm.2) = SB_now X := rfl
        have hn3 : SB_round (SB_set_round X gm.2) = gm.2 := rfl
        have hwl := hWy.1
        have hin := isInt_ok (x := gl.2) (w := v2) i64_0 (i32_w (Md_wayLong gl.2))
        rw [hwl] at hin
        rw [hn1, hn3]
        refine T2_ite (fun e => T2_some ⟨i32_ext ?_, Inv_ofX hv hXd hd hrd⟩) (fun e => ?_)
        · show (Md_wayLong gl.2 + 1).toInt = gm.1.toInt
          rw [nx_s hwl (by omega), hgm.1, hPl]
        · have hno : T2 (fun (r : Int32 × SBS) (q : Int32 × MdS) => q.1 = r.1 ∧ Inv r.2 q.2) (some (-1, SB_set_round X gm.2)) (some (-1, gl.2)) := T2_some ⟨rfl, Inv_ofX hv hXd hd hrd⟩
          by_cases h3 : v2.toInt < 0
          · exact T2_p1 (by rw [i32_lt, i32_0]; exact h3) (T2_f2 hin (by omega) hno)
          · refine T2_n1 (by rw [i32_lt, i32_0]; exact h3) ?_
            by_cases h4 : v2.toInt < (P.length : Int) + 1
            · refine T2_p1 (by rw [i32_lt, hgm.1]; omega) (T2_t2 hin (by omega) ?_)
              have hi : v2.toInt = (v2.toInt.toNat : Int) := by omega
              have hip : v2.toInt.toNat ≤ P.length := by omega
              generalize v2.toInt.toNat = i at *
              refine ansX hv hd (E := (nxi n fa fb (ZW m (l : Int)) (fa l) (fb l) i : Int)) ?_ ?_
              · -- the class
                have hnn := hW.2.2.2.1.1
                have along : ∀ k, k ≤ P.length → nxi n fa fb (ZW m (l : Int)) (fa l) (fb l) k < n ∧ dsn fa fb (ZW m (l : Int)) (nxi n fa fb (ZW m (l : Int)) (fa l) (fb l) k) (fa l) + k = P.length := by
                  intro k
                  induction k with
                  | zero => intro _; exact ⟨hvl.2, hPl.symm⟩
                  | succ k ih =>
                    intro hk
                    obtain ⟨a1, a2⟩ := ih (by omega)
                    have hne : nxi n fa fb (ZW m (l : Int)) (fa l) (fb l) k ≠ fa l := fun z => by rw [z, dsn_0.mpr rfl] at a2; omega
                    have := nxn_ok (n := n) (fun l' hz => hV l' hz.1) hne (show dsn fa fb (ZW m (l : Int)) _ (fa l) < 33 by omega)
                    exact ⟨this.1, by
                      have := this.2.2
                      show dsn fa fb (ZW m (l : Int)) (nxn fa fb (ZW m (l : Int)) n (fa l) (nxi n fa fb (ZW m (l : Int)) (fa l) (fb l) k)) (fa l) + (k + 1) = P.length
                      omega⟩
                have hnode : Ok (Ro_m_nodeAt gm.2 (SB_now X) v1 v2) (fun r => r.toInt = (nxi n fa fb (ZW m (l : Int)) (fa l) (fb l) i : Int)) := by
                  unfold Ro_m_nodeAt
                  refine Ok_rdb hl (by omega) ?_
                  refine Ok_for i (fun k c => c.toInt = (nxi n fa fb (ZW m (l : Int)) (fa l) (fb l) k : Int)) (by omega) i32_0 hf.2 ?_ ?_
                  · intro k c i2 hk hi2 hcc
                    dsimp only [Ro_m_nodeAt_s11]
                    obtain ⟨a1, a2⟩ := along k (by omega)
                    have hne : nxi n fa fb (ZW m (l : Int)) (fa l) (fb l) k ≠ fa l := fun z => by rw [z, dsn_0.mpr rfl] at a2; omega
                    refine Ok_ite (fun q => by rw [i32_le] at q; omega) (fun _ => Ok_ite (fun q => by rw [i32_le] at q; omega) (fun _ => ?_))
                    exact Ok_then (leastNearer_ok hv hW hl hcc a1 hgm.2 hne (by omega) (by omega)) (fun g2 hg2 => Ok_some ⟨nx_s hi2 (by omega), hg2⟩)
                  · intro c i2 hi2 hcc
                    dsimp only [Ro_m_nodeAt_s11]
                    exact Ok_ite (fun _ => Ok_omap (Ok_some hcc)) (fun q => by rw [i32_le] at q; omega)
                exact Ok_then hnode (fun g2 hg2 => Ok_some ⟨hg2, hXd⟩)
              · refine Ok_rdb hi (by omega) (Ok_some ⟨?_, hrd⟩)
                show (Md_wayNode gl.2 i).toInt = _
                cases i with
                | zero => exact hWy.2.1
                | succ i =>
                  obtain ⟨p, hp⟩ := getE (P := P) (i := i) (by omega)
                  rw [(hWy.2.2 i p hp).2, dwn_get hP i p hp]
            · exact T2_n1 (by rw [i32_lt, hgm.1]; omega) (T2_f2 hin (by omega) hno)
  · exact T2_f1 hA h1 (T2_f2 hBx h1 (T2_some ⟨rfl, Inv_of hv hc hd hT⟩))
end K14
