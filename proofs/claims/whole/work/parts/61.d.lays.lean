/-! REFERENCE 13: the parts laid -/
def DN (fa fb : Nat → Nat) (k : Nat) (O : Nat → Prop) (P : Nat → Nat) (v a b : Nat) : Prop := ∀ v' a' b', SP fa fb k O v' a' b' → (v' < v ∨ (v' = v ∧ (a' < a ∨ (a' = a ∧ b' < b)))) → P a' = P b'
def LPI (n : Nat) (fa fb : Nat → Nat) (k : Nat) (O : Nat → Prop) (x : MdS) (v a b : Nat) (y : MdS) : Prop := ∃ (f : Nat → Int32) (P : Nat → Nat), y = Md_set_partOf x f ∧ (∀ l, l < 64 → (f l).toInt = (P l : Int)) ∧ PI P (SS n fa fb k O) ∧ DN fa fb k O P v a b
section R13
variable {fa fb : Nat → Nat} {n k m u v b c t y r a p : Nat} {x z : MdS} {lk nd : Int32}
theorem LPI_skip {O : Nat → Prop} {y : MdS} (h : LPI n fa fb k O x v a b y) (hno : ¬ SP fa fb k O v a b) : LPI n fa fb k O x v a (b + 1) y := by
  obtain ⟨f, P, h1, h2, h3, h4⟩ := h
  refine ⟨f, P, h1, h2, h3, fun v' a' b' hS ho => ?_⟩
  by_cases e : v' = v ∧ a' = a ∧ b' = b
  · obtain ⟨rfl, rfl, rfl⟩ := e
    exact absurd hS hno
  · refine h4 v' a' b' hS ?_
    rcases ho with q | ⟨q1, q2 | ⟨q2, q3⟩⟩
    · exact Or.inl q
    · exact Or.inr ⟨q1, Or.inl q2⟩
    · refine Or.inr ⟨q1, Or.inr ⟨q2, ?_⟩⟩
      have : b' ≠ b := fun z => e ⟨q1, q2, z⟩
      omega
theorem LPI_a {O : Nat → Prop} {y : MdS} (h : LPI n fa fb k O x v a b y) (hno : ∀ b', SP fa fb k O v a b' → b' < b) : LPI n fa fb k O x v (a + 1) 0 y := by
  obtain ⟨f, P, h1, h2, h3, h4⟩ := h
  refine ⟨f, P, h1, h2, h3, fun v' a' b' hS ho => h4 v' a' b' hS ?_⟩
  rcases ho with q | ⟨q1, q2 | ⟨q2, q3⟩⟩
  · exact Or.inl q
  · refine Or.inr ⟨q1, ?_⟩
    by_cases e : a' = a
    · subst q1 e
      exact Or.inr ⟨rfl, hno b' hS⟩
    · exact Or.inl (by omega)
  · omega
theorem LPI_v {O : Nat → Prop} {y : MdS} (h : LPI n fa fb k O x v a b y) (hno : ∀ a' b', SP fa fb k O v a' b' → a' < a) : LPI n fa fb k O x (v + 1) 0 0 y := by
  obtain ⟨f, P, h1, h2, h3, h4⟩ := h
  refine ⟨f, P, h1, h2, h3, fun v' a' b' hS ho => h4 v' a' b' hS ?_⟩
  rcases ho with q | ⟨q1, q2 | ⟨q2, q3⟩⟩
  · by_cases e : v' = v
    · subst e
      exact Or.inr ⟨rfl, Or.inl (hno a' b' hS)⟩
    · exact Or.inl (by omega)
  · omega
  · omega
theorem E_uniq {l v p p2 : Nat} (hne : fa l ≠ fb l) (h : isE fa fb l v p) (h2 : isE fa fb l v p2) : p = p2 := by
  rcases h with ⟨a1, a2⟩ | ⟨a1, a2⟩ <;> rcases h2 with ⟨b1, b2⟩ | ⟨b1, b2⟩
  · exact a2.symm.trans b2
  · exact absurd (a1.trans b2.symm) hne
  · exact absurd (b1.trans a2.symm) hne
  · exact a1.symm.trans b1
theorem lays_in (hV : Vd fa fb n k) (hn : n ≤ 32) (hk : k ≤ 64) (hne : ∀ l, l < k → fa l ≠ fb l) (hf : ∀ l, l < k → (Md_first x l).toInt = (fa l : Int) ∧ (Md_second x l).toInt = (fb l : Int)) (hv : v < n) (ha : a < k) (hOa : ¬ Out fa fb lk.toInt nd.toInt a) (hE : isE fa fb a v p)
    {v1 v4 v5 v6 : Int32} (h4 : v4.toInt = (v : Int)) (h5 : v5.toInt = (a : Int)) (h6 : ∀ j, j < 32 → (bt v6 j = true ↔ Rch fa fb (fun l => l < k ∧ (¬ Out fa fb lk.toInt nd.toInt l ∧ ¬ Out fa fb (-1) v4.toInt l)) p j)) {y : MdS}
    (hy : LPI n fa fb k (Out fa fb lk.toInt nd.toInt) x v a 0 y) {PP : (MdS × Int32) ⊕ MdS → Prop} :
    Ok (iter (fun q : MdS × Int32 => Md_m_laysParts_s115 v1 lk nd v4 v5 v6 q.1 q.2) FU (y, 0)) (LR (fun q => q.2.toInt = ((a + 1 : Nat) : Int) ∧ LPI n fa fb k (Out fa fb lk.toInt nd.toInt) x v (a + 1) 0 q.1) PP) := by
  have hZ : ∀ l, (l < k ∧ (¬ Out fa fb lk.toInt nd.toInt l ∧ ¬ Out fa fb (-1) v4.toInt l)) ↔ (l < k ∧ ¬ Out fa fb lk.toInt nd.toInt l ∧ ¬ atN fa fb l v) := by
    intro l
    have : Out fa fb (-1) v4.toInt l ↔ atN fa fb l v := by
      unfold Out atN
      rw [h4]
      constructor
      · intro z; rcases z with z | z | z
        · omega
        · exact Or.inl (by omega)
        · exact Or.inr (by omega)
      · intro z; rcases z with z | z
        · exact Or.inr (Or.inl (by omega))
        · exact Or.inr (Or.inr (by omega))
    rw [this]
  have hRch : ∀ q, Rch fa fb (fun l => l < k ∧ (¬ Out fa fb lk.toInt nd.toInt l ∧ ¬ Out fa fb (-1) v4.toInt l)) p q ↔ Rch fa fb (fun l => l < k ∧ ¬ Out fa fb lk.toInt nd.toInt l ∧ ¬ atN fa fb l v) p q := fun q => ⟨fun h => h.mono (fun l hl => (hZ l).mp hl), fun h => h.mono (fun l hl => (hZ l).mpr hl)⟩
  refine Ok_for a (fun b y => LPI n fa fb k (Out fa fb lk.toInt nd.toInt) x v a b y) (by omega) i32_0 hy ?_ ?_
  · intro b y i hb hi hL
    dsimp only [Md_m_laysParts_s115]
    have hbk : b < k := by omega
    have hb64 : b < 64 := by omega
    have hfb := hf b hbk
    have hvb := hV b hbk
    refine Ok_ite (fun q => by rw [i32_le] at q; omega) (fun _ => ?_)
    have hL' := hL
    obtain ⟨f, P, e, hfP, hPI, hDN⟩ := hL
    subst e
    have skip : ¬ SP fa fb k (Out fa fb lk.toInt nd.toInt) v a b → Ok (some (Sum.inl (Md_set_partOf x f, i + 1)) : Option ((MdS × Int32) ⊕ ((MdS × Int32) ⊕ ((MdS × Int32) ⊕ MdS)))) (LR (fun q => q.2.toInt = ((b + 1 : Nat) : Int) ∧ LPI n fa fb k (Out fa fb lk.toInt nd.toInt) x v a (b + 1) q.1) (LR (fun q => q.2.toInt = ((a + 1 : Nat) : Int) ∧ LPI n fa fb k (Out fa fb lk.toInt nd.toInt) x v (a + 1) 0 q.1) PP)) := fun hno => Ok_some ⟨nx_s hi (by omega), LPI_skip hL' hno⟩
    refine Ok_then (isOut_ok (x := Md_set_partOf x f) (wl := lk) (wn := nd) hi hb64 (by rw [Pq_f, Pq_s]; exact hfb)) (fun g hg => Ok_ite (fun q => skip (fun z => z.2.2.2.1 (hg.mp q))) (fun q => ?_))
    have hOb : ¬ Out fa fb lk.toInt nd.toInt b := fun z => q (hg.mpr z)
    rw [Pq_f, Pq_s]
    have act : ∀ q, isE fa fb b v q → Ok (Md_m_laysParts_j157 (Md_set_partOf x f) v1 lk nd v4 v5 v6 i) (LR (fun q => q.2.toInt = ((b + 1 : Nat) : Int) ∧ LPI n fa fb k (Out fa fb lk.toInt nd.toInt) x v a (b + 1) q.1) (LR (fun q => q.2.toInt = ((a + 1 : Nat) : Int) ∧ LPI n fa fb k (Out fa fb lk.toInt nd.toInt) x v (a + 1) 0 q.1) PP)) := by
      intro w hw
      have hwn := (isE_lt hV hbk hw).2
      unfold Md_m_laysParts_j157
      refine Ok_then (other_ok (x := Md_set_partOf x f) hi hb64 (by rw [Pq_f, Pq_s]; exact hfb) h4 hw (by omega)) (fun g165 hg2 => Ok_eqb (has_ok hg2 (by omega)) (Ok_ite (fun q2 => ?_) (fun q2 => ?_)))
      · have hr := (hRch w).mp ((h6 w (by omega)).mp q2)
        have hSP : SP fa fb k (Out fa fb lk.toInt nd.toInt) v a b := ⟨hb, ha, hOa, hOb, p, w, hE, hw, hr⟩
        refine Ok_then (joins_ok (x := x) hfP (fun l hl => (hPI.1 l hl).1) h5 hi (by omega) hb64) (fun g179 hg3 => ?_)
        obtain ⟨g, hg3, hgP⟩ := hg3
        subst hg3
        refine Ok_some ⟨nx_s hi (by omega), g, joinP P a b, rfl, hgP, PI_join hPI (by omega) hb64 ⟨v, hv, hSP⟩, fun v' a' b' hS ho => ?_⟩
        by_cases e : v' = v ∧ a' = a ∧ b' = b
        · obtain ⟨rfl, rfl, rfl⟩ := e
          exact joinP_ab
        · refine joinP_mono (hDN v' a' b' hS ?_)
          rcases ho with q | ⟨q1, q2 | ⟨q2, q3⟩⟩
          · exact Or.inl q
          · exact Or.inr ⟨q1, Or.inl q2⟩
          · refine Or.inr ⟨q1, Or.inr ⟨q2, ?_⟩⟩
            have : b' ≠ b := fun z => e ⟨q1, q2, z⟩
            omega
      · refine skip (fun ⟨_, _, _, _, p2, q3, e1, e2, e3⟩ => q2 ((h6 w (by omega)).mpr ((hRch w).mpr ?_)))
        rw [E_uniq (hne a ha) hE e1, E_uniq (hne b hbk) hw e2]
        exact e3
    refine Ok_rdb hi hb64 (Ok_ite (fun q2 => ?_) (fun q2 => ?_))
    · rw [i32_eq, hfb.1, h4] at q2
      exact act (fb b) (Or.inl ⟨by omega, rfl⟩)
    · rw [i32_eq, hfb.1, h4] at q2
      refine Ok_rdb hi hb64 (Ok_ite (fun q3 => ?_) (fun q3 => ?_))
      · rw [i32_eq, hfb.2, h4] at q3
        exact act (fa b) (Or.inr ⟨rfl, by omega⟩)
      · rw [i32_eq, hfb.2, h4] at q3
        refine skip (fun ⟨_, _, _, _, p2, q4, e1, e2, e3⟩ => ?_)
        rcases e2 with ⟨z, _⟩ | ⟨_, z⟩
        · exact q2 (by rw [z])
        · exact q3 (by rw [z])
  · intro y i hi hL
    dsimp only [Md_m_laysParts_s115]
    refine Ok_ite (fun _ => Ok_omap (Ok_some ⟨nx_s h5 (by omega), LPI_a hL (fun b' hS => hS.1)⟩)) (fun q => by rw [i32_le] at q; omega)
end R13
