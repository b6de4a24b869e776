/-! REFERENCE 14: the parts laid, whole -/
/-- what laying the parts of the first k links, without those out, leaves -/
def Laid (n : Nat) (fa fb : Nat → Nat) (k : Nat) (O : Nat → Prop) (x y : MdS) : Prop := ∃ (f : Nat → Int32) (P : Nat → Nat) (w : Int32), y = Md_set_parts (Md_set_partOf x f) w ∧ PI P (SS n fa fb k O) ∧ (∀ a b, SS n fa fb k O a b → P a = P b) ∧ (∀ l, l < 64 → (l < k ∧ O l → (f l).toInt = -1) ∧ (¬ (l < k ∧ O l) → (f l).toInt = (P l : Int))) ∧ w.toInt = (cnt (fun l => ¬ O l ∧ P l = l) k : Int)
section R14
variable {fa fb : Nat → Nat} {n k m u v b c t y r a p : Nat} {x z : MdS} {lk nd : Int32}
theorem Pq_eta : Md_set_partOf x (Md_partOf x) = x := by cases x; rfl
theorem Pr_0 {g : Nat → Int32} {w : Int32} : Md_set_partOf (Md_set_parts x w) g = Md_set_parts (Md_set_partOf x g) w := by
  obtain ⟨a1, a2, a3, a4, a5, a6, a7, a8, a9, a10, a11, a12, a13, a14, a15, a16, a17, a18, b, c, r⟩ := x
  have h1 : Md_set_partOf (Md_set_parts (a1, a2, a3, a4, a5, a6, a7, a8, a9, a10, a11, a12, a13, a14, a15, a16, a17, a18, b, c, r) w) g = (a1, a2, a3, a4, a5, a6, a7, a8, a9, a10, a11, a12, a13, a14, a15, a16, a17, a18, g, w, r) := rfl
  have h2 : Md_set_parts (Md_set_partOf (a1, a2, a3, a4, a5, a6, a7, a8, a9, a10, a11, a12, a13, a14, a15, a16, a17, a18, b, c, r) g) w = (a1, a2, a3, a4, a5, a6, a7, a8, a9, a10, a11, a12, a13, a14, a15, a16, a17, a18, g, w, r) := rfl
  exact h1.trans h2.symm
theorem Pr_1 {f g : Nat → Int32} {w : Int32} : Md_set_partOf (Md_set_parts (Md_set_partOf x f) w) g = Md_set_parts (Md_set_partOf x g) w := by rw [Pr_0, Pq_1]
theorem Pr_2 {w w2 : Int32} : Md_set_parts (Md_set_parts x w) w2 = Md_set_parts x w2 := rfl
theorem Pr_p {w : Int32} : Md_partOf (Md_set_parts x w) = Md_partOf x := rfl
theorem Pr_w {w : Int32} : Md_parts (Md_set_parts x w) = w := rfl
theorem Pr_f {w : Int32} : Md_first (Md_set_parts x w) = Md_first x := rfl
theorem Pr_s {w : Int32} : Md_second (Md_set_parts x w) = Md_second x := rfl
theorem lays_a (hV : Vd fa fb n k) (hn : n ≤ 32) (hk : k ≤ 64) (hne : ∀ l, l < k → fa l ≠ fb l) (hf : ∀ l, l < k → (Md_first x l).toInt = (fa l : Int) ∧ (Md_second x l).toInt = (fb l : Int)) (hv : v < n)
    {v1 v4 : Int32} (h1 : v1.toInt = (k : Int)) (h4 : v4.toInt = (v : Int)) {y : MdS}
    (hy : LPI n fa fb k (Out fa fb lk.toInt nd.toInt) x v 0 0 y) {PP : MdS → Prop} :
    Ok (iter (fun q : MdS × Int32 => Md_m_laysParts_s49 v1 lk nd v4 q.1 q.2) FU (y, 0)) (LR (fun q => q.2.toInt = ((v + 1 : Nat) : Int) ∧ LPI n fa fb k (Out fa fb lk.toInt nd.toInt) x (v + 1) 0 0 q.1) PP) := by
  refine Ok_for k (fun a y => LPI n fa fb k (Out fa fb lk.toInt nd.toInt) x v a 0 y) (by omega) i32_0 hy ?_ ?_
  · intro a y i ha hi hL
    dsimp only [Md_m_laysParts_s49]
    have ha64 : a < 64 := by omega
    have hfa := hf a ha
    have hva := hV a ha
    refine Ok_ite (fun q => by rw [i32_le] at q; omega) (fun _ => ?_)
    have hL' := hL
    obtain ⟨f, P, e, hfP, hPI, hDN⟩ := hL
    subst e
    have skip : (∀ b', ¬ SP fa fb k (Out fa fb lk.toInt nd.toInt) v a b') → Ok (some (Sum.inl (Md_set_partOf x f, i + 1)) : Option ((MdS × Int32) ⊕ ((MdS × Int32) ⊕ MdS))) (LR (fun q => q.2.toInt = ((a + 1 : Nat) : Int) ∧ LPI n fa fb k (Out fa fb lk.toInt nd.toInt) x v (a + 1) 0 q.1) (LR (fun q => q.2.toInt = ((v + 1 : Nat) : Int) ∧ LPI n fa fb k (Out fa fb lk.toInt nd.toInt) x (v + 1) 0 0 q.1) PP)) := fun hno => Ok_some ⟨nx_s hi (by omega), LPI_a hL' (fun b' hS => absurd hS (hno b'))⟩
    refine Ok_then (isOut_ok (x := Md_set_partOf x f) (wl := lk) (wn := nd) hi ha64 (by rw [Pq_f, Pq_s]; exact hfa)) (fun g hg => Ok_ite (fun q => skip (fun b' z => z.2.2.1 (hg.mp q))) (fun q => ?_))
    have hOa : ¬ Out fa fb lk.toInt nd.toInt a := fun z => q (hg.mpr z)
    rw [Pq_f, Pq_s]
    have act : ∀ w, isE fa fb a v w → Ok (Md_m_laysParts_j93 (Md_set_partOf x f) v1 lk nd v4 i) (LR (fun q => q.2.toInt = ((a + 1 : Nat) : Int) ∧ LPI n fa fb k (Out fa fb lk.toInt nd.toInt) x v (a + 1) 0 q.1) (LR (fun q => q.2.toInt = ((v + 1 : Nat) : Int) ∧ LPI n fa fb k (Out fa fb lk.toInt nd.toInt) x (v + 1) 0 0 q.1) PP)) := by
      intro w hw
      have hwn := (isE_lt hV ha hw).2
      unfold Md_m_laysParts_j93
      refine Ok_then (other_ok (x := Md_set_partOf x f) hi ha64 (by rw [Pq_f, Pq_s]; exact hfa) h4 hw (by omega)) (fun g99 hg2 => ?_)
      refine Ok_then (reachedWithout_ok (x := Md_set_partOf x f) (wl := lk) (wn := nd) (wv := v4) hV hn hk hwn (by rw [Pq_f, Pq_s]; exact hf) hg2 h1) (fun g107 h6 => ?_)
      exact lays_in hV hn hk hne hf hv ha hOa hw h4 hi h6 hL'
    refine Ok_rdb hi ha64 (Ok_ite (fun q2 => ?_) (fun q2 => ?_))
    · rw [i32_eq, hfa.1, h4] at q2
      exact act (fb a) (Or.inl ⟨by omega, rfl⟩)
    · rw [i32_eq, hfa.1, h4] at q2
      refine Ok_rdb hi ha64 (Ok_ite (fun q3 => ?_) (fun q3 => ?_))
      · rw [i32_eq, hfa.2, h4] at q3
        exact act (fa a) (Or.inr ⟨rfl, by omega⟩)
      · rw [i32_eq, hfa.2, h4] at q3
        refine skip (fun b' ⟨_, _, _, _, p2, q4, e1, e2, e3⟩ => ?_)
        rcases e1 with ⟨z, _⟩ | ⟨_, z⟩
        · exact q2 (by rw [z])
        · exact q3 (by rw [z])
  · intro y i hi hL
    dsimp only [Md_m_laysParts_s49]
    refine Ok_ite (fun _ => Ok_omap (Ok_some ⟨nx_s h4 (by omega), LPI_v hL (fun a' b' hS => hS.2.1)⟩)) (fun q => by rw [i32_le] at q; omega)
theorem lays_end (hk : k ≤ 64) (hf : ∀ l, l < k → (Md_first x l).toInt = (fa l : Int) ∧ (Md_second x l).toInt = (fb l : Int)) {f : Nat → Int32} {P : Nat → Nat} (hfP : ∀ l, l < 64 → (f l).toInt = (P l : Int)) {v1 : Int32} (h1 : v1.toInt = (k : Int)) :
    Ok (iter (fun q : MdS × Int32 => Md_m_laysParts_s208 v1 lk nd q.1 q.2) FU (Md_set_parts (Md_set_partOf x f) 0, 0)) (fun y => ∃ g w, y = Md_set_parts (Md_set_partOf x g) w ∧ (∀ l, l < 64 → (l < k ∧ Out fa fb lk.toInt nd.toInt l → (g l).toInt = -1) ∧ (¬ (l < k ∧ Out fa fb lk.toInt nd.toInt l) → (g l).toInt = (P l : Int))) ∧ w.toInt = (cnt (fun l => ¬ Out fa fb lk.toInt nd.toInt l ∧ P l = l) k : Int)) := by
  refine Ok_for k (fun j y => ∃ g w, y = Md_set_parts (Md_set_partOf x g) w ∧ (∀ l, l < 64 → (l < j ∧ Out fa fb lk.toInt nd.toInt l → (g l).toInt = -1) ∧ (¬ (l < j ∧ Out fa fb lk.toInt nd.toInt l) → (g l).toInt = (P l : Int))) ∧ w.toInt = (cnt (fun l => ¬ Out fa fb lk.toInt nd.toInt l ∧ P l = l) j : Int)) (by omega) i32_0 ⟨f, 0, rfl, fun l hl => ⟨fun z => absurd z.1 (Nat.not_lt_zero l), fun _ => hfP l hl⟩, i32_0⟩ ?_ ?_
  · intro j y i hj hi ⟨g, w, hy, hg, hw⟩
    subst hy
    dsimp only [Md_m_laysParts_s208]
    have hj64 : j < 64 := by omega
    have hfj := hf j hj
    have hc : cnt (fun l => ¬ Out fa fb lk.toInt nd.toInt l ∧ P l = l) j ≤ j := cnt_le
    refine Ok_ite (fun q => by rw [i32_le] at q; omega) (fun _ => ?_)
    refine Ok_then (isOut_ok (x := Md_set_parts (Md_set_partOf x g) w) (wl := lk) (wn := nd) hi hj64 (by rw [Pr_f, Pr_s, Pq_f, Pq_s]; exact hfj)) (fun g219 ho => Ok_ite (fun q => ?_) (fun q => ?_))
    · have hO := ho.mp q
      rw [Pr_p, Pq_p]
      refine Ok_wrb hi hj64 ?_
      rw [Pr_1]
      refine Ok_some ⟨nx_s hi (by omega), _, w, rfl, fun l hl => ?_, ?_⟩
      · by_cases e : l = j
        · rw [e, vu_s]
          exact ⟨fun _ => i32_m1, fun z => absurd ⟨by omega, hO⟩ z⟩
        · rw [vu_n e]
          exact ⟨fun z => (hg l hl).1 ⟨by omega, z.2⟩, fun z => (hg l hl).2 (fun z2 => z ⟨by omega, z2.2⟩)⟩
      · rw [cnt_f (fun z => z.1 hO)]; exact hw
    · have hO : ¬ Out fa fb lk.toInt nd.toInt j := fun z => q (ho.mpr z)
      have hall : ∀ l, l < 64 → (l < j + 1 ∧ Out fa fb lk.toInt nd.toInt l → (g l).toInt = -1) ∧ (¬ (l < j + 1 ∧ Out fa fb lk.toInt nd.toInt l) → (g l).toInt = (P l : Int)) := by
        intro l hl
        refine ⟨fun z => (hg l hl).1 ⟨?_, z.2⟩, fun z => (hg l hl).2 (fun z2 => z ⟨by omega, z2.2⟩)⟩
        have : l ≠ j := fun e => hO (e ▸ z.2)
        omega
      have hgj := (hg j hj64).2 (fun z => hO z.2)
      rw [Pr_p, Pq_p]
      refine Ok_rdb hi hj64 (Ok_ite (fun q2 => ?_) (fun q2 => ?_))
      · rw [i32_eq, hgj, hi] at q2
        rw [Pr_w, Pr_2]
        refine Ok_some ⟨nx_s hi (by omega), g, w + 1, rfl, hall, ?_⟩
        rw [cnt_t ⟨hO, Int.natCast_inj.mp q2⟩]
        exact nx_s hw (by omega)
      · rw [i32_eq, hgj, hi] at q2
        refine Ok_some ⟨nx_s hi (by omega), g, w, rfl, hall, ?_⟩
        rw [cnt_f (fun z => q2 (Int.natCast_inj.mpr z.2))]
        exact hw
  · intro y i hi h
    dsimp only [Md_m_laysParts_s208]
    exact Ok_ite (fun _ => Ok_omap (Ok_some h)) (fun q => by rw [i32_le] at q; omega)
theorem laysParts_ok (hV : Vd fa fb n k) (hn : n ≤ 32) (hk : k ≤ 64) (hne : ∀ l, l < k → fa l ≠ fb l) (hf : ∀ l, l < k → (Md_first x l).toInt = (fa l : Int) ∧ (Md_second x l).toInt = (fb l : Int)) (hnn : (Md_n x).toInt = (n : Int)) {v1 : Int32} (h1 : v1.toInt = (k : Int)) :
    Ok (Md_m_laysParts x v1 lk nd) (Laid n fa fb k (Out fa fb lk.toInt nd.toInt) x) := by
  unfold Md_m_laysParts
  refine Ok_for 64 (fun j y => ∃ f, y = Md_set_partOf x f ∧ ∀ l, l < j → (f l).toInt = (l : Int)) (by omega) i32_0 ⟨Md_partOf x, Pq_eta.symm, fun l hl => absurd hl (Nat.not_lt_zero l)⟩ ?_ ?_
  · intro j y i hj hi ⟨f, hy, hg⟩
    subst hy
    dsimp only [Md_m_laysParts_s3]
    refine Ok_ite (fun q => by rw [i32_le, i32_64] at q; omega) (fun _ => ?_)
    rw [Pq_p]
    refine Ok_wrb hi hj ?_
    rw [Pq_1]
    refine Ok_some ⟨nx_s hi (by omega), _, rfl, fun l hl => ?_⟩
    by_cases e : l = j
    · rw [e, vu_s]; exact hi
    · rw [vu_n e]; exact hg l (by omega)
  · intro y i hi ⟨f, hy, hg⟩
    subst hy
    dsimp only [Md_m_laysParts_s3]
    refine Ok_ite (fun _ => Ok_omap ?_) (fun q => by rw [i32_le, i32_64] at q; omega)
    refine Ok_for n (fun v y => LPI n fa fb k (Out fa fb lk.toInt nd.toInt) x v 0 0 y) (by omega) i32_0 ⟨f, id, rfl, hg, ⟨fun l _ => ⟨Nat.le_refl l, rfl⟩, fun C _ a b _ _ e => by have e' : a = b := e; rw [e']⟩, fun v' a' b' hS ho => by omega⟩ ?_ ?_
    · intro v y i hv hi hL
      dsimp only [Md_m_laysParts_s28]
      have hyn : Md_n y = Md_n x := by obtain ⟨f, P, e, _⟩ := hL; subst e; exact Pq_n
      rw [hyn]
      refine Ok_ite (fun q => by rw [i32_le] at q; omega) (fun _ => Ok_ite (fun q => ?_) (fun q => ?_))
      · rw [i32_eq] at q
        refine Ok_some ⟨nx_s hi (by omega), LPI_v hL (fun a' b' hS => absurd ?_ hS.2.2.1)⟩
        obtain ⟨_, _, _, _, p2, q4, e1, e2, e3⟩ := hS
        rcases e1 with ⟨z, _⟩ | ⟨_, z⟩
        · exact Or.inr (Or.inl (by omega))
        · exact Or.inr (Or.inr (by omega))
      · exact lays_a hV hn hk hne hf hv h1 hi hL
    · intro y i hi hL
      dsimp only [Md_m_laysParts_s28]
      obtain ⟨f, P, e, hfP, hPI, hDN⟩ := hL
      subst e
      rw [Pq_n]
      refine Ok_ite (fun _ => Ok_omap ?_) (fun q => by rw [i32_le] at q; omega)
      refine Ok_mono (lays_end (fa := fa) (fb := fb) hk hf hfP h1) (fun y ⟨g, w, e, hg, hw⟩ => ⟨g, P, w, e, hPI, fun a b ⟨v, hv, hS⟩ => hDN v a b hS (Or.inl hv), hg, hw⟩)
end R14
