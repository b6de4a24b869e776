/-! REFERENCE 12: parts by joining links at a node -/
def PI (P : Nat → Nat) (S : Nat → Nat → Prop) : Prop := (∀ l, l < 64 → P l ≤ l ∧ P (P l) = P l) ∧ ∀ C : Nat → Prop, (∀ a b, S a b → (C a ↔ C b)) → ∀ a b, a < 64 → b < 64 → P a = P b → (C a ↔ C b)
def joinP (P : Nat → Nat) (a b l : Nat) : Nat := if P l = max (P a) (P b) then min (P a) (P b) else P l
section R12
variable {fa fb : Nat → Nat} {n k m u v b c t y r a : Nat} {x z : MdS} {P : Nat → Nat} {S : Nat → Nat → Prop}
theorem joinP_mono {p q : Nat} (h : P p = P q) : joinP P a b p = joinP P a b q := by unfold joinP; rw [h]
theorem joinP_ab : joinP P a b a = joinP P a b b := by
  unfold joinP
  by_cases h1 : P a = max (P a) (P b)
  · by_cases h2 : P b = max (P a) (P b)
    · rw [if_pos h1, if_pos h2]
    · rw [if_pos h1, if_neg h2]; omega
  · by_cases h2 : P b = max (P a) (P b)
    · rw [if_neg h1, if_pos h2]; omega
    · omega
theorem PI_join (h : PI P S) (ha : a < 64) (hb : b < 64) (hS : S a b) : PI (joinP P a b) S := by
  obtain ⟨h1, h2⟩ := h
  have ea := h1 a ha
  have eb := h1 b hb
  constructor
  · intro l hl
    have el := h1 l hl
    have hto : joinP P a b (min (P a) (P b)) = min (P a) (P b) := by
      have e : P (min (P a) (P b)) = min (P a) (P b) := by
        rcases Nat.le_total (P a) (P b) with q | q
        · rw [Nat.min_eq_left q]; exact ea.2
        · rw [Nat.min_eq_right q]; exact eb.2
      unfold joinP
      rw [e]
      split
      · rfl
      · rfl
    by_cases c : P l = max (P a) (P b)
    · have e : joinP P a b l = min (P a) (P b) := if_pos c
      rw [e]
      exact ⟨by omega, hto⟩
    · have e : joinP P a b l = P l := if_neg c
      rw [e]
      refine ⟨el.1, ?_⟩
      unfold joinP
      rw [el.2, if_neg c]
  · intro C hC p q hp hq he
    have hab := hC a b hS
    have cl : ∀ l, l < 64 → (P l = max (P a) (P b) ∨ P l = min (P a) (P b)) → (C l ↔ C a) := by
      intro l hl hor
      have : P l = P a ∨ P l = P b := by
        rcases Nat.le_total (P a) (P b) with q | q
        · rw [Nat.max_eq_right q, Nat.min_eq_left q] at hor; exact hor.symm
        · rw [Nat.max_eq_left q, Nat.min_eq_right q] at hor; exact hor
      rcases this with e | e
      · exact h2 C hC l a hl ha e
      · exact (h2 C hC l b hl hb e).trans hab.symm
    unfold joinP at he
    by_cases cp : P p = max (P a) (P b)
    · by_cases cq : P q = max (P a) (P b)
      · exact (cl p hp (Or.inl cp)).trans (cl q hq (Or.inl cq)).symm
      · rw [if_pos cp, if_neg cq] at he
        exact (cl p hp (Or.inl cp)).trans (cl q hq (Or.inr he.symm)).symm
    · by_cases cq : P q = max (P a) (P b)
      · rw [if_neg cp, if_pos cq] at he
        exact (cl p hp (Or.inr he)).trans (cl q hq (Or.inl cq)).symm
      · rw [if_neg cp, if_neg cq] at he
        exact h2 C hC p q hp hq he
theorem Pq_1 {f g : Nat → Int32} : Md_set_partOf (Md_set_partOf x f) g = Md_set_partOf x g := rfl
theorem Pq_p {f : Nat → Int32} : Md_partOf (Md_set_partOf x f) = f := rfl
theorem Pq_f {f : Nat → Int32} : Md_first (Md_set_partOf x f) = Md_first x := rfl
theorem Pq_s {f : Nat → Int32} : Md_second (Md_set_partOf x f) = Md_second x := rfl
theorem Pq_n {f : Nat → Int32} : Md_n (Md_set_partOf x f) = Md_n x := rfl
theorem joins_ok {f : Nat → Int32} (hf : ∀ l, l < 64 → (f l).toInt = (P l : Int)) (hP : ∀ l, l < 64 → P l ≤ l) {wa wb : Int32} (h1 : wa.toInt = (a : Int)) (h2 : wb.toInt = (b : Int)) (ha : a < 64) (hb : b < 64) :
    Ok (Md_m_joinsParts (Md_set_partOf x f) wa wb) (fun q => ∃ g, q = Md_set_partOf x g ∧ ∀ l, l < 64 → (g l).toInt = (joinP P a b l : Int)) := by
  unfold Md_m_joinsParts
  rw [Pq_p]
  refine Ok_rdb h1 ha (Ok_rdb h2 hb (Ok_rdb h1 ha (Ok_rdb h2 hb ?_)))
  have e1 := hf a ha
  have e2 := hf b hb
  have hmax : (if f a < f b then f b else f a).toInt = ((max (P a) (P b) : Nat) : Int) := by
    by_cases q : f a < f b
    · rw [if_pos q]; rw [i32_lt] at q; omega
    · rw [if_neg q]; rw [i32_lt] at q; omega
  have hmin : (if f b < f a then f b else f a).toInt = ((min (P a) (P b) : Nat) : Int) := by
    by_cases q : f b < f a
    · rw [if_pos q]; rw [i32_lt] at q; omega
    · rw [if_neg q]; rw [i32_lt] at q; omega
  refine Ok_for 64 (fun j y => ∃ g, y = Md_set_partOf x g ∧ ∀ l, l < 64 → (g l).toInt = ((if l < j then joinP P a b l else P l : Nat) : Int)) (by omega) i32_0 ⟨f, rfl, fun l hl => by rw [if_neg (Nat.not_lt_zero l)]; exact hf l hl⟩ ?_ ?_
  · intro j y i hj hi ⟨g, hy, hg⟩
    subst hy
    dsimp only [Md_m_joinsParts_s36]
    refine Ok_ite (fun q => by rw [i32_le, i32_64] at q; omega) (fun _ => ?_)
    rw [Pq_p]
    have hgj := hg j hj
    rw [if_neg (Nat.lt_irrefl j)] at hgj
    refine Ok_rdb hi hj (Ok_ite (fun q => ?_) (fun q => ?_))
    · rw [i32_eq, hgj, hmax] at q
      refine Ok_wrb hi hj ?_
      rw [Pq_1]
      refine Ok_some ⟨nx_s hi (by omega), _, rfl, fun l hl => ?_⟩
      by_cases e : l = j
      · rw [e, vu_s, hmin, if_pos (show j < j + 1 by omega)]
        unfold joinP
        rw [if_pos (Int.natCast_inj.mp q)]
      · rw [vu_n e, hg l hl]
        by_cases q2 : l < j
        · rw [if_pos q2, if_pos (by omega)]
        · rw [if_neg q2, if_neg (by omega)]
    · rw [i32_eq, hgj, hmax] at q
      refine Ok_some ⟨nx_s hi (by omega), g, rfl, fun l hl => ?_⟩
      rw [hg l hl]
      by_cases e : l = j
      · rw [e, if_neg (Nat.lt_irrefl j), if_pos (show j < j + 1 by omega)]
        unfold joinP
        rw [if_neg (fun z => q (Int.natCast_inj.mpr z))]
      · by_cases q2 : l < j
        · rw [if_pos q2, if_pos (by omega)]
        · rw [if_neg q2, if_neg (by omega)]
  · intro y i hi ⟨g, hy, hg⟩
    subst hy
    dsimp only [Md_m_joinsParts_s36]
    refine Ok_ite (fun _ => Ok_omap (Ok_some ⟨g, rfl, fun l hl => by rw [hg l hl, if_pos hl]⟩)) (fun q => by rw [i32_le, i32_64] at q; omega)
/-- two links at a node whose other ends hang together without it -/
def SP (fa fb : Nat → Nat) (k : Nat) (O : Nat → Prop) (v a b : Nat) : Prop := b < a ∧ a < k ∧ ¬ O a ∧ ¬ O b ∧ ∃ p q, isE fa fb a v p ∧ isE fa fb b v q ∧ Rch fa fb (fun l => l < k ∧ ¬ O l ∧ ¬ atN fa fb l v) p q
def SS (n : Nat) (fa fb : Nat → Nat) (k : Nat) (O : Nat → Prop) (a b : Nat) : Prop := ∃ v, v < n ∧ SP fa fb k O v a b
theorem other_ok {w wv : Int32} {l v p : Nat} (hw : w.toInt = (l : Int)) (hl : l < 64) (hf : (Md_first x l).toInt = (fa l : Int) ∧ (Md_second x l).toInt = (fb l : Int)) (hv : wv.toInt = (v : Int)) (he : isE fa fb l v p) (hb : fa l < 32 ∧ fb l < 32) : Ok (Md_m_otherEnd x w wv) (fun r => r.toInt = (p : Int)) := by
  unfold Md_m_otherEnd
  refine Ok_rdb hw hl (Ok_rdb hw hl (Ok_some ?_))
  have e1 : (Md_first x l + Md_second x l).toInt = (fa l : Int) + (fb l : Int) := by rw [i32_add (by omega) (by omega), hf.1, hf.2]
  rcases he with ⟨q1, q2⟩ | ⟨q1, q2⟩
  · rw [i32_sub (by omega) (by omega), e1, hv]; omega
  · rw [i32_sub (by omega) (by omega), e1, hv]; omega
end R12
