/-! REFERENCE 10: reaching out -/
section R10
variable {fa fb : Nat → Nat} {n k m u v b c t y r : Nat} {x z : MdS}
/-- a round over the links, until nothing is new -/
theorem reach_loop (hV : Vd fa fb n k) (hn : n ≤ 32) (hk : k ≤ 64) (hu : u < n) {Z : Nat → Prop} {S20 : Int32 → Int32 → Int32 → Option ((Int32 × Int32) ⊕ ((Int32 × Int32) ⊕ Int32))} {s0 : Int32} (h0 : ∀ j, j < 32 → (bt s0 j = true ↔ j = u))
    (hstep : ∀ (l : Nat) (was s i : Int32), l < k → i.toInt = (l : Int) → Ok (S20 was s i) (fun q => ∃ s', q = .inl (s', i + 1) ∧ ((Z l ∧ (bt s (fa l) = true ∨ bt s (fb l) = true) ∧ ∀ j, j < 32 → (bt s' j = true ↔ bt s j = true ∨ j = fa l ∨ j = fb l)) ∨ (¬ (Z l ∧ (bt s (fa l) = true ∨ bt s (fb l) = true)) ∧ s' = s))))
    (hexit : ∀ (was s i : Int32), i.toInt = (k : Int) → S20 was s i = some (.inr (.inl (s, if was = s then 0 else 1)))) :
    Ok (iter (fun p : Int32 × Int32 => if p.2 = 0 then (omap (some p.1) : Option ((Int32 × Int32) ⊕ Int32)) else iter (fun q : Int32 × Int32 => S20 p.1 q.1 q.2) FU (p.1, 0)) FU (s0, 1)) (fun q => ∀ j, j < 32 → (bt q j = true ↔ Rch fa fb (fun l => l < k ∧ Z l) u j)) := by
  have hlt : ∀ l, l < k → fa l < 32 ∧ fb l < 32 := fun l hl => by have := hV l hl; omega
  refine Ok_loop (fun (j : Nat) (p : Int32 × Int32) => bt p.1 u = true ∧ (∀ i, i < 32 → bt p.1 i = true → Rch fa fb (fun l => l < k ∧ Z l) u i) ∧
      ((p.2 = 0 ∧ ∀ l, l < k → Z l → (bt p.1 (fa l) = true ↔ bt p.1 (fb l) = true)) ∨ (p.2 ≠ 0 ∧ j + cnt (fun i => bt p.1 i = true) 32 = 34))) (N := 34 - cnt (fun i => bt s0 i = true) 32) (by unfold FU; omega) ?_ ?_
  · refine ⟨(h0 u (by omega)).mpr rfl, fun i hi hb => ?_, Or.inr ⟨(by decide : (1 : Int32) ≠ 0), ?_⟩⟩
    · rw [(h0 i hi).mp hb]; exact Rch.refl
    · have := cnt_le (P := fun i => bt s0 i = true) (n := 32)
      show 34 - cnt (fun i => bt s0 i = true) 32 + cnt (fun i => bt s0 i = true) 32 = 34
      omega
  · intro j p ⟨hu1, hsub, hst⟩
    obtain ⟨s, mo⟩ := p
    dsimp only at hu1 hsub hst
    refine Ok_ite (fun q => ?_) (fun q => ?_)
    · rcases hst with ⟨_, hcl⟩ | ⟨h, _⟩
      · refine Ok_omap (Ok_some (fun i hi => ⟨hsub i hi, fun hr => ?_⟩))
        have hr2 : bt s i = true ∧ i < 32 := by
          refine hr.ind (S := fun z => bt s z = true ∧ z < 32) ⟨hu1, by omega⟩ ?_
          intro l a b hl he ⟨ha, _⟩
          have hc := hcl l hl.1 hl.2
          have hlb := hlt l hl.1
          rcases he with ⟨e1, e2⟩ | ⟨e1, e2⟩
          · rw [e1, e2] at hc
            rw [e2] at hlb
            exact ⟨hc.mp ha, hlb.2⟩
          · rw [e1, e2] at hc
            rw [e1] at hlb
            exact ⟨hc.mpr ha, hlb.1⟩
        exact hr2.1
      · exact absurd q h
    · rcases hst with ⟨h, _⟩ | ⟨_, hjc⟩
      · exact absurd h q
      · refine Ok_for k (fun l (w : Int32) => (∀ i, i < 32 → bt s i = true → bt w i = true) ∧ (∀ i, i < 32 → bt w i = true → Rch fa fb (fun l => l < k ∧ Z l) u i) ∧ (w = s → ∀ l2, l2 < l → Z l2 → (bt s (fa l2) = true ↔ bt s (fb l2) = true))) (by omega) i32_0 ⟨fun i _ h => h, hsub, fun _ l2 h => absurd h (Nat.not_lt_zero l2)⟩ ?_ ?_
        · intro l w i hl hi ⟨w1, w2, w3⟩
          refine Ok_mono (hstep l s w i hl hi) ?_
          intro q hq
          obtain ⟨w', rfl, hcase⟩ := hq
          have hlb := hlt l hl
          refine ⟨nx_s hi (by omega), ?_⟩
          rcases hcase with ⟨hz, hor, hbits⟩ | ⟨hno, rfl⟩
          · refine ⟨fun i hi h => (hbits i hi).mpr (Or.inl (w1 i hi h)), fun i hi h => ?_, fun e l2 hl2 hz2 => ?_⟩
            · have ends : Rch fa fb (fun l => l < k ∧ Z l) u (fa l) ∧ Rch fa fb (fun l => l < k ∧ Z l) u (fb l) := by
                have hone : Rch fa fb (fun l => l < k ∧ Z l) (fa l) (fb l) := Rch.one ⟨hl, hz⟩ (Or.inl ⟨rfl, rfl⟩)
                rcases hor with h | h
                · exact ⟨w2 _ hlb.1 h, (w2 _ hlb.1 h).trans hone⟩
                · exact ⟨(w2 _ hlb.2 h).trans hone.symm, w2 _ hlb.2 h⟩
              rcases (hbits i hi).mp h with h | h | h
              · exact w2 i hi h
              · rw [h]; exact ends.1
              · rw [h]; exact ends.2
            · -- nothing new: s is w', so both ends were there
              have e : w' = s := e
              have ha : bt w' (fa l) = true := (hbits _ hlb.1).mpr (Or.inr (Or.inl rfl))
              have hb : bt w' (fb l) = true := (hbits _ hlb.2).mpr (Or.inr (Or.inr rfl))
              have hws : w = s := by
                refine b_ext (fun i hi => ?_)
                cases h1 : bt s i with
                | true => exact w1 i hi h1
                | false =>
                  cases h2 : bt w i with
                  | false => rfl
                  | true =>
                    have := (hbits i hi).mpr (Or.inl h2)
                    rw [e, h1] at this; cases this
              rw [e] at ha hb
              by_cases el : l2 = l
              · rw [el]; exact ⟨fun _ => hb, fun _ => ha⟩
              · exact w3 hws l2 (by omega) hz2
          · refine ⟨w1, w2, fun e l2 hl2 hz2 => ?_⟩
            by_cases el : l2 = l
            · rw [el] at hz2 ⊢
              have e : w' = s := e
              rw [e] at hno
              exact ⟨fun h => absurd ⟨hz2, Or.inl h⟩ hno, fun h => absurd ⟨hz2, Or.inr h⟩ hno⟩
            · exact w3 e l2 (by omega) hz2
        · intro w i hi ⟨w1, w2, w3⟩
          rw [hexit s w i hi]
          refine Ok_some ?_
          by_cases e : s = w
          · rw [if_pos e]
            refine ⟨j - 1, ?_, w1 u (by omega) hu1, w2, Or.inl ⟨rfl, ?_⟩⟩
            · have := cnt_le (P := fun i => bt s i = true) (n := 32)
              omega
            · rw [← e]; exact w3 e.symm
          · rw [if_neg e]
            -- a bit more
            have hmore : cnt (fun i => bt s i = true) 32 < cnt (fun i => bt w i = true) 32 := by
              have hex : ∃ i, i < 32 ∧ bt w i = true ∧ ¬ bt s i = true := by
                refine Classical.byContradiction fun hne => e (b_ext (fun i hi => ?_))
                cases h1 : bt s i with
                | true => exact (w1 i hi h1).symm
                | false =>
                  cases h2 : bt w i with
                  | false => rfl
                  | true => exact absurd ⟨i, hi, h2, by rw [h1]; exact Bool.false_ne_true⟩ hne
              obtain ⟨i, hi, h1, h2⟩ := hex
              have h3 := cnt_or (P := fun i => bt s i = true) hi
              rw [bb_t h2] at h3
              have h4 : cnt (fun j => bt s j = true ∨ j = i) 32 ≤ cnt (fun i => bt w i = true) 32 := cnt_imp (fun j hj hq => hq.elim (fun z => w1 j hj z) (fun z => by rw [z]; exact h1))
              omega
            have h5 := cnt_le (P := fun i => bt w i = true) (n := 32)
            exact ⟨34 - cnt (fun i => bt w i = true) 32, by omega, w1 u (by omega) hu1, w2, Or.inr ⟨(by decide : (1 : Int32) ≠ 0), by show 34 - cnt (fun i => bt w i = true) 32 + cnt (fun i => bt w i = true) 32 = 34; omega⟩⟩
/-- a link that is left out: it, or at a node -/
def Out (fa fb : Nat → Nat) (lk nd : Int) (l : Nat) : Prop := (l : Int) = lk ∨ (fa l : Int) = nd ∨ (fb l : Int) = nd
theorem isOut_ok {w wl wn : Int32} {l : Nat} (hw : w.toInt = (l : Int)) (hl : l < 64) (hf : (Md_first x l).toInt = (fa l : Int) ∧ (Md_second x l).toInt = (fb l : Int)) : Ok (Md_m_isOut x w wl wn) (fun r => r = true ↔ Out fa fb wl.toInt wn.toInt l) := by
  unfold Md_m_isOut
  refine Ok_ite (fun q => ?_) (fun q => ?_)
  · rw [i32_eq, hw] at q
    exact Ok_some ⟨fun _ => Or.inl q, fun _ => rfl⟩
  · rw [i32_eq, hw] at q
    refine Ok_rdb hw hl (Ok_ite (fun q2 => ?_) (fun q2 => ?_))
    · rw [i32_eq, hf.1] at q2
      exact Ok_some ⟨fun _ => Or.inr (Or.inl q2), fun _ => rfl⟩
    · rw [i32_eq, hf.1] at q2
      refine Ok_rdb hw hl (Ok_ite (fun q3 => ?_) (fun q3 => ?_))
      · rw [i32_eq, hf.2] at q3
        exact Ok_some ⟨fun _ => Or.inr (Or.inr q3), fun _ => rfl⟩
      · rw [i32_eq, hf.2] at q3
        refine Ok_some ⟨fun z => absurd z Bool.false_ne_true, fun z => ?_⟩
        rcases z with z | z | z
        · exact absurd z q
        · exact absurd z q2
        · exact absurd z q3
theorem bt_one {w : Int32} (hw : w.toInt = (u : Int)) (hu : u < 32) : ∀ j, j < 32 → (bt (1 <<< (w &&& 31)) j = true ↔ j = u) := by
  intro j hj
  rw [bt_bit (by omega) (by omega) hj, decide_eq_true_iff]
  have : w.toInt.toNat = u := by omega
  rw [this]
theorem reached_ok (hV : Vd fa fb n k) (hn : n ≤ 32) (hk : k ≤ 64) (hu : u < n) (hf : ∀ l, l < k → (Md_first x l).toInt = (fa l : Int) ∧ (Md_second x l).toInt = (fb l : Int)) {w1 w2 wl wn : Int32} (h1 : w1.toInt = (u : Int)) (h2 : w2.toInt = (k : Int)) :
    Ok (Md_m_reached x w1 w2 wl wn) (fun q => ∀ j, j < 32 → (bt q j = true ↔ Rch fa fb (fun l => l < k ∧ ¬ Out fa fb wl.toInt wn.toInt l) u j)) := by
  unfold Md_m_reached
  refine reach_loop (S20 := fun was s i => Md_m_reached_s20 x w2 wl wn was s i) hV hn hk hu (bt_one h1 (by omega)) ?_ ?_
  · intro l was s i hl hi
    dsimp only [Md_m_reached_s20]
    have hl64 := Nat.lt_of_lt_of_le hl hk
    have hfl := hf l hl
    have hvl := hV l hl
    refine Ok_ite (fun q => by rw [i32_le] at q; omega) (fun _ => ?_)
    refine Ok_then (isOut_ok hi hl64 hfl) (fun g32 hg => Ok_ite (fun q => ?_) (fun q => ?_))
    · exact Ok_some ⟨s, rfl, Or.inr ⟨fun z => z.1 (hg.mp q), rfl⟩⟩
    · have hz : ¬ Out fa fb wl.toInt wn.toInt l := fun z => q (hg.mpr z)
      have both : (bt s (fa l) = true ∨ bt s (fb l) = true) → Ok (Md_m_reached_j70 x w2 wl wn s was i) (fun q => ∃ s', q = Sum.inl (s', i + 1) ∧ ((¬ Out fa fb wl.toInt wn.toInt l ∧ (bt s (fa l) = true ∨ bt s (fb l) = true) ∧ ∀ j, j < 32 → (bt s' j = true ↔ bt s j = true ∨ j = fa l ∨ j = fb l)) ∨ (¬ (¬ Out fa fb wl.toInt wn.toInt l ∧ (bt s (fa l) = true ∨ bt s (fb l) = true)) ∧ s' = s))) := by
        intro hor
        unfold Md_m_reached_j70
        refine Ok_rdb hi hl64 (Ok_rdb hi hl64 (Ok_some ⟨_, rfl, Or.inl ⟨hz, hor, fun j hj => bt_or2 hfl.1 (by omega) hfl.2 (by omega) hj⟩⟩))
      refine Ok_rdb hi hl64 (Ok_eqb (has_ok hfl.1 (by omega)) (Ok_ite (fun q2 => both (Or.inl q2)) (fun q2 => ?_)))
      refine Ok_rdb hi hl64 (Ok_eqb (has_ok hfl.2 (by omega)) (Ok_ite (fun q3 => both (Or.inr q3)) (fun q3 => ?_)))
      exact Ok_some ⟨s, rfl, Or.inr ⟨fun z => z.2.elim q2 q3, rfl⟩⟩
  · intro was s i hi
    dsimp only [Md_m_reached_s20]
    rw [if_pos (by rw [i32_le]; omega)]
    by_cases e : was = s
    · rw [if_pos e, if_pos e]; rfl
    · rw [if_neg e, if_neg e]; rfl
end R10
