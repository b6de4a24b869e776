/-! CLASS 13: PartBook: read off a web -/
def pnm (fa fb : Nat → Nat) (m l : Nat) : Nat := N_of (hP fa fb m) l
/-- the first link of its part -/
def Fst (fa fb : Nat → Nat) (m l : Nat) : Prop := ∀ j, j < l → pnm fa fb m j ≠ pnm fa fb m l
def PbOK (n m : Nat) (fa fb : Nat → Nat) (x : PbS) : Prop :=
  (Pb_nodes x).toInt = (n : Int) ∧ (Pb_count x).toInt = (cnt (Fst fa fb m) m : Int) ∧ (∀ l, l < m → Fst fa fb m l → (Pb_nameOf x (cnt (Fst fa fb m) l)).toInt = (pnm fa fb m l : Int) ∧ (Pb_least x (cnt (Fst fa fb m) l)).toInt = (l : Int)) ∧
  (∀ l, l < m → Fst fa fb m l → (Pb_numberOf x (pnm fa fb m l)).toInt = (cnt (Fst fa fb m) l : Int)) ∧
  (∀ v q, v < n → q < 64 → (bt64 (Pb_at x v) q = true ↔ ∃ l, l < m ∧ atN fa fb l v ∧ pnm fa fb m l = q)) ∧ (∀ q, q < 64 → (bt64 (Pb_onRings x) q = true ↔ ∃ l, l < m ∧ ¬ brg fa fb m l ∧ pnm fa fb m l = q))
section W57c
variable {fa fb : Nat → Nat} {n m k u v b c t y r B : Nat} {x : PbS} {w : WbS}
theorem pnm_lt {l : Nat} (hl : l < m) : pnm fa fb m l < m := ((hP_fresh (fa := fa) (fb := fb) (k := m)).1.1 l hl).1
theorem first_ex {l : Nat} : ∃ j, j ≤ l ∧ Fst fa fb m j ∧ pnm fa fb m j = pnm fa fb m l := by
  have h : ∃ j, j < l + 1 ∧ pnm fa fb m j = pnm fa fb m l := ⟨l, by omega, rfl⟩
  obtain ⟨j0, h1, h2⟩ := h
  have := lea_lt (P := fun j => pnm fa fb m j = pnm fa fb m l) h1 h2
  have hs := lea_spec (P := fun j => pnm fa fb m j = pnm fa fb m l) (n := l + 1)
  refine ⟨lea (fun j => pnm fa fb m j = pnm fa fb m l) (l + 1), by omega, fun j hj he => ?_, this.2.2⟩
  exact hs.2.2 j hj (he.trans this.2.2)
theorem Fst_uniq {a b : Nat} (ha : Fst fa fb m a) (hb : Fst fa fb m b) (h : pnm fa fb m a = pnm fa fb m b) : a = b := by
  rcases Nat.lt_trichotomy a b with c | c | c
  · exact absurd h (hb a c)
  · exact c
  · exact absurd h.symm (ha b c)
theorem cF_lt {a b : Nat} (hb : Fst fa fb m a) (h : a < b) : cnt (Fst fa fb m) a < cnt (Fst fa fb m) b := by
  have h1 : cnt (Fst fa fb m) (a + 1) ≤ cnt (Fst fa fb m) b := cnt_mono h
  rw [cnt_t hb] at h1
  omega
def PbK (n m k : Nat) (fa fb : Nat → Nat) (x : PbS) : Prop :=
  (Pb_nodes x).toInt = (n : Int) ∧ (Pb_count x).toInt = (cnt (Fst fa fb m) k : Int) ∧ (∀ l, l < k → Fst fa fb m l → (Pb_nameOf x (cnt (Fst fa fb m) l)).toInt = (pnm fa fb m l : Int) ∧ (Pb_least x (cnt (Fst fa fb m) l)).toInt = (l : Int)) ∧
  (∀ q, q < 64 → ((Pb_numberOf x q).toInt = -1 ∧ ∀ l, l < k → pnm fa fb m l ≠ q) ∨ ∃ l, l < k ∧ Fst fa fb m l ∧ pnm fa fb m l = q ∧ (Pb_numberOf x q).toInt = (cnt (Fst fa fb m) l : Int)) ∧
  (∀ v q, v < n → q < 64 → (bt64 (Pb_at x v) q = true ↔ ∃ l, l < k ∧ atN fa fb l v ∧ pnm fa fb m l = q)) ∧ (∀ q, q < 64 → (bt64 (Pb_onRings x) q = true ↔ ∃ l, l < k ∧ ¬ brg fa fb m l ∧ pnm fa fb m l = q))
/-- a bit more -/
theorem bit_more {a b : Int64} {p q : Nat} (hq : q < 64) (hb : ∀ j, j < 64 → bt64 b j = decide (j = p)) {Q : Prop} (ha : bt64 a q = true ↔ Q) : bt64 (a ||| b) q = true ↔ Q ∨ p = q := by
  rw [bt64_or, Bool.or_eq_true, ha, hb q hq, decide_eq_true_iff]
  exact ⟨fun z => z.elim Or.inl (fun y => Or.inr y.symm), fun z => z.elim Or.inl (fun y => Or.inr y.symm)⟩
theorem ex_more {k : Nat} {R : Nat → Prop} : (∃ l, l < k + 1 ∧ R l) ↔ (∃ l, l < k ∧ R l) ∨ R k := by
  constructor
  · intro ⟨l, h1, h2⟩
    by_cases e : l = k
    · right; rw [← e]; exact h2
    · left; exact ⟨l, by omega, h2⟩
  · intro h
    rcases h with ⟨l, h1, h2⟩ | h
    · exact ⟨l, by omega, h2⟩
    · exact ⟨k, by omega, h⟩
theorem book_bits (hV : Vd fa fb n m) (hn : n ≤ 32) (hm : m ≤ 64) (hk : k < m) (hne : fa k ≠ fb k) (hW : WbOK n m fa fb w) {v2 v3 : Int32} (h2 : v2.toInt = (k : Int)) (h3 : v3.toInt = (pnm fa fb m k : Int)) {Q : PbS → Prop}
    (c1 : (Pb_nodes x).toInt = (n : Int)) (c2 : (Pb_count x).toInt = (cnt (Fst fa fb m) (k + 1) : Int)) (c3 : ∀ l, l < k + 1 → Fst fa fb m l → (Pb_nameOf x (cnt (Fst fa fb m) l)).toInt = (pnm fa fb m l : Int) ∧ (Pb_least x (cnt (Fst fa fb m) l)).toInt = (l : Int))
    (c4 : ∀ q, q < 64 → ((Pb_numberOf x q).toInt = -1 ∧ ∀ l, l < k + 1 → pnm fa fb m l ≠ q) ∨ ∃ l, l < k + 1 ∧ Fst fa fb m l ∧ pnm fa fb m l = q ∧ (Pb_numberOf x q).toInt = (cnt (Fst fa fb m) l : Int))
    (c5 : ∀ v q, v < n → q < 64 → (bt64 (Pb_at x v) q = true ↔ ∃ l, l < k ∧ atN fa fb l v ∧ pnm fa fb m l = q)) (c6 : ∀ q, q < 64 → (bt64 (Pb_onRings x) q = true ↔ ∃ l, l < k ∧ ¬ brg fa fb m l ∧ pnm fa fb m l = q)) :
    Ok (Pb_m_read_j104 x w v2 v3) (LR (fun p => p.2.toInt = ((k + 1 : Nat) : Int) ∧ PbK n m (k + 1) fa fb p.1) Q) := by
  obtain ⟨hli, hfi, hE, hTr, hB0, hL0, hP0⟩ := hW
  have hk64 := Nat.lt_of_lt_of_le hk hm
  have hp := pnm_lt (fa := fa) (fb := fb) hk
  have hp64 := Nat.lt_of_lt_of_le hp hm
  have hf := hfi k hk
  have hvk := hV k hk
  have hu32 := Nat.lt_of_lt_of_le hvk.1 hn
  have hv32 := Nat.lt_of_lt_of_le hvk.2 hn
  have hpz : v3.toInt.toNat = pnm fa fb m k := by omega
  unfold Pb_m_read_j104
  refine Ok_rdb h2 hk64 (Ok_rdb hf.1 hu32 (Ok_then (bit_ok (v := v3) (by omega) (by omega)) (fun g117 hg1 => Ok_wrb hf.1 hu32 (Ok_rdb h2 hk64 (Ok_rdb hf.2 hv32 (Ok_then (bit_ok (v := v3) (by omega) (by omega)) (fun g135 hg2 => Ok_wrb hf.2 hv32 ?_)))))))
  rw [hpz] at hg1 hg2
  have hat : ∀ v q, v < n → q < 64 → (bt64 (va_up (va_up (Pb_at x) (fa k) (Pb_at x (fa k) ||| g117)) (fb k) (va_up (Pb_at x) (fa k) (Pb_at x (fa k) ||| g117) (fb k) ||| g135) v) q = true ↔ ∃ l, l < k + 1 ∧ atN fa fb l v ∧ pnm fa fb m l = q) := by
    intro v q hv hq
    rw [ex_more (R := fun l => atN fa fb l v ∧ pnm fa fb m l = q), ← c5 v q hv hq]
    by_cases e1 : v = fb k
    · rw [e1, vu_s, vu_n hne.symm, bit_more hq hg2 Iff.rfl]
      exact ⟨fun z => z.elim Or.inl (fun y => Or.inr ⟨Or.inr rfl, y⟩), fun z => z.elim Or.inl (fun y => Or.inr y.2)⟩
    · rw [vu_n e1]
      by_cases e2 : v = fa k
      · rw [e2, vu_s, bit_more hq hg1 Iff.rfl]
        exact ⟨fun z => z.elim Or.inl (fun y => Or.inr ⟨Or.inl rfl, y⟩), fun z => z.elim Or.inl (fun y => Or.inr y.2)⟩
      · rw [vu_n e2]
        refine ⟨Or.inl, fun z => z.elim (fun y => y) (fun y => ?_)⟩
        rcases y.1 with y | y
        · exact absurd y.symm e2
        · exact absurd y.symm e1
  have hbq := qb_iff (fa := fa) (fb := fb) hk
  refine Ok_then (isBr_ok hE hm h2 hk) (fun g142 hg => Ok_ite (fun q => ?_) (fun q => ?_))
  · rw [hg] at q
    refine Ok_some ⟨nx_s h2 (by omega), c1, c2, c3, c4, hat, fun p hp => ?_⟩
    rw [ex_more (R := fun l => ¬ brg fa fb m l ∧ pnm fa fb m l = p), ← c6 p hp]
    exact ⟨Or.inl, fun z => z.elim (fun y => y) (fun y => absurd (hbq.mp q) y.1)⟩
  · rw [hg] at q
    refine Ok_then (bit_ok (v := v3) (by omega) (by omega)) (fun g154 hg3 => Ok_some ⟨nx_s h2 (by omega), c1, c2, c3, c4, hat, fun p hp => ?_⟩)
    rw [hpz] at hg3
    show bt64 (Pb_onRings x ||| g154) p = true ↔ _
    rw [bit_more hp hg3 Iff.rfl, ex_more (R := fun l => ¬ brg fa fb m l ∧ pnm fa fb m l = p), ← c6 p hp]
    exact ⟨fun z => z.elim Or.inl (fun y => Or.inr ⟨fun z2 => q (hbq.mpr z2), y⟩), fun z => z.elim Or.inl (fun y => Or.inr y.2)⟩
theorem readP_ok (hV : Vd fa fb n m) (hn : n ≤ 32) (hm : m ≤ 64) (hne : ∀ l, l < m → fa l ≠ fb l) (hW : WbOK n m fa fb w) : Ok (Pb_m_read x w) (PbOK n m fa fb) := by
  have hW' := hW
  obtain ⟨hli, hfi, hE, hTr, hB0, hL0, hP0⟩ := hW
  have hpo := hP0.2.2.1.2.1
  unfold Pb_m_read
  refine Ok_for m (fun k y => PbK n m k fa fb y) (by omega) i32_0 ⟨hTr.1, i32_0, fun l hl => absurd hl (Nat.not_lt_zero l), fun q hq => Or.inl ⟨?_, fun l hl => absurd hl (Nat.not_lt_zero l)⟩, fun v q hv hq => ?_, fun q hq => ?_⟩ ?_ ?_
  · show (fillF (Pb_numberOf _) 64 (-1 : Int32) q).toInt = -1
    unfold fillF
    rw [if_pos hq]; exact i32_m1
  · show bt64 (fillF _ 32 0 v) q = true ↔ _
    unfold fillF
    rw [if_pos (Nat.lt_of_lt_of_le hv hn), bt64_0]
    exact ⟨fun z => (by cases z), fun ⟨l, h, _⟩ => absurd h (Nat.not_lt_zero l)⟩
  · show bt64 0 q = true ↔ _
    rw [bt64_0]
    exact ⟨fun z => (by cases z), fun ⟨l, h, _⟩ => absurd h (Nat.not_lt_zero l)⟩
  · intro k y i hk hi ⟨y1, y2, y3, y4, y5, y6⟩
    dsimp only [Pb_m_read_s36]
    refine Ok_ite (fun q => by rw [i32_le] at q; omega) (fun _ => ?_)
    have hk64 := Nat.lt_of_lt_of_le hk hm
    have hp := pnm_lt (fa := fa) (fb := fb) hk
    have hp64 := Nat.lt_of_lt_of_le hp hm
    have opk : (Nm_of (Wb_parts w) k).toInt = (pnm fa fb m k : Int) := hpo k hk
    have hcl : cnt (Fst fa fb m) k ≤ k := cnt_le
    refine Ok_rdb hi hk64 (Ok_rdb opk hp64 ?_)
    rcases y4 (pnm fa fb m k) hp64 with ⟨e, hno⟩ | ⟨l0, hl0, hF0, hpl0, e⟩
    · have hF : Fst fa fb m k := fun j hj => hno j hj
      refine Ok_ite (fun _ => ?_) (fun q => absurd (i32_ext (by rw [e, i32_m1])) q)
      refine Ok_wrb opk hp64 (Ok_wrb (k := cnt (Fst fa fb m) k) y2 (by omega) (Ok_wrb (k := cnt (Fst fa fb m) k) y2 (by omega) ?_))
      refine book_bits hV hn hm hk (hne k hk) hW' hi opk y1 ?_ (fun l hl hlF => ?_) (fun q hq => ?_) y5 y6
      · rw [cnt_t hF]
        exact nx_s y2 (by omega)
      · show (va_up (Pb_nameOf y) (cnt (Fst fa fb m) k) (Nm_of (Wb_parts w) k) (cnt (Fst fa fb m) l)).toInt = _ ∧ (va_up (Pb_least y) (cnt (Fst fa fb m) k) i (cnt (Fst fa fb m) l)).toInt = _
        by_cases el : l = k
        · rw [el, vu_s, vu_s]; exact ⟨opk, hi⟩
        · have := cF_lt hlF (show l < k by omega)
          rw [vu_n (by omega), vu_n (by omega)]
          exact y3 l (by omega) hlF
      · show ((va_up (Pb_numberOf y) (pnm fa fb m k) (Pb_count y) q).toInt = -1 ∧ _) ∨ ∃ l, l < k + 1 ∧ Fst fa fb m l ∧ pnm fa fb m l = q ∧ (va_up (Pb_numberOf y) (pnm fa fb m k) (Pb_count y) q).toInt = _
        by_cases eq : q = pnm fa fb m k
        · right
          rw [eq, vu_s]
          exact ⟨k, by omega, hF, rfl, y2⟩
        · rw [vu_n eq]
          rcases y4 q hq with ⟨g1, g2⟩ | ⟨l, g1, g2, g3, g4⟩
          · refine Or.inl ⟨g1, fun l hl he => ?_⟩
            by_cases el : l = k
            · rw [el] at he; exact eq he.symm
            · exact g2 l (by omega) he
          · exact Or.inr ⟨l, by omega, g2, g3, g4⟩
    · have hF : ¬ Fst fa fb m k := fun z => z l0 hl0 hpl0
      refine Ok_ite (fun q => by rw [i32_eq, e, i32_m1] at q; omega) (fun _ => ?_)
      refine book_bits hV hn hm hk (hne k hk) hW' hi opk y1 (by rw [cnt_f hF]; exact y2) (fun l hl hlF => ?_) (fun q hq => ?_) y5 y6
      · have : l ≠ k := fun z => hF (z ▸ hlF)
        exact y3 l (by omega) hlF
      · rcases y4 q hq with ⟨g1, g2⟩ | ⟨l, g1, g2, g3, g4⟩
        · refine Or.inl ⟨g1, fun l hl he => ?_⟩
          by_cases el : l = k
          · rw [el] at he
            rw [← he] at g2
            exact g2 l0 hl0 hpl0
          · exact g2 l (by omega) he
        · exact Or.inr ⟨l, by omega, g2, g3, g4⟩
  · intro y i hi ⟨y1, y2, y3, y4, y5, y6⟩
    dsimp only [Pb_m_read_s36]
    refine Ok_ite (fun _ => Ok_omap (Ok_some ⟨y1, y2, y3, fun l hl hF => ?_, y5, y6⟩)) (fun q => by rw [i32_le] at q; omega)
    have hp64 := Nat.lt_of_lt_of_le (pnm_lt (fa := fa) (fb := fb) hl) hm
    rcases y4 (pnm fa fb m l) hp64 with ⟨_, g2⟩ | ⟨l2, g1, g2, g3, g4⟩
    · exact absurd rfl (g2 l hl)
    · rw [g4, Fst_uniq g2 hF g3]
end W57c
