/-! CLASS 2: Names: heirs, meetings, pairs -/
theorem i32_dbl {v : Int32} {k : Nat} (h : v.toInt = (k : Int)) (hk : k < 1000000) : (2 * v).toInt = ((2 * k : Nat) : Int) := by
  rw [i32_mul (by rw [i32_2]; omega) (by rw [i32_2]; omega), i32_2]
  omega
theorem heir_ok {L N l : Nat} {s : NSt} {x : NmS} {v : Int32} {b : Nat} (h : NmOK L N s x) (hI : NI N s l) (hv : v.toInt = (b : Int)) (hb : b < N) : Ok (Nm_m_heir L x v) (fun r => r.toInt = (N_of s b : Int)) := by
  obtain ⟨hNL, hL, ⟨hi, ho, he, ht, hs, hg⟩, h64⟩ := h
  unfold Nm_m_heir
  refine Ok_for N (fun k (c : Int32) => ∃ y : Nat, c.toInt = (y : Int) ∧ y < N ∧ N_of s y = N_of s b ∧ rkN N s y + k ≤ rkN N s b) (by omega) i32_0 ⟨b, hv, hb, rfl, Nat.le_refl _⟩ ?_ ?_
  · intro k c i hk hik ⟨y, hc, hy, hof, hr⟩
    dsimp only [Nm_m_heir_s4]
    refine Ok_ite (fun z => by rw [i32_le] at z; omega) (fun _ => ?_)
    refine Ok_rdb hc (by omega) ?_
    have hty := ht y hy
    refine Ok_ite (fun z => ?_) (fun z => ?_)
    · rw [i32_eq, hty, i32_m1] at z
      refine Ok_omap (Ok_some ?_)
      show c.toInt = _
      rw [hc, ← hof]
      have : N_of s y = y := by
        refine Classical.byContradiction fun hd => ?_
        obtain ⟨e, i2, g1, g2, g3, g4, g5, g6⟩ := hI.2.2.2 y hy hd
        omega
      rw [this]
    · refine Ok_rdb hc (by omega) ?_
      rw [i32_eq, hty, i32_m1] at z
      have hd : N_of s y ≠ y := fun q => z (hI.2.2.1 y hy q).2
      obtain ⟨e, i2, g1, g2, g3, g4, g5, g6⟩ := hI.2.2.2 y hy hd
      refine Ok_some ⟨nx_s hik (by omega), i2, by rw [hty]; exact g3, g4, g5.trans hof, ?_⟩
      have hx : N_en s y ≠ -1 := by omega
      have := rkN_step (N := N) (s := s) (x := y) g4 hx (g6.elim (fun q => Or.inl ((hI.2.1 i2 g4).mpr q)) (fun q => Or.inr (by omega)))
      omega
  · intro c i hik ⟨y, hc, hy, hof, hr⟩
    have := rkN_lt (N := N) (s := s) hb
    omega
theorem ends_ok {L N : Nat} {s : NSt} {x : NmS} {v w : Int32} {a b : Nat} (h : NmOK L N s x) (ha : v.toInt = (a : Int)) (hb : w.toInt = (b : Int)) (han : a < N) (hbn : b < N) :
    Ok (Nm_m_endsBefore L x v w) (fun r => r = true ↔ N_en s a ≠ -1 ∧ (N_en s b = -1 ∨ N_en s a ≤ N_en s b)) := by
  obtain ⟨hNL, hL, ⟨hi, ho, he, ht, hs, hg⟩, h64⟩ := h
  have e1 := he a han
  have e2 := he b hbn
  unfold Nm_m_endsBefore
  refine Ok_rdb ha (by omega) (Ok_ite (fun c => ?_) (fun c => ?_))
  · rw [i32_eq, e1, i32_m1] at c
    exact Ok_some (Iff.intro (fun q => absurd q Bool.false_ne_true) (fun q => absurd c q.1))
  · rw [i32_eq, e1, i32_m1] at c
    refine Ok_rdb hb (by omega) (Ok_ite (fun c2 => ?_) (fun c2 => ?_))
    · rw [i32_eq, e2, i32_m1] at c2
      exact Ok_some (Iff.intro (fun _ => ⟨c, Or.inl c2⟩) (fun _ => rfl))
    · rw [i32_eq, e2, i32_m1] at c2
      refine Ok_rdb ha (by omega) (Ok_rdb hb (by omega) (Ok_ite (fun c3 => ?_) (fun c3 => ?_)))
      · rw [i32_lt, e1, e2] at c3
        refine Ok_some (Iff.intro (fun q => absurd q Bool.false_ne_true) (fun q => ?_))
        rcases q.2 with q | q
        · exact absurd q c2
        · omega
      · rw [i32_lt, e1, e2] at c3
        exact Ok_some (Iff.intro (fun _ => ⟨c, Or.inr (by omega)⟩) (fun _ => rfl))
/-- the link by which two links came into one part -/
theorem meet_ok {fa fb : Nat → Nat} {m : Nat} {x : NmS} {v w : Int32} {a0 b0 : Nat} (h : NmOK 64 m (hP fa fb m) x) (ha : v.toInt = (a0 : Int)) (hb : w.toInt = (b0 : Int)) (han : a0 < m) (hbn : b0 < m) (hne : a0 ≠ b0) :
    Ok (Nm_m_meeting 64 x v w) (fun r => (∃ k : Nat, k < m ∧ r.toInt = (k : Int) ∧ N_of (hP fa fb (k + 1)) a0 = N_of (hP fa fb (k + 1)) b0 ∧ ∀ j, j ≤ k → N_of (hP fa fb j) a0 ≠ N_of (hP fa fb j) b0) ∨ (r.toInt = -1 ∧ N_of (hP fa fb m) a0 ≠ N_of (hP fa fb m) b0)) := by
  have h' := h
  obtain ⟨hNL, hL, ⟨hi, ho, he, ht, hs, hg⟩, h64⟩ := h
  have hNI := (hP_fresh (fa := fa) (fb := fb) (k := m)).1
  -- the state: names a, b, the time T ahead of which they had not met
  refine Ok_upto (fun (k : Nat) (p : Int32 × Int32 × Int32 × Int32) => p.2.2.2.toInt = (k : Int) ∧ ∃ a b T : Nat, p.1.toInt = (a : Int) ∧ p.2.1.toInt = (b : Int) ∧ p.2.2.1.toInt = (T : Int) - 1 ∧ a < m ∧ b < m ∧ T ≤ m ∧
      (∀ j, T ≤ j → N_of (hP fa fb j) a0 = N_of (hP fa fb j) a ∧ N_of (hP fa fb j) b0 = N_of (hP fa fb j) b) ∧ (∀ j, j < T → N_of (hP fa fb j) a0 ≠ N_of (hP fa fb j) b0) ∧
      (N_en (hP fa fb m) a = -1 ∨ (T : Int) ≤ N_en (hP fa fb m) a + 1) ∧ (N_en (hP fa fb m) b = -1 ∨ (T : Int) ≤ N_en (hP fa fb m) b + 1) ∧
      (T = 0 → a ≠ b) ∧ rkN m (hP fa fb m) a + rkN m (hP fa fb m) b + k ≤ rkN m (hP fa fb m) a0 + rkN m (hP fa fb m) b0) (e := 2 * m) (by omega) ⟨i32_0, a0, b0, 0, ha, hb, i32_m1, han, hbn, Nat.zero_le _, fun j _ => ⟨rfl, rfl⟩, fun j hj => by omega, ?_, ?_, fun _ => hne, Nat.le_refl _⟩ ?_ ?_
  · rcases hP_step (fa := fa) (fb := fb) (k := m) (x := a0) with _ | _
    · rcases Int.lt_or_le (N_en (hP fa fb m) a0) (-1) with c | c
      · exfalso
        cases hen : N_en (hP fa fb m) a0 with
        | ofNat z => rw [hen] at c; have : (z : Int) < -1 := c; omega
        | negSucc z =>
          have hd : N_of (hP fa fb m) a0 ≠ a0 := fun q => by
            have := (hNI.2.1 a0 han).mpr q
            omega
          obtain ⟨e, i2, g1, _⟩ := hNI.2.2.2 a0 han hd
          omega
      · right; omega
    · right
      rename_i q
      omega
  · by_cases c : N_of (hP fa fb m) b0 = b0
    · exact Or.inl ((hNI.2.1 b0 hbn).mpr c)
    · obtain ⟨e, i2, g1, _⟩ := hNI.2.2.2 b0 hbn c
      right; omega
  · intro k p hk ⟨hk4, a, b, T, hpa, hpb, hpT, ham, hbm, hTm, hsame, hbef, hea, heb, hT0, hrk⟩
    obtain ⟨v3, v4, v5, v6⟩ := p
    dsimp only at hk4 hpa hpb hpT
    dsimp only [Nm_m_meeting_s11]
    refine Ok_ite (fun c => by rw [i32_le, i32_dbl hi (by omega)] at c; omega) (fun _ => ?_)
    refine Ok_ite (fun c => ?_) (fun c => ?_)
    · -- they have met
      rw [i32_eq, hpa, hpb] at c
      have hab : a = b := by omega
      refine Ok_omap (Ok_some ?_)
      have hT : T ≠ 0 := fun z => hT0 z hab
      refine Or.inl ⟨T - 1, by omega, by rw [hpT]; omega, ?_, fun j hj => hbef j (by omega)⟩
      have e : T - 1 + 1 = T := by omega
      rw [e, (hsame T (Nat.le_refl _)).1, (hsame T (Nat.le_refl _)).2, hab]
    · have hab : a ≠ b := fun z => c (i32_ext (by rw [hpa, hpb, z]))
      refine Ok_then (ends_ok h' hpa hpb ham hbm) (fun g32 hg32 => ?_)
      -- a name goes on
      have go : ∀ {y z : Nat}, y < m → z < m → y ≠ z → N_en (hP fa fb m) y ≠ -1 → (N_en (hP fa fb m) z = -1 ∨ N_en (hP fa fb m) y ≤ N_en (hP fa fb m) z) → (N_en (hP fa fb m) y = -1 ∨ (T : Int) ≤ N_en (hP fa fb m) y + 1) →
          ∃ e i : Nat, N_en (hP fa fb m) y = e ∧ N_it (hP fa fb m) y = i ∧ i < m ∧ e + 1 ≤ m ∧ T ≤ e + 1 ∧ (∀ j, e + 1 ≤ j → N_of (hP fa fb j) y = N_of (hP fa fb j) i) ∧ (∀ j, j ≤ e → N_of (hP fa fb j) y ≠ N_of (hP fa fb j) z) ∧ (N_en (hP fa fb m) i = -1 ∨ ((e + 1 : Nat) : Int) ≤ N_en (hP fa fb m) i + 1) ∧ (N_en (hP fa fb m) z = -1 ∨ ((e + 1 : Nat) : Int) ≤ N_en (hP fa fb m) z + 1) ∧ rkN m (hP fa fb m) i < rkN m (hP fa fb m) y := by
        intro y z hy hz hyz hn hle hT
        have hd : N_of (hP fa fb m) y ≠ y := fun q => hn ((hNI.2.1 y hy).mpr q)
        obtain ⟨e, i2, g1, g2, g3, g4, g5, g6⟩ := hNI.2.2.2 y hy hd
        obtain ⟨i, q1, q2, q3, q4, q5⟩ := hP_into (fa := fa) (fb := fb) hy g1
        have l1 := hP_live (fa := fa) (fb := fb) g1
        refine ⟨e, i, g1, q1, q2, by omega, by omega, fun j hj => q3 j (by omega), fun j hj hc => ?_, ?_, ?_, ?_⟩
        · rw [l1.2.1 j hj] at hc
          have hzj : N_of (hP fa fb j) z = z := by
            rcases hle with hle | hle
            · exact hP_dead hle (by omega)
            · have hze : ∃ ez : Nat, N_en (hP fa fb m) z = ez := ⟨(N_en (hP fa fb m) z).toNat, by omega⟩
              obtain ⟨ez, hez⟩ := hze
              exact (hP_live hez).2.1 j (by omega)
          rw [hzj] at hc
          exact hyz hc
        · rcases q5 with q5 | q5
          · exact Or.inl q5
          · right; omega
        · rcases hle with hle | hle
          · exact Or.inl hle
          · right; omega
        · refine rkN_step q2 hn ?_
          rcases q5 with q5 | q5
          · exact Or.inl q5
          · right; omega
      refine Ok_ite (fun c2 => ?_) (fun c2 => ?_)
      · have hg := hg32.mp c2
        obtain ⟨e, i, q1, q2, q3, q4, q5, q6, q7, q8, q9, q10⟩ := go ham hbm hab hg.1 hg.2 hea
        refine Ok_rdb hpa (by omega) ?_
        have e1 := he a ham
        have e2 := ht a ham
        dsimp only [Nm_m_meeting_j58]
        refine Ok_ite (fun c3 => by rw [i32_eq, e1, i32_m1] at c3; omega) (fun _ => ?_)
        refine Ok_ite (fun c4 => by rw [c2] at c4; exact absurd c4 (by decide)) (fun _ => ?_)
        refine Ok_rdb hpa (by omega) (Ok_some ⟨nx_s hk4 (by omega), i, b, e + 1, by rw [e2]; exact q2, hpb, by rw [e1]; omega, q3, hbm, q4, fun j hj => ?_, fun j hj => ?_, q8, q9, fun z => by omega, by omega⟩)
        · have := hsame j (by omega)
          exact ⟨this.1.trans (q6 j hj), this.2⟩
        · by_cases cj : j < T
          · exact hbef j cj
          · have := hsame j (by omega)
            rw [this.1, this.2]
            exact q7 j (by omega)
      · have hg : ¬ (N_en (hP fa fb m) a ≠ -1 ∧ (N_en (hP fa fb m) b = -1 ∨ N_en (hP fa fb m) a ≤ N_en (hP fa fb m) b)) := fun z => c2 (hg32.mpr z)
        refine Ok_rdb hpb (by omega) ?_
        have e1 := he b hbm
        have e2 := ht b hbm
        dsimp only [Nm_m_meeting_j58]
        refine Ok_ite (fun c3 => ?_) (fun c3 => ?_)
        · -- both live: never
          rw [i32_eq, e1, i32_m1] at c3
          have hal : N_en (hP fa fb m) a = -1 := Classical.byContradiction fun z => hg ⟨z, Or.inl c3⟩
          refine Ok_omap (Ok_some (Or.inr ⟨i32_m1, fun z => ?_⟩))
          have := hsame m hTm
          rw [this.1, this.2, hP_dead hal (Nat.le_refl _), hP_dead c3 (Nat.le_refl _)] at z
          exact hab z
        · rw [i32_eq, e1, i32_m1] at c3
          have hle : N_en (hP fa fb m) a = -1 ∨ N_en (hP fa fb m) b ≤ N_en (hP fa fb m) a := by
            by_cases z : N_en (hP fa fb m) a = -1
            · exact Or.inl z
            · right
              refine Classical.byContradiction fun q => hg ⟨z, Or.inr (by omega)⟩
          obtain ⟨e, i, q1, q2, q3, q4, q5, q6, q7, q8, q9, q10⟩ := go hbm ham (fun z => hab z.symm) c3 hle heb
          have hgf : g32 = false := by cases g32 <;> first | rfl | exact absurd rfl c2
          refine Ok_ite (fun _ => ?_) (fun c4 => by rw [hgf] at c4; exact absurd rfl c4)
          refine Ok_rdb hpb (by omega) (Ok_some ⟨nx_s hk4 (by omega), a, i, e + 1, hpa, by rw [e2]; exact q2, by rw [e1]; omega, ham, q3, q4, fun j hj => ?_, fun j hj => ?_, q9, q8, fun z => by omega, by omega⟩)
          · have := hsame j (by omega)
            exact ⟨this.1, this.2.trans (q6 j hj)⟩
          · by_cases cj : j < T
            · exact hbef j cj
            · have := hsame j (by omega)
              rw [this.1, this.2]
              exact fun z => q7 j (by omega) z.symm
  · intro p ⟨hk4, a, b, T, hpa, hpb, hpT, ham, hbm, hTm, hsame, hbef, hea, heb, hT0, hrk⟩
    have r1 := rkN_lt (N := m) (s := hP fa fb m) han
    have r2 := rkN_lt (N := m) (s := hP fa fb m) hbn
    omega
/-- pairs of things with one name -/
def tri (k : Nat) : Nat := k * (k - 1) / 2
theorem tri_s (k : Nat) : tri (k + 1) = tri k + k := by
  unfold tri
  cases k with
  | zero => rfl
  | succ k =>
    have e : (k + 1 + 1) * (k + 1 + 1 - 1) = (k + 1) * (k + 1 - 1) + (k + 1) * 2 := by
      show (k + 1 + 1) * (k + 1) = (k + 1) * k + (k + 1) * 2
      rw [Nat.mul_comm (k + 1 + 1), ← Nat.mul_add]
    rw [e, Nat.add_mul_div_right _ _ (by decide)]
theorem pairs_sum {f : Nat → Nat} {n M : Nat} (h : ∀ v, v < n → f v < M) : sumN (fun b => tri (cnt (fun v => f v = b) n)) M = sumN (fun u => cnt (fun v => f v = f u) u) n := by
  induction n with
  | zero =>
    have e : sumN (fun b => tri (cnt (fun v => f v = b) 0)) M = sumN (fun _ => 0) M := sumN_congr (fun _ _ => (by decide : tri 0 = 0))
    rw [e, sumN_zero]
    rfl
  | succ n ih =>
    have i1 := ih (fun v hv => h v (by omega))
    show _ = sumN (fun u => cnt (fun v => f v = f u) u) n + cnt (fun v => f v = f n) n
    rw [← i1, ← sumN_one (h n (by omega)) (c := cnt (fun v => f v = f n) n), ← sumN_add]
    refine sumN_congr (fun b _ => ?_)
    by_cases e : f n = b
    · rw [cnt_t (P := fun v => f v = b) e, tri_s, if_pos e, e]
    · rw [cnt_f (P := fun v => f v = b) e, if_neg e]; rfl
theorem i32_div2 {v : Int32} {k : Nat} (h : v.toInt = (k : Int)) (hk : k < 1000000) : Ok (dv v 2) (fun r => r.toInt = ((k / 2 : Nat) : Int)) := by
  unfold dv
  rw [if_neg (by decide)]
  refine Ok_some ?_
  rw [Int32.toInt_div, h, i32_2]
  have : ((k : Int).tdiv 2) = ((k / 2 : Nat) : Int) := rfl
  rw [this]
  exact Int.bmod_eq_of_le (by omega) (by omega)
theorem sumN_mono {f : Nat → Nat} {m n : Nat} (h : m ≤ n) : sumN f m ≤ sumN f n := by
  induction h with
  | refl => exact Nat.le_refl _
  | @step n _ ih =>
    have : sumN f (Nat.succ n) = sumN f n + f n := rfl
    omega
theorem sumN_le {f : Nat → Nat} {n c : Nat} (h : ∀ i, i < n → f i ≤ c) : sumN f n ≤ n * c := by
  induction n with
  | zero => exact Nat.zero_le _
  | succ n ih =>
    have i1 := ih (fun j hj => h j (by omega))
    have i2 := h n (by omega)
    have : sumN f (n + 1) = sumN f n + f n := rfl
    rw [Nat.succ_mul]
    omega
theorem pairs_ok {L N l : Nat} {s : NSt} {x : NmS} (h : NmOK L N s x) (hI : NI N s l) : Ok (Nm_m_pairs L x) (fun r => r.toInt = (sumN (fun u => cnt (fun v => N_of s v = N_of s u) u) N : Int) ∧ r.toInt ≤ 64 * 64) := by
  have h' := h
  obtain ⟨hNL, hL, ⟨hi, ho, he, ht, hs, hg⟩, h64⟩ := h
  have hps := pairs_sum (f := N_of s) (n := N) (M := N) (fun v hv => (hI.1 v hv).1)
  have htot : sumN (fun u => cnt (fun v => N_of s v = N_of s u) u) N ≤ N * 64 := sumN_le (fun i hi => by
    have := cnt_le (P := fun v => N_of s v = N_of s i) (n := i)
    omega)
  have hb : ∀ k, k ≤ N → sumN (fun b => tri (cnt (fun v => N_of s v = b) N)) k ≤ N * 64 := fun k hk => by
    have := sumN_mono (f := fun b => tri (cnt (fun v => N_of s v = b) N)) hk
    omega
  unfold Nm_m_pairs
  refine Ok_for N (fun k (c : Int32) => c.toInt = (sumN (fun b => tri (cnt (fun v => N_of s v = b) N)) k : Int)) (by omega) i32_0 i32_0 ?_ ?_
  · intro k c i hk hik hc
    dsimp only [Nm_m_pairs_s4]
    refine Ok_ite (fun z => by rw [i32_le] at z; omega) (fun _ => ?_)
    refine Ok_then (lives_ok (v := i) h' hI.2.1) (fun g14 hg14 => ?_)
    have hstep : sumN (fun b => tri (cnt (fun v => N_of s v = b) N)) (k + 1) = sumN (fun b => tri (cnt (fun v => N_of s v = b) N)) k + tri (cnt (fun v => N_of s v = k) N) := rfl
    have hbk := hb (k + 1) (by omega)
    refine Ok_ite (fun hl => ?_) (fun hl => ?_)
    · obtain ⟨b, b1, b2, b3⟩ := hg14.mp hl
      have hbk2 : b = k := by omega
      subst hbk2
      have hsz := hs b hk
      have hmx := (hI.2.2.1 b hk b3).1
      rw [cntN_cnt] at hmx
      have hc1 : 0 < cnt (fun v => N_of s v = b) N := cnt_pos hk b3
      have hc2 := cnt_le (P := fun v => N_of s v = b) (n := N)
      refine Ok_rdb hik (by omega) (Ok_rdb hik (by omega) ?_)
      have e1 : (Nm_size x b - 1).toInt = ((cnt (fun v => N_of s v = b) N - 1 : Nat) : Int) := by
        rw [i32_sub (by rw [i32_1]; omega) (by rw [i32_1]; omega), i32_1]; omega
      have hmul : cnt (fun v => N_of s v = b) N * (cnt (fun v => N_of s v = b) N - 1) ≤ 64 * 64 := Nat.mul_le_mul (by omega) (by omega)
      have e0 : (Nm_size x b).toInt = (cnt (fun v => N_of s v = b) N : Int) := by rw [hsz, hmx]
      have e2 : (Nm_size x b * (Nm_size x b - 1)).toInt = ((cnt (fun v => N_of s v = b) N * (cnt (fun v => N_of s v = b) N - 1) : Nat) : Int) := by
        rw [i32_mul]
        · rw [e0, e1]; exact (Int.natCast_mul _ _).symm
        · rw [e0, e1, ← Int.natCast_mul]; omega
        · rw [e0, e1, ← Int.natCast_mul]; omega
      refine Ok_then (i32_div2 e2 (by omega)) (fun g37 hg37 => Ok_some ⟨nx_s hik (by omega), ?_⟩)
      have ht : tri (cnt (fun v => N_of s v = b) N) = cnt (fun v => N_of s v = b) N * (cnt (fun v => N_of s v = b) N - 1) / 2 := rfl
      rw [← ht] at hg37
      show (c + g37).toInt = _
      rw [i32_add (by omega) (by omega), hc, hg37, hstep]
      omega
    · refine Ok_some ⟨nx_s hik (by omega), ?_⟩
      have h0 : cnt (fun v => N_of s v = k) N = 0 := by
        refine cnt_none (fun v hv e => hl (hg14.mpr ⟨k, hik, hk, ?_⟩))
        show N_of s k = k
        have := (hI.1 v hv).2
        rw [e] at this
        exact this
      rw [hstep, h0, show tri 0 = 0 by decide]
      exact hc
  · intro c i hik hc
    dsimp only [Nm_m_pairs_s4]
    refine Ok_ite (fun _ => Ok_omap (Ok_some ⟨?_, ?_⟩)) (fun z => by rw [i32_le] at z; omega)
    · rw [hc, hps]
    · rw [hc, hps]; omega
