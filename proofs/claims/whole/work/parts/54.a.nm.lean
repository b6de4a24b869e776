/-! CLASS 1: Names -/
def kv : Option Nat → Int
  | none => -1
  | some K => K
def NmV (N : Nat) (s : NSt) (g : Int) (x : NmS) : Prop :=
  (Nm_items x).toInt = (N : Int) ∧ (∀ j, j < N → (Nm_of x j).toInt = (N_of s j : Int)) ∧ (∀ j, j < N → (Nm_endedBy x j).toInt = N_en s j) ∧
  (∀ j, j < N → (Nm_into x j).toInt = N_it s j) ∧ (∀ j, j < N → (Nm_size x j).toInt = (N_mx s j : Int)) ∧ (Nm_groups x).toInt = g
def NmOK (L N : Nat) (s : NSt) (x : NmS) : Prop := N ≤ L ∧ L ≤ 64 ∧ NmV N s (cnt (liv s) N : Int) x ∧ ∀ j, j < N → N_mx s j ≤ 64
theorem kpr_s (sz : Nat → Nat) (S : Nat → Bool) (k : Nat) : kpr sz S (k + 1) = match kpr sz S k with
    | none => if S k = true then some k else none
    | some b => if S k = true ∧ sz b < sz k then some k else some b := rfl
theorem keeper_ok {L N : Nat} {s : NSt} {x : NmS} {m : Int64} {S : Nat → Bool} (h : NmOK L N s x) (hm : ∀ j, j < N → bt64 m j = S j) : Ok (Nm_m_keeper L x m) (fun r => r.toInt = kv (kpr (N_mx s) S N)) := by
  obtain ⟨hNL, hL, ⟨hi, ho, he, ht, hs, hg⟩, h64⟩ := h
  unfold Nm_m_keeper
  refine Ok_for N (fun k (c : Int32) => c.toInt = kv (kpr (N_mx s) S k)) (by omega) i32_0 i32_m1 ?_ ?_
  · intro k v3 v4 hk h4 h3
    dsimp only [Nm_m_keeper_s5]
    refine Ok_ite (fun c => ?_) (fun c => ?_)
    · rw [i32_le] at c; omega
    · have hv4 : v4.toInt.toNat = k := by omega
      rw [holds_ok (by omega) (by omega), hv4, hm k hk]
      refine Ok_sb ?_
      refine Ok_ite (fun hS => ?_) (fun hS => ?_)
      · refine Ok_ite (fun c3 => ?_) (fun c3 => ?_)
        · refine Ok_some ⟨nx_s h4 (by omega), ?_⟩
          rw [i32_eq, h3, i32_m1] at c3
          cases hk2 : kpr (N_mx s) S k with
          | none => rw [kpr_s, hk2]; dsimp only; rw [if_pos hS]; exact h4
          | some b => rw [hk2] at c3; simp only [kv] at c3; omega
        · cases hk2 : kpr (N_mx s) S k with
          | none => exact absurd (by rw [i32_eq, h3, hk2, i32_m1]; rfl) c3
          | some b =>
            rw [hk2] at h3
            have hb := (kpr_mem hk2).1
            have h3' : v3.toInt = (b : Int) := h3
            refine Ok_rdb h4 (by omega) (Ok_rdb h3' (by omega) ?_)
            have e1 := hs k hk
            have e2 := hs b (by omega)
            refine Ok_ite (fun c5 => ?_) (fun c5 => ?_)
            · rw [i32_le] at c5
              refine Ok_some ⟨nx_s h4 (by omega), ?_⟩
              rw [kpr_s, hk2]; dsimp only
              rw [if_neg (by omega)]
              exact h3
            · rw [i32_le] at c5
              refine Ok_some ⟨nx_s h4 (by omega), ?_⟩
              rw [kpr_s, hk2]; dsimp only
              rw [if_pos ⟨hS, by omega⟩]
              exact h4
      · refine Ok_some ⟨nx_s h4 (by omega), ?_⟩
        rw [kpr_s]
        cases hk2 : kpr (N_mx s) S k with
        | none => dsimp only; rw [if_neg hS, ← hk2]; exact h3
        | some b => dsimp only; rw [if_neg (fun q => hS q.1), ← hk2]; exact h3
  · intro v3 v4 h4 h3
    dsimp only [Nm_m_keeper_s5]
    refine Ok_ite (fun c => ?_) (fun c => ?_)
    · exact Ok_omap (Ok_some h3)
    · rw [i32_le] at c; omega
theorem lives_ok {L N : Nat} {s : NSt} {x : NmS} {v : Int32} (h : NmOK L N s x) (hn : ∀ b, b < N → (N_en s b = -1 ↔ N_of s b = b)) : Ok (Nm_m_lives L x v) (fun r => r = true ↔ ∃ b : Nat, v.toInt = (b : Int) ∧ b < N ∧ liv s b) := by
  obtain ⟨hNL, hL, ⟨hi, ho, he, ht, hs, hg⟩, h64⟩ := h
  unfold Nm_m_lives
  refine Ok_ite (fun c => ?_) (fun c => ?_)
  · rw [i32_lt, i32_0] at c
    refine Ok_some (Iff.intro (fun q => absurd q Bool.false_ne_true) (fun ⟨b, h1, _⟩ => ?_))
    omega
  · rw [i32_lt, i32_0] at c
    refine Ok_ite (fun c2 => ?_) (fun c2 => ?_)
    · rw [i32_le] at c2
      refine Ok_some (Iff.intro (fun q => absurd q Bool.false_ne_true) (fun ⟨b, h1, h2, _⟩ => ?_))
      omega
    · rw [i32_le] at c2
      have hv : v.toInt = (v.toInt.toNat : Int) := by omega
      refine Ok_rdb hv (by omega) ?_
      have e := he v.toInt.toNat (by omega)
      refine Ok_ite (fun c3 => ?_) (fun c3 => ?_)
      · rw [i32_eq, e, i32_m1] at c3
        exact Ok_some (Iff.intro (fun _ => ⟨v.toInt.toNat, hv, by omega, (hn _ (by omega)).mp c3⟩) (fun _ => rfl))
      · rw [i32_eq, e, i32_m1] at c3
        refine Ok_some (Iff.intro (fun q => absurd q Bool.false_ne_true) (fun ⟨b, h1, h2, h3⟩ => ?_))
        have : v.toInt.toNat = b := by omega
        rw [this] at c3
        exact absurd ((hn b h2).mpr h3) c3
theorem clear_ok {L : Nat} {x : NmS} (hL : L ≤ 64) {s : NSt} : Ok (Nm_m_clear L x) (NmOK L 0 s) := by
  refine ⟨_, rfl, Nat.zero_le _, hL, ⟨i32_0, ?_, ?_, ?_, ?_, i32_0⟩, ?_⟩ <;> exact fun j hj => by omega
def frsh (s : NSt) (j : Nat) : Prop := N_of s j = j ∧ N_en s j = -1 ∧ N_it s j = -1 ∧ N_mx s j = 1
theorem begin_ok {L N : Nat} {s : NSt} {x : NmS} (h : NmOK L N s x) (hN : N < L) (hf : frsh s N) : Ok (Nm_m_begin L x) (NmOK L (N + 1) s) := by
  obtain ⟨hNL, hL, ⟨hi, ho, he, ht, hs, hg⟩, h64⟩ := h
  unfold Nm_m_begin
  have hLi : (Int32.ofNat L).toInt = (L : Int) := nI_i (k := L) (by omega)
  refine Ok_ite (fun c => ?_) (fun c => ?_)
  · refine Ok_wrb hi hN (Ok_wrb (k := N) hi hN (Ok_wrb (k := N) hi hN (Ok_wrb (k := N) hi hN ?_)))
    have ext : ∀ {f : Nat → Int32} {g : Nat → Int} {v : Int32}, (∀ j, j < N → (f j).toInt = g j) → v.toInt = g N → ∀ j, j < N + 1 → (va_up f N v j).toInt = g j := by
      intro f g v h1 h2 j hj
      by_cases e : j = N
      · subst e; rw [vu_s]; exact h2
      · rw [vu_n e]; exact h1 j (by omega)
    refine Ok_some ⟨by omega, hL, ⟨nx_s hi (by omega), ext (g := fun j => (N_of s j : Int)) ho ?_, ext (g := N_en s) he ?_, ext (g := N_it s) ht ?_, ext (g := fun j => (N_mx s j : Int)) hs ?_, ?_⟩, ?_⟩
    · show (Nm_items x).toInt = _
      rw [hf.1]; exact hi
    · rw [hf.2.1]; exact i32_m1
    · rw [hf.2.2.1]; exact i32_m1
    · rw [hf.2.2.2]; exact i32_1
    · rw [cnt_t (show liv s N from hf.1)]
      exact nx_s hg (by have := cnt_le (P := liv s) (n := N); omega)
    · intro j hj
      by_cases e : j = N
      · rw [e, hf.2.2.2]; omega
      · exact h64 j (by omega)
  · rw [i32_lt, hLi] at c; omega
theorem sumS_le {n c : Nat} {S : Nat → Bool} {g : Nat → Nat} (h : ∀ j, j < n → g j ≤ c) : sumS n S g ≤ n * c := by
  induction n with
  | zero => exact Nat.zero_le _
  | succ n ih =>
    unfold sumS
    have i1 := ih (fun j hj => h j (by omega))
    have i2 := h n (by omega)
    rw [Nat.succ_mul]
    split <;> omega
theorem sumS_split {n K : Nat} {S : Nat → Bool} {g : Nat → Nat} (hK : K < n) (hS : S K = true) : sumS n S g = g K + sumS n (fun b => S b && decide (b ≠ K)) g := by
  have low : ∀ m, m ≤ K → sumS m S g = sumS m (fun b => S b && decide (b ≠ K)) g := by
    intro m
    induction m with
    | zero => intro _; rfl
    | succ m ih =>
      intro hm
      unfold sumS
      dsimp only
      have hmk : (S m && decide (m ≠ K)) = S m := by simp [show m ≠ K by omega]
      simp only [hmk]
      rw [ih (by omega)]
  induction n with
  | zero => omega
  | succ n ih =>
    unfold sumS
    dsimp only
    by_cases e : n = K
    · subst e
      have hf : ¬ (S n && decide (n ≠ n)) = true := by simp
      rw [low n (Nat.le_refl _), if_pos hS, if_neg hf]
      omega
    · have hmk : (S n && decide (n ≠ K)) = S n := by simp [e]
      simp only [hmk]
      rw [ih (by omega)]
      omega
theorem sumS_mono {m n : Nat} {S : Nat → Bool} {g : Nat → Nat} (h : m ≤ n) : sumS m S g ≤ sumS n S g := by
  induction h with
  | refl => exact Nat.le_refl _
  | @step n _ ih =>
    have : sumS (Nat.succ n) S g = sumS n S g + (if S n = true then g n else 0) := rfl
    omega
theorem cntN_cnt {n : Nat} {f : Nat → Nat} {b : Nat} : cntN n f b = cnt (fun v => f v = b) n := by
  induction n with
  | zero => rfl
  | succ n ih =>
    unfold cntN
    rw [cnt_s, ih]
    by_cases c : f n = b
    · rw [if_pos c, bb_t c]
    · rw [if_neg c, bb_f c]
theorem sizeOf_ok {L N : Nat} {s : NSt} {x : NmS} {m : Int64} {S : Nat → Bool} (h : NmOK L N s x) (hm : ∀ j, j < N → bt64 m j = S j) : Ok (Nm_m_sizeOf L x m) (fun r => r.toInt = (sumS N S (N_mx s) : Int)) := by
  obtain ⟨hNL, hL, ⟨hi, ho, he, ht, hs, hg⟩, h64⟩ := h
  unfold Nm_m_sizeOf
  refine Ok_for N (fun k (c : Int32) => c.toInt = (sumS k S (N_mx s) : Int)) (by omega) i32_0 i32_0 ?_ ?_
  · intro k v3 v4 hk h4 h3
    dsimp only [Nm_m_sizeOf_s5]
    refine Ok_ite (fun c => ?_) (fun c => ?_)
    · rw [i32_le] at c; omega
    · have hv4 : v4.toInt.toNat = k := by omega
      have hb : sumS k S (N_mx s) ≤ k * 64 := sumS_le (fun j hj => h64 j (by omega))
      have h6 := h64 k hk
      rw [holds_ok (by omega) (by omega), hv4, hm k hk]
      refine Ok_sb (Ok_ite (fun hS => ?_) (fun hS => ?_))
      · refine Ok_rdb h4 (by omega) (Ok_some ⟨nx_s h4 (by omega), ?_⟩)
        have e := hs k hk
        show (v3 + Nm_size x k).toInt = _
        unfold sumS
        rw [i32_add (by omega) (by omega), h3, e, if_pos hS]
        omega
      · refine Ok_some ⟨nx_s h4 (by omega), ?_⟩
        unfold sumS
        rw [if_neg hS]
        exact h3
  · intro v3 v4 h4 h3
    dsimp only [Nm_m_sizeOf_s5]
    refine Ok_ite (fun c => Ok_omap (Ok_some h3)) (fun c => ?_)
    rw [i32_le] at c; omega
/-- a joining -/
theorem join_ok {L N l : Nat} {s : NSt} {x : NmS} {m : Int64} {S : Nat → Bool} {v : Int32} (h : NmOK L N s x) (hm : ∀ j, j < N → bt64 m j = S j) (hv : v.toInt = (l : Int)) {l0 : Nat} (hI : NI N s l0)
    (hSl : ∀ b, b < N → S b = true → N_of s b = b) : Ok (Nm_m_join L x m v) (NmOK L N (jn N s S l)) := by
  have h' := h
  obtain ⟨hNL, hL, ⟨hi, ho, he, ht, hs, hg⟩, h64⟩ := h
  unfold Nm_m_join
  refine Ok_then (keeper_ok h' hm) (fun g2 hg2 => ?_)
  unfold jn
  cases hk : kpr (N_mx s) S N with
  | none =>
    rw [hk] at hg2
    refine Ok_ite (fun _ => Ok_some h') (fun c => absurd (i32_ext (by rw [hg2, i32_m1]; rfl)) c)
  | some K =>
    rw [hk] at hg2
    have hg2 : g2.toInt = (K : Int) := hg2
    obtain ⟨hK, hSK⟩ := kpr_mem hk
    refine Ok_ite (fun c => ?_) (fun _ => ?_)
    · rw [i32_eq, hg2, i32_m1] at c; omega
    · let S' : Nat → Bool := fun b => S b && decide (b ≠ K)
      have hS' : ∀ b, S' b = true ↔ S b = true ∧ b ≠ K := fun b => by simp [S']
      have hsum : sumS N S (N_mx s) = N_mx s K + sumS N S' (N_mx s) := sumS_split hK hSK
      have hmx : ∀ b, b < N → N_mx s b ≤ 64 := h64
      have htot : sumS N S (N_mx s) ≤ N := by
        have e : sumS N S (N_mx s) = cntN N (fun v => if S (N_of s v) = true then K else N_of s v) K := by
          rw [cnt_join (fun v hv => (hI.1 v hv).1) hSK]
          exact sumS_congr (fun b hb hSb => (hI.2.2.1 b hb (hSl b hb hSb)).1)
        rw [e, cntN_cnt]
        exact cnt_le
      have hliv := liv_jnK (l := l) hI hK hSK hSl
      have hcS : cnt (fun b => S b = true) N = cnt (fun b => S' b = true) N + 1 := by
        rw [cnt_congr (Q := fun b => S' b = true ∨ b = K) (fun b _ => ?_), cnt_or hK, bb_t (by simp [S'])]
        rw [hS']
        constructor
        · intro z
          by_cases e : b = K
          · exact Or.inr e
          · exact Or.inl ⟨z, e⟩
        · intro z
          rcases z with z | z
          · exact z.1
          · rw [z]; exact hSK
      -- the first loop
      let s1 : Nat → NSt := fun k => (N_of s, fun b => if b < k ∧ S' b = true then (l : Int) else N_en s b, fun b => if b < k ∧ S' b = true then (K : Int) else N_it s b, fun b => if b = K then N_mx s K + sumS k S' (N_mx s) else N_mx s b)
      refine Ok_for N (fun k y => NmV N (s1 k) ((cnt (liv s) N : Int) - (cnt (fun b => S' b = true) k : Int)) y) (by omega) i32_0 ?_ ?_ ?_
      · refine ⟨hi, ho, fun j hj => ?_, fun j hj => ?_, fun j hj => ?_, ?_⟩
        · show _ = if j < 0 ∧ S' j = true then (l : Int) else N_en s j
          rw [if_neg (by omega)]; exact he j hj
        · show _ = if j < 0 ∧ S' j = true then (K : Int) else N_it s j
          rw [if_neg (by omega)]; exact ht j hj
        · show _ = ((if j = K then N_mx s K + 0 else N_mx s j : Nat) : Int)
          by_cases e : j = K
          · rw [if_pos e, ← e]; exact hs j hj
          · rw [if_neg e]; exact hs j hj
        · rw [hg]; show _ = (cnt (liv s) N : Int) - ((0 : Nat) : Int); omega
      · intro k y v5 hk h5 ⟨yi, yo, ye, yt, ys, yg⟩
        dsimp only [Nm_m_join_s17]
        have same : ¬ S' k = true → ((∀ j, j < N → N_en (s1 (k + 1)) j = N_en (s1 k) j) ∧ (∀ j, j < N → N_it (s1 (k + 1)) j = N_it (s1 k) j) ∧ (∀ j, j < N → N_mx (s1 (k + 1)) j = N_mx (s1 k) j)) := by
          intro hn
          have e : ∀ j, (j < k + 1 ∧ S' j = true) ↔ (j < k ∧ S' j = true) := by
            intro j
            constructor
            · intro ⟨z1, z2⟩
              have : j ≠ k := fun q => hn (q ▸ z2)
              exact ⟨by omega, z2⟩
            · intro ⟨z1, z2⟩; exact ⟨by omega, z2⟩
          refine ⟨fun j _ => ?_, fun j _ => ?_, fun j _ => ?_⟩
          · show (if j < k + 1 ∧ S' j = true then (l : Int) else N_en s j) = if j < k ∧ S' j = true then (l : Int) else N_en s j
            simp only [e j]
          · show (if j < k + 1 ∧ S' j = true then (K : Int) else N_it s j) = if j < k ∧ S' j = true then (K : Int) else N_it s j
            simp only [e j]
          · show (if j = K then N_mx s K + sumS (k + 1) S' (N_mx s) else N_mx s j) = if j = K then N_mx s K + sumS k S' (N_mx s) else N_mx s j
            have : sumS (k + 1) S' (N_mx s) = sumS k S' (N_mx s) := by rw [show sumS (k + 1) S' (N_mx s) = sumS k S' (N_mx s) + (if S' k = true then N_mx s k else 0) from rfl, if_neg hn]; omega
            rw [this]
        have skip : ¬ S' k = true → Ok (some (Sum.inl (y, v5 + 1)) : Option ((NmS × Int32) ⊕ NmS)) (LR (fun p => p.2.toInt = ((k + 1 : Nat) : Int) ∧ NmV N (s1 (k + 1)) ((cnt (liv s) N : Int) - (cnt (fun b => S' b = true) (k + 1) : Int)) p.1) (NmOK L N (jnK N s S l K))) := by
          intro hn
          obtain ⟨q1, q2, q3⟩ := same hn
          refine Ok_some ⟨nx_s h5 (by omega), yi, yo, fun j hj => ?_, fun j hj => ?_, fun j hj => ?_, ?_⟩
          · rw [q1 j hj]; exact ye j hj
          · rw [q2 j hj]; exact yt j hj
          · rw [q3 j hj]; exact ys j hj
          · rw [cnt_f hn]; exact yg
        refine Ok_ite (fun c => ?_) (fun c => ?_)
        · rw [i32_le] at c; omega
        · refine Ok_ite (fun c2 => ?_) (fun c2 => ?_)
          · rw [i32_eq] at c2
            have : k = K := by omega
            exact skip (fun z => ((hS' k).mp z).2 this)
          · have hkK : k ≠ K := fun z => c2 (i32_ext (by omega))
            have hv5 : v5.toInt.toNat = k := by omega
            rw [holds_ok (by omega) (by omega), hv5, hm k hk]
            refine Ok_sb (Ok_ite (fun hSk => ?_) (fun hSk => skip (fun z => hSk ((hS' k).mp z).1)))
            have hS'k : S' k = true := (hS' k).mpr ⟨hSk, hkK⟩
            refine Ok_wrb h5 (by omega) (Ok_wrb (k := k) h5 (by omega) (Ok_rdb (k := K) hg2 (by omega) (Ok_rdb (k := k) h5 (by omega) (Ok_wrb (k := K) hg2 (by omega) ?_))))
            have hz1 : (Nm_size y K).toInt = ((N_mx s K + sumS k S' (N_mx s) : Nat) : Int) := by
              have := ys K hK
              rw [this]
              show ((if K = K then N_mx s K + sumS k S' (N_mx s) else N_mx s K : Nat) : Int) = _
              rw [if_pos rfl]
            have hz2 : (Nm_size y k).toInt = (N_mx s k : Int) := by
              have := ys k hk
              rw [this]
              show ((if k = K then N_mx s K + sumS k S' (N_mx s) else N_mx s k : Nat) : Int) = _
              rw [if_neg hkK]
            have hnext : sumS (k + 1) S' (N_mx s) = sumS k S' (N_mx s) + N_mx s k := by rw [show sumS (k + 1) S' (N_mx s) = sumS k S' (N_mx s) + (if S' k = true then N_mx s k else 0) from rfl, if_pos hS'k]
            have hle : sumS (k + 1) S' (N_mx s) ≤ sumS N S' (N_mx s) := sumS_mono (by omega)
            refine Ok_some ⟨nx_s h5 (by omega), yi, yo, fun j hj => ?_, fun j hj => ?_, fun j hj => ?_, ?_⟩
            · show (va_up (Nm_endedBy y) k v j).toInt = if j < k + 1 ∧ S' j = true then (l : Int) else N_en s j
              by_cases e : j = k
              · subst e; rw [vu_s, if_pos ⟨by omega, hS'k⟩]; exact hv
              · rw [vu_n e, ye j hj]
                show (if j < k ∧ S' j = true then (l : Int) else N_en s j) = _
                have : (j < k + 1 ∧ S' j = true) ↔ (j < k ∧ S' j = true) := ⟨fun z => ⟨by omega, z.2⟩, fun z => ⟨by omega, z.2⟩⟩
                simp only [this]
            · show (va_up (Nm_into y) k g2 j).toInt = if j < k + 1 ∧ S' j = true then (K : Int) else N_it s j
              by_cases e : j = k
              · subst e; rw [vu_s, if_pos ⟨by omega, hS'k⟩]; exact hg2
              · rw [vu_n e, yt j hj]
                show (if j < k ∧ S' j = true then (K : Int) else N_it s j) = _
                have : (j < k + 1 ∧ S' j = true) ↔ (j < k ∧ S' j = true) := ⟨fun z => ⟨by omega, z.2⟩, fun z => ⟨by omega, z.2⟩⟩
                simp only [this]
            · show (va_up (Nm_size y) K (Nm_size y K + Nm_size y k) j).toInt = ((if j = K then N_mx s K + sumS (k + 1) S' (N_mx s) else N_mx s j : Nat) : Int)
              by_cases e : j = K
              · subst e
                rw [vu_s, if_pos rfl, i32_add (by omega) (by omega)]
                omega
              · rw [vu_n e, if_neg e, ys j hj]
                show ((if j = K then N_mx s K + sumS k S' (N_mx s) else N_mx s j : Nat) : Int) = _
                rw [if_neg e]
            · show (Nm_groups y - 1).toInt = _
              have b1 := cnt_le (P := liv s) (n := N)
              have b2 := cnt_le (P := fun b => S' b = true) (n := k)
              rw [cnt_t hS'k, i32_sub (by rw [i32_1, yg]; omega) (by rw [i32_1, yg]; omega), i32_1, yg]
              omega
      · intro y v5 h5 ⟨yi, yo, ye, yt, ys, yg⟩
        dsimp only [Nm_m_join_s17]
        refine Ok_ite (fun c => ?_) (fun c => by rw [i32_le] at c; omega)
        refine Ok_omap ?_
        -- the second loop
        refine Ok_for N (fun k z => NmV N ((fun w => if w < k ∧ S (N_of s w) = true then K else N_of s w), N_en (s1 N), N_it (s1 N), N_mx (s1 N)) ((cnt (liv s) N : Int) - (cnt (fun b => S' b = true) N : Int)) z) (by omega) i32_0 ?_ ?_ ?_
        · refine ⟨yi, fun j hj => ?_, ye, yt, ys, yg⟩
          show _ = ((if j < 0 ∧ S (N_of s j) = true then K else N_of s j : Nat) : Int)
          rw [if_neg (by omega)]; exact yo j hj
        · intro k z v6 hk h6 ⟨zi, zo, ze, zt, zs, zg⟩
          dsimp only [Nm_m_join_s95]
          refine Ok_ite (fun c => by rw [i32_le] at c; omega) (fun c => ?_)
          have hofk : (Nm_of z k).toInt = (N_of s k : Int) := by
            rw [zo k hk]
            show ((if k < k ∧ S (N_of s k) = true then K else N_of s k : Nat) : Int) = _
            rw [if_neg (by omega)]
          have hN1 := (hI.1 k hk).1
          refine Ok_rdb h6 (by omega) ?_
          have hq : (Nm_of z k).toInt.toNat = N_of s k := by omega
          rw [holds_ok (by omega) (by omega), hq, hm _ hN1]
          refine Ok_sb (Ok_ite (fun hSk => ?_) (fun hSk => ?_))
          · refine Ok_wrb h6 (by omega) (Ok_some ⟨nx_s h6 (by omega), zi, fun j hj => ?_, ze, zt, zs, zg⟩)
            show (va_up (Nm_of z) k g2 j).toInt = ((if j < k + 1 ∧ S (N_of s j) = true then K else N_of s j : Nat) : Int)
            by_cases e : j = k
            · subst e; rw [vu_s, if_pos ⟨by omega, hSk⟩]; exact hg2
            · rw [vu_n e, zo j hj]
              show ((if j < k ∧ S (N_of s j) = true then K else N_of s j : Nat) : Int) = _
              have : (j < k + 1 ∧ S (N_of s j) = true) ↔ (j < k ∧ S (N_of s j) = true) := ⟨fun z => ⟨by omega, z.2⟩, fun z => ⟨by omega, z.2⟩⟩
              simp only [this]
          · refine Ok_some ⟨nx_s h6 (by omega), zi, fun j hj => ?_, ze, zt, zs, zg⟩
            rw [zo j hj]
            show ((if j < k ∧ S (N_of s j) = true then K else N_of s j : Nat) : Int) = ((if j < k + 1 ∧ S (N_of s j) = true then K else N_of s j : Nat) : Int)
            have : (j < k + 1 ∧ S (N_of s j) = true) ↔ (j < k ∧ S (N_of s j) = true) := by
              constructor
              · intro ⟨z1, z2⟩
                have : j ≠ k := fun q => hSk (q ▸ z2)
                exact ⟨by omega, z2⟩
              · intro ⟨z1, z2⟩; exact ⟨by omega, z2⟩
            simp only [this]
        · intro z v6 h6 ⟨zi, zo, ze, zt, zs, zg⟩
          dsimp only [Nm_m_join_s95]
          refine Ok_ite (fun c => ?_) (fun c => by rw [i32_le] at c; omega)
          refine Ok_omap (Ok_some ⟨hNL, hL, ⟨zi, fun j hj => ?_, fun j hj => ?_, fun j hj => ?_, fun j hj => ?_, ?_⟩, fun j hj => ?_⟩)
          · rw [zo j hj]
            show ((if j < N ∧ S (N_of s j) = true then K else N_of s j : Nat) : Int) = ((if S (N_of s j) = true then K else N_of s j : Nat) : Int)
            have : (j < N ∧ S (N_of s j) = true) ↔ S (N_of s j) = true := ⟨fun z => z.2, fun z => ⟨hj, z⟩⟩
            simp only [this]
          · rw [ze j hj]
            show (if j < N ∧ S' j = true then (l : Int) else N_en s j) = if S j = true ∧ j ≠ K then (l : Int) else N_en s j
            have : (j < N ∧ S' j = true) ↔ (S j = true ∧ j ≠ K) := ⟨fun z => (hS' j).mp z.2, fun z => ⟨hj, (hS' j).mpr z⟩⟩
            simp only [this]
          · rw [zt j hj]
            show (if j < N ∧ S' j = true then (K : Int) else N_it s j) = if S j = true ∧ j ≠ K then (K : Int) else N_it s j
            have : (j < N ∧ S' j = true) ↔ (S j = true ∧ j ≠ K) := ⟨fun z => (hS' j).mp z.2, fun z => ⟨hj, (hS' j).mpr z⟩⟩
            simp only [this]
          · rw [zs j hj]
            show ((if j = K then N_mx s K + sumS N S' (N_mx s) else N_mx s j : Nat) : Int) = ((if j = K then sumS N S (N_mx s) else N_mx s j : Nat) : Int)
            rw [hsum]
          · rw [zg]
            have : cnt (liv (jnK N s S l K)) N + cnt (fun b => S' b = true) N = cnt (liv s) N := by omega
            show _ = (cnt (liv (jnK N s S l K)) N : Int)
            omega
          · show (if j = K then sumS N S (N_mx s) else N_mx s j) ≤ 64
            by_cases e : j = K
            · rw [if_pos e]; omega
            · rw [if_neg e]; exact h64 j hj
