/-! THEORY 5: names of things in groups that grow: one joining -/
def cntN : Nat → (Nat → Nat) → Nat → Nat
  | 0, _, _ => 0
  | n + 1, f, b => cntN n f b + (if f n = b then 1 else 0)
def sumS : Nat → (Nat → Bool) → (Nat → Nat) → Nat
  | 0, _, _ => 0
  | n + 1, S, g => sumS n S g + (if S n = true then g n else 0)
/-- of a set of names the one with the most things, of several the least: by a run over the names -/
def kpr (sz : Nat → Nat) (S : Nat → Bool) : Nat → Option Nat
  | 0 => none
  | j + 1 => match kpr sz S j with
    | none => if S j = true then some j else none
    | some b => if S j = true ∧ sz b < sz j then some j else some b
abbrev NSt : Type := (Nat → Nat) × (Nat → Int) × (Nat → Int) × (Nat → Nat)
def N_of (s : NSt) : Nat → Nat := s.1
def N_en (s : NSt) : Nat → Int := s.2.1
def N_it (s : NSt) : Nat → Int := s.2.2.1
def N_mx (s : NSt) : Nat → Nat := s.2.2.2
def jnK (N : Nat) (s : NSt) (S : Nat → Bool) (l K : Nat) : NSt :=
  (fun v => if S (N_of s v) = true then K else N_of s v,
   fun b => if S b = true ∧ b ≠ K then (l : Int) else N_en s b,
   fun b => if S b = true ∧ b ≠ K then (K : Int) else N_it s b,
   fun b => if b = K then sumS N S (N_mx s) else N_mx s b)
def jn (N : Nat) (s : NSt) (S : Nat → Bool) (l : Nat) : NSt := match kpr (N_mx s) S N with
  | none => s
  | some K => jnK N s S l K
/-- what holds of names after l links: N things -/
def NI (N : Nat) (s : NSt) (l : Nat) : Prop :=
  (∀ v, v < N → N_of s v < N ∧ N_of s (N_of s v) = N_of s v) ∧
  (∀ b, b < N → (N_en s b = -1 ↔ N_of s b = b)) ∧
  (∀ b, b < N → N_of s b = b → N_mx s b = cntN N (N_of s) b ∧ N_it s b = -1) ∧
  (∀ b, b < N → N_of s b ≠ b → ∃ e i : Nat, N_en s b = e ∧ e < l ∧ N_it s b = i ∧ i < N ∧ N_of s i = N_of s b ∧ (N_of s i = i ∨ (e : Int) < N_en s i))
theorem cntN_congr {n : Nat} {f g : Nat → Nat} {b : Nat} (h : ∀ v, v < n → (f v = b ↔ g v = b)) : cntN n f b = cntN n g b := by
  induction n with
  | zero => rfl
  | succ n ih =>
    unfold cntN
    rw [ih (fun v hv => h v (by omega))]
    by_cases c : f n = b
    · rw [if_pos c, if_pos ((h n (by omega)).mp c)]
    · rw [if_neg c, if_neg (fun q => c ((h n (by omega)).mpr q))]
theorem cntN_pos {n : Nat} {f : Nat → Nat} {b v : Nat} (hv : v < n) (h : f v = b) : 0 < cntN n f b := by
  induction n with
  | zero => omega
  | succ n ih =>
    unfold cntN
    by_cases c : v = n
    · subst c; rw [if_pos h]; omega
    · have := ih (by omega); omega
theorem sumS_add {n : Nat} {S : Nat → Bool} {g h : Nat → Nat} : sumS n S (fun b => g b + h b) = sumS n S g + sumS n S h := by
  induction n with
  | zero => rfl
  | succ n ih =>
    unfold sumS
    rw [ih]
    dsimp only
    by_cases c : S n = true
    · rw [if_pos c, if_pos c, if_pos c]; omega
    · rw [if_neg c, if_neg c, if_neg c]; omega
theorem sumS_congr {n : Nat} {S : Nat → Bool} {g h : Nat → Nat} (e : ∀ b, b < n → S b = true → g b = h b) : sumS n S g = sumS n S h := by
  induction n with
  | zero => rfl
  | succ n ih =>
    unfold sumS
    rw [ih (fun b hb => e b (by omega))]
    by_cases c : S n = true
    · rw [if_pos c, if_pos c, e n (by omega) c]
    · rw [if_neg c, if_neg c]
theorem sumS_one {n : Nat} {S : Nat → Bool} {x : Nat} (hx : x < n) : sumS n S (fun b => if x = b then 1 else 0) = if S x = true then 1 else 0 := by
  have low : ∀ {m : Nat}, m ≤ x → sumS m S (fun b => if x = b then 1 else 0) = 0 := by
    intro m
    induction m with
    | zero => intro _; rfl
    | succ m ih =>
      intro h
      unfold sumS
      dsimp only
      rw [ih (by omega), if_neg (show ¬ x = m by omega)]
      split <;> rfl
  induction n with
  | zero => omega
  | succ n ih =>
    unfold sumS
    dsimp only
    by_cases c : x = n
    · subst c
      rw [low (Nat.le_refl _), if_pos rfl]
      omega
    · rw [ih (by omega), if_neg c]
      split <;> split <;> rfl
theorem sumS_zero {n : Nat} {S : Nat → Bool} : sumS n S (fun _ => 0) = 0 := by
  induction n with
  | zero => rfl
  | succ n ih => unfold sumS; rw [ih]; split <;> rfl
/-- the joined name has the things of all -/
theorem cnt_join {N m : Nat} {f : Nat → Nat} {S : Nat → Bool} {K : Nat} (hf : ∀ v, v < m → f v < N) (hK : S K = true) :
    cntN m (fun v => if S (f v) = true then K else f v) K = sumS N S (cntN m f) := by
  induction m with
  | zero => exact sumS_zero.symm
  | succ m ih =>
    have e : cntN (m + 1) f = fun b => cntN m f b + (fun b => if f m = b then 1 else 0) b := rfl
    rw [e, sumS_add, sumS_one (hf m (by omega))]
    unfold cntN
    rw [ih (fun v hv => hf v (by omega))]
    dsimp only
    by_cases c : S (f m) = true
    · simp [c]
    · have c2 : ¬ f m = K := fun q => c (q ▸ hK)
      simp [c, c2]
theorem kpr_mem {sz : Nat → Nat} {S : Nat → Bool} {j K : Nat} (h : kpr sz S j = some K) : K < j ∧ S K = true := by
  induction j with
  | zero => cases h
  | succ j ih =>
    unfold kpr at h
    cases hk : kpr sz S j with
    | none =>
      rw [hk] at h
      dsimp only at h
      by_cases c : S j = true
      · rw [if_pos c] at h; cases h; exact ⟨by omega, c⟩
      · rw [if_neg c] at h; cases h
    | some b =>
      rw [hk] at h
      dsimp only at h
      by_cases c : S j = true ∧ sz b < sz j
      · rw [if_pos c] at h; cases h; exact ⟨by omega, c.1⟩
      · rw [if_neg c] at h; cases h
        have h2 := ih hk
        exact ⟨by omega, h2.2⟩
theorem kpr_none {sz : Nat → Nat} {S : Nat → Bool} {j b : Nat} (h : kpr sz S j = none) (hb : b < j) : ¬ S b = true := by
  induction j with
  | zero => omega
  | succ j ih =>
    unfold kpr at h
    cases hk : kpr sz S j with
    | none =>
      rw [hk] at h
      dsimp only at h
      by_cases c : S j = true
      · rw [if_pos c] at h; cases h
      · by_cases e : b = j
        · rw [e]; exact c
        · exact ih hk (by omega)
    | some b2 =>
      rw [hk] at h
      dsimp only at h
      split at h <;> cases h
/-- the most things, of several the least name -/
theorem kpr_best {sz : Nat → Nat} {S : Nat → Bool} {j K : Nat} (h : kpr sz S j = some K) : ∀ b, b < j → S b = true → sz b < sz K ∨ (sz b = sz K ∧ K ≤ b) := by
  induction j generalizing K with
  | zero => cases h
  | succ j ih =>
    intro b hb hS
    unfold kpr at h
    cases hk : kpr sz S j with
    | none =>
      rw [hk] at h
      dsimp only at h
      by_cases e : b = j
      · subst e
        rw [if_pos hS] at h
        cases h
        exact Or.inr ⟨rfl, Nat.le_refl _⟩
      · exact absurd hS (kpr_none hk (by omega))
    | some b2 =>
      rw [hk] at h
      dsimp only at h
      by_cases c : S j = true ∧ sz b2 < sz j
      · rw [if_pos c] at h
        cases h
        by_cases e : b = j
        · exact Or.inr ⟨by rw [e], by omega⟩
        · rcases ih hk b (by omega) hS with q | q
          · exact Or.inl (by omega)
          · exact Or.inl (by omega)
      · rw [if_neg c] at h
        cases h
        by_cases e : b = j
        · subst e
          have h2 : ¬ sz K < sz b := fun q => c ⟨hS, q⟩
          have := (kpr_mem hk).1
          rcases Nat.lt_or_ge (sz b) (sz K) with q | q
          · exact Or.inl q
          · exact Or.inr ⟨by omega, by omega⟩
        · exact ih hk b (by omega) hS
/-- one joining keeps what holds of names -/
theorem NI_jnK {N l K : Nat} {s : NSt} {S : Nat → Bool} (h : NI N s l) (hK : K < N) (hS : S K = true) (hl : ∀ b, b < N → S b = true → N_of s b = b) : NI N (jnK N s S l K) (l + 1) := by
  obtain ⟨h1, h2, h3, h4⟩ := h
  have hKK : N_of s K = K := hl K hK hS
  have of' : ∀ v, N_of (jnK N s S l K) v = if S (N_of s v) = true then K else N_of s v := fun _ => rfl
  have en' : ∀ b, N_en (jnK N s S l K) b = if S b = true ∧ b ≠ K then (l : Int) else N_en s b := fun _ => rfl
  have it' : ∀ b, N_it (jnK N s S l K) b = if S b = true ∧ b ≠ K then (K : Int) else N_it s b := fun _ => rfl
  have mx' : ∀ b, N_mx (jnK N s S l K) b = if b = K then sumS N S (N_mx s) else N_mx s b := fun _ => rfl
  have root : ∀ b, b < N → (N_of (jnK N s S l K) b = b ↔ N_of s b = b ∧ (S b = true → b = K)) := by
    intro b hb
    rw [of']
    by_cases c : S (N_of s b) = true
    · rw [if_pos c]
      constructor
      · intro q; subst q; exact ⟨hKK, fun _ => rfl⟩
      · intro ⟨q1, q2⟩; rw [q1] at c; exact (q2 c).symm
    · rw [if_neg c]
      constructor
      · intro q; exact ⟨q, fun z => absurd (by rw [q]; exact z) c⟩
      · intro q; exact q.1
  refine ⟨fun v hv => ?_, fun b hb => ?_, fun b hb hr => ?_, fun b hb hr => ?_⟩
  · rw [of']
    by_cases c : S (N_of s v) = true
    · rw [if_pos c]
      exact ⟨hK, by rw [of', hKK, if_pos hS]⟩
    · rw [if_neg c]
      exact ⟨(h1 v hv).1, by rw [of', (h1 v hv).2, if_neg c]⟩
  · rw [root b hb, en']
    by_cases c : S b = true ∧ b ≠ K
    · rw [if_pos c]
      constructor
      · intro q; omega
      · intro q; exact absurd (q.2 c.1) c.2
    · rw [if_neg c, h2 b hb]
      constructor
      · intro q
        refine ⟨q, fun z => ?_⟩
        by_cases e : b = K
        · exact e
        · exact absurd ⟨z, e⟩ c
      · intro q; exact q.1
  · have hr' := (root b hb).mp hr
    by_cases e : b = K
    · subst e
      refine ⟨?_, ?_⟩
      · rw [mx', if_pos rfl]
        show _ = cntN N (fun v => if S (N_of s v) = true then b else N_of s v) b
        rw [cnt_join (fun v hv => (h1 v hv).1) hS]
        exact sumS_congr (fun c hc hSc => (h3 c hc (hl c hc hSc)).1)
      · rw [it', if_neg (fun q => q.2 rfl)]
        exact (h3 b hb hr'.1).2
    · have hSb : ¬ S b = true := fun z => e (hr'.2 z)
      refine ⟨?_, ?_⟩
      · rw [mx', if_neg e, (h3 b hb hr'.1).1]
        refine cntN_congr (fun v hv => ?_)
        rw [of']
        by_cases c : S (N_of s v) = true
        · rw [if_pos c]
          constructor
          · intro q; exact absurd (q ▸ c) hSb
          · intro q; exact absurd q.symm e
        · rw [if_neg c]
      · rw [it', if_neg (fun q => hSb q.1)]
        exact (h3 b hb hr'.1).2
  · by_cases c : S b = true ∧ b ≠ K
    · refine ⟨l, K, by rw [en', if_pos c], by omega, by rw [it', if_pos c], hK, ?_, Or.inl ?_⟩
      · rw [of', of', hKK, hl b hb c.1, if_pos hS, if_pos c.1]
      · rw [of', hKK, if_pos hS]
    · have hd : N_of s b ≠ b := by
        intro q
        apply hr
        refine (root b hb).mpr ⟨q, fun z => ?_⟩
        by_cases e : b = K
        · exact e
        · exact absurd ⟨z, e⟩ c
      obtain ⟨e, i, g1, g2, g3, g4, g5, g6⟩ := h4 b hb hd
      refine ⟨e, i, by rw [en', if_neg c]; exact g1, by omega, by rw [it', if_neg c]; exact g3, g4, by rw [of', of', g5], ?_⟩
      by_cases ci : S i = true ∧ i ≠ K
      · right
        rw [en', if_pos ci]
        omega
      · rw [en', if_neg ci]
        rcases g6 with g6 | g6
        · left
          refine (root i g4).mpr ⟨g6, fun z => ?_⟩
          by_cases ei : i = K
          · exact ei
          · exact absurd ⟨z, ei⟩ ci
        · exact Or.inr g6
theorem jnK_same {N l K u v : Nat} {s : NSt} {S : Nat → Bool} (hS : S K = true) : N_of (jnK N s S l K) u = N_of (jnK N s S l K) v ↔ N_of s u = N_of s v ∨ (S (N_of s u) = true ∧ S (N_of s v) = true) := by
  show (if S (N_of s u) = true then K else N_of s u) = (if S (N_of s v) = true then K else N_of s v) ↔ _
  by_cases c : S (N_of s u) = true
  · by_cases d : S (N_of s v) = true
    · rw [if_pos c, if_pos d]; exact ⟨fun _ => Or.inr ⟨c, d⟩, fun _ => rfl⟩
    · rw [if_pos c, if_neg d]
      constructor
      · intro q; exact absurd (q ▸ hS) d
      · intro q
        rcases q with q | q
        · exact absurd (q ▸ c) d
        · exact absurd q.2 d
  · by_cases d : S (N_of s v) = true
    · rw [if_neg c, if_pos d]
      constructor
      · intro q; exact absurd (q ▸ hS) c
      · intro q
        rcases q with q | q
        · exact absurd (q ▸ d) c
        · exact absurd q.1 c
    · rw [if_neg c, if_neg d]
      constructor
      · intro q; exact Or.inl q
      · intro q
        rcases q with q | q
        · exact q
        · exact absurd q.1 c
