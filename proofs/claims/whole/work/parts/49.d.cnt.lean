/-! THEORY 13: counts, rows of what has a property, the least that has it -/
noncomputable def bb (p : Prop) : Nat := @ite _ p (Classical.propDecidable p) 1 0
theorem bb_t {p : Prop} (h : p) : bb p = 1 := if_pos h
theorem bb_f {p : Prop} (h : ¬ p) : bb p = 0 := if_neg h
theorem bb_congr {p p2 : Prop} (h : p ↔ p2) : bb p = bb p2 := by
  by_cases c : p
  · rw [bb_t c, bb_t (h.mp c)]
  · rw [bb_f c, bb_f (fun z => c (h.mpr z))]
noncomputable def cnt (P : Nat → Prop) : Nat → Nat
  | 0 => 0
  | k + 1 => cnt P k + bb (P k)
noncomputable def fl (P : Nat → Prop) (g : Nat → Nat) : Nat → List Nat
  | 0 => []
  | k + 1 => fl P g k ++ (@ite _ (P k) (Classical.propDecidable _) [g k] [])
section C1
variable {P Q R : Nat → Prop} {g : Nat → Nat} {n m k x : Nat}
theorem cnt_s : cnt P (k + 1) = cnt P k + bb (P k) := rfl
theorem cnt_t (h : P k) : cnt P (k + 1) = cnt P k + 1 := by rw [cnt_s, bb_t h]
theorem cnt_f (h : ¬ P k) : cnt P (k + 1) = cnt P k := by rw [cnt_s, bb_f h, Nat.add_zero]
theorem fl_t (h : P k) : fl P g (k + 1) = fl P g k ++ [g k] := by
  show fl P g k ++ _ = _
  rw [if_pos h]
theorem fl_f (h : ¬ P k) : fl P g (k + 1) = fl P g k := by
  show fl P g k ++ _ = _
  rw [if_neg h, List.append_nil]
theorem cnt_congr (h : ∀ i, i < n → (P i ↔ Q i)) : cnt P n = cnt Q n := by
  induction n with
  | zero => rfl
  | succ n ih => rw [cnt_s, cnt_s, ih (fun i hi => h i (by omega)), bb_congr (h n (by omega))]
theorem fl_congr {h2 : Nat → Nat} (h : ∀ i, i < n → (P i ↔ Q i)) (hg : ∀ i, i < n → P i → g i = h2 i) : fl P g n = fl Q h2 n := by
  induction n with
  | zero => rfl
  | succ n ih =>
    have i1 := ih (fun i hi => h i (by omega)) (fun i hi => hg i (by omega))
    by_cases c : P n
    · rw [fl_t c, fl_t ((h n (by omega)).mp c), i1, hg n (by omega) c]
    · rw [fl_f c, fl_f (fun z => c ((h n (by omega)).mpr z)), i1]
theorem cnt_le : cnt P n ≤ n := by
  induction n with
  | zero => exact Nat.le_refl 0
  | succ n ih =>
    by_cases c : P n
    · rw [cnt_t c]; omega
    · rw [cnt_f c]; omega
theorem cnt_imp (h : ∀ i, i < n → P i → Q i) : cnt P n ≤ cnt Q n := by
  induction n with
  | zero => exact Nat.le_refl 0
  | succ n ih =>
    have := ih (fun i hi => h i (by omega))
    by_cases c : P n
    · rw [cnt_t c, cnt_t (h n (by omega) c)]; omega
    · rw [cnt_f c, cnt_s]; omega
theorem cnt_pos (hx : x < n) (h : P x) : 0 < cnt P n := by
  induction n with
  | zero => omega
  | succ n ih =>
    by_cases c : x = n
    · subst c; rw [cnt_t h]; omega
    · have := ih (by omega); rw [cnt_s]; omega
theorem cnt_none (h : ∀ i, i < n → ¬ P i) : cnt P n = 0 := by
  induction n with
  | zero => rfl
  | succ n ih => rw [cnt_f (h n (by omega)), ih (fun i hi => h i (by omega))]
theorem cnt_all (h : ∀ i, i < n → P i) : cnt P n = n := by
  induction n with
  | zero => rfl
  | succ n ih => rw [cnt_t (h n (by omega)), ih (fun i hi => h i (by omega))]
theorem cnt_mono (h : m ≤ n) : cnt P m ≤ cnt P n := by
  induction h with
  | refl => exact Nat.le_refl _
  | step _ ih => rw [cnt_s]; omega
/-- nothing behind m -/
theorem cnt_cut (h : m ≤ n) (h0 : ∀ i, m ≤ i → i < n → ¬ P i) : cnt P n = cnt P m := by
  induction h with
  | refl => rfl
  | @step n hm ih =>
    rw [cnt_f (h0 n hm (by omega)), ih (fun i h1 h2 => h0 i h1 (by omega))]
theorem fl_len : (fl P g n).length = cnt P n := by
  induction n with
  | zero => rfl
  | succ n ih =>
    by_cases c : P n
    · rw [fl_t c, cnt_t c, List.length_append, ih]; rfl
    · rw [fl_f c, cnt_f c, ih]
theorem fl_mem {y : Nat} : y ∈ fl P g n ↔ ∃ i, i < n ∧ P i ∧ g i = y := by
  induction n with
  | zero => exact ⟨fun h => absurd h List.not_mem_nil, fun ⟨i, h, _⟩ => by omega⟩
  | succ n ih =>
    by_cases c : P n
    · rw [fl_t c, List.mem_append, ih, List.mem_singleton]
      constructor
      · intro h
        rcases h with ⟨i, h1, h2, h3⟩ | h
        · exact ⟨i, by omega, h2, h3⟩
        · exact ⟨n, by omega, c, h.symm⟩
      · intro ⟨i, h1, h2, h3⟩
        by_cases e : i = n
        · right; rw [← h3, e]
        · left; exact ⟨i, by omega, h2, h3⟩
    · rw [fl_f c, ih]
      constructor
      · intro ⟨i, h1, h2, h3⟩; exact ⟨i, by omega, h2, h3⟩
      · intro ⟨i, h1, h2, h3⟩
        have : i ≠ n := fun e => c (e ▸ h2)
        exact ⟨i, by omega, h2, h3⟩
theorem fl_nodup : (fl P (fun i => i) n).Nodup := by
  induction n with
  | zero => exact List.nodup_nil
  | succ n ih =>
    by_cases c : P n
    · rw [fl_t c]
      refine List.nodup_append.mpr ⟨ih, by simp, ?_⟩
      intro a ha b hb e
      obtain ⟨i, h1, _, h3⟩ := fl_mem.mp ha
      rw [List.mem_singleton] at hb
      omega
    · rw [fl_f c]; exact ih
/-- a row without repeats that holds just these -/
theorem nodup_cnt {L : List Nat} {p : Nat → Bool} (hn : L.Nodup) (hm : ∀ x, x ∈ L ↔ x < n ∧ Q x) : (L.filter p).length = cnt (fun x => Q x ∧ p x = true) n := by
  rw [← fl_len (g := fun i => i)]
  refine List.Perm.length_eq ((List.perm_ext_iff_of_nodup (List.Nodup.sublist List.filter_sublist hn) fl_nodup).mpr (fun x => ?_))
  rw [List.mem_filter, hm, fl_mem]
  constructor
  · intro ⟨⟨h1, h2⟩, h3⟩; exact ⟨x, h1, ⟨h2, h3⟩, rfl⟩
  · intro ⟨i, h1, h2, h3⟩
    subst h3
    exact ⟨⟨h1, h2.1⟩, h2.2⟩
theorem cnt_or (hx : x < n) : cnt (fun i => P i ∨ i = x) n = cnt P n + bb (¬ P x) := by
  have low : ∀ {m : Nat}, m ≤ x → cnt (fun i => P i ∨ i = x) m = cnt P m := fun {m} hm => cnt_congr (fun i hi => ⟨fun h => h.elim (fun z => z) (fun z => by omega), fun h => Or.inl h⟩)
  induction n with
  | zero => omega
  | succ n ih =>
    by_cases e : x = n
    · subst e
      rw [cnt_t (Or.inr rfl), low (Nat.le_refl _)]
      by_cases c : P x
      · rw [cnt_t c, bb_f (fun z => z c)]
      · rw [cnt_f c, bb_t c]
    · rw [cnt_s, cnt_s, ih (by omega), bb_congr (show (P n ∨ n = x) ↔ P n from ⟨fun h => h.elim (fun z => z) (fun z => by omega), Or.inl⟩)]
      omega
/-- classes: by names as many as first ones -/
theorem rep_cnt {r : Nat → Nat} {E : Nat → Nat → Prop} {M : Nat} (hr : ∀ l, l < m → r l < M) (hE : ∀ a b, a < m → b < m → (r a = r b ↔ E a b)) :
    cnt (fun c => ∃ l, l < m ∧ R l ∧ r l = c) M = cnt (fun l => R l ∧ ∀ j, j < l → R j → ¬ E j l) m := by
  induction m with
  | zero => rw [cnt_none (fun i _ ⟨l, h, _⟩ => by omega)]; rfl
  | succ m ih =>
    have i1 := ih (fun l hl => hr l (by omega)) (fun a b ha hb => hE a b (by omega) (by omega))
    by_cases c : R m
    · have e1 : cnt (fun c => ∃ l, l < m + 1 ∧ R l ∧ r l = c) M = cnt (fun c => (∃ l, l < m ∧ R l ∧ r l = c) ∨ c = r m) M := by
        refine cnt_congr (fun i _ => ⟨fun ⟨l, h1, h2, h3⟩ => ?_, fun h => ?_⟩)
        · by_cases e : l = m
          · right; rw [← h3, e]
          · left; exact ⟨l, by omega, h2, h3⟩
        · rcases h with ⟨l, h1, h2, h3⟩ | h
          · exact ⟨l, by omega, h2, h3⟩
          · exact ⟨m, by omega, c, h.symm⟩
      rw [e1, cnt_or (hr m (by omega)), i1, cnt_s]
      congr 1
      refine bb_congr ⟨fun h => ⟨c, fun j hj hR hEj => h ⟨j, hj, hR, (hE j m (by omega) (by omega)).mpr hEj⟩⟩, fun h ⟨j, hj, hR, hEj⟩ => h.2 j hj hR ((hE j m (by omega) (by omega)).mp hEj)⟩
    · rw [cnt_f (fun z => c z.1), ← i1]
      refine cnt_congr (fun i _ => ⟨fun ⟨l, h1, h2, h3⟩ => ?_, fun ⟨l, h1, h2, h3⟩ => ⟨l, by omega, h2, h3⟩⟩)
      have : l ≠ m := fun e => c (e ▸ h2)
      exact ⟨l, by omega, h2, h3⟩
end C1
/-- sums -/
def sumN (f : Nat → Nat) : Nat → Nat
  | 0 => 0
  | k + 1 => sumN f k + f k
section C2
variable {f g : Nat → Nat} {n m k x : Nat} {P : Nat → Prop}
theorem sumN_congr (h : ∀ i, i < n → f i = g i) : sumN f n = sumN g n := by
  induction n with
  | zero => rfl
  | succ n ih => unfold sumN; rw [ih (fun i hi => h i (by omega)), h n (by omega)]
theorem sumN_add : sumN (fun i => f i + g i) n = sumN f n + sumN g n := by
  induction n with
  | zero => rfl
  | succ n ih => unfold sumN; rw [ih]; omega
theorem sumN_zero : sumN (fun _ => 0) n = 0 := by
  induction n with
  | zero => rfl
  | succ n ih => unfold sumN; rw [ih]
theorem sumN_one (hx : x < n) {c : Nat} : sumN (fun i => if x = i then c else 0) n = c := by
  have low : ∀ m, m ≤ x → sumN (fun i => if x = i then c else 0) m = 0 := by
    intro m hm
    rw [sumN_congr (g := fun _ => 0) (fun i hi => if_neg (by omega)), sumN_zero]
  induction n with
  | zero => omega
  | succ n ih =>
    unfold sumN
    by_cases e : x = n
    · subst e; rw [low x (Nat.le_refl _), if_pos rfl]; omega
    · rw [ih (by omega), if_neg e]; rfl
theorem cnt_sum : cnt P n = sumN (fun i => bb (P i)) n := by
  induction n with
  | zero => rfl
  | succ n ih => unfold sumN; rw [cnt_s, ih]
theorem sumN_swap {F : Nat → Nat → Nat} : sumN (fun i => sumN (fun j => F i j) m) n = sumN (fun j => sumN (fun i => F i j) n) m := by
  induction n with
  | zero => show 0 = sumN (fun _ => 0) m; rw [sumN_zero]
  | succ n ih =>
    show sumN _ n + _ = sumN (fun j => sumN (fun i => F i j) n + F n j) m
    rw [sumN_add, ih]
/-- the sizes of some names together: the things that bear one of these -/
theorem cnt_by_name {nm : Nat → Nat} {A : Nat → Prop} {N : Nat} (h : ∀ v, v < n → nm v < N) : sumN (fun c => bb (A c) * cnt (fun v => nm v = c) n) N = cnt (fun v => A (nm v)) n := by
  induction n with
  | zero =>
    show sumN (fun c => bb (A c) * 0) N = 0
    rw [sumN_congr (g := fun _ => 0) (fun i _ => Nat.mul_zero _), sumN_zero]
  | succ n ih =>
    rw [cnt_s, ← ih (fun v hv => h v (by omega)), ← sumN_one (h n (by omega)) (c := bb (A (nm n))), ← sumN_add]
    refine sumN_congr (fun c _ => ?_)
    rw [cnt_s]
    by_cases e : nm n = c
    · rw [bb_t e, if_pos e, e, Nat.mul_add, Nat.mul_one]
    · rw [bb_f e, if_neg e, Nat.add_zero, Nat.add_zero]
end C2
/-- the least with a property below a bound, else the bound -/
noncomputable def lea (P : Nat → Prop) : Nat → Nat
  | 0 => 0
  | k + 1 => @ite _ (lea P k < k ∨ P k) (Classical.propDecidable _) (lea P k) (k + 1)
section C3
variable {P Q : Nat → Prop} {n m k x : Nat}
theorem lea_spec : lea P n ≤ n ∧ (lea P n < n → P (lea P n)) ∧ ∀ i, i < lea P n → ¬ P i := by
  induction n with
  | zero => exact ⟨Nat.le_refl _, fun h => absurd h (by unfold lea; omega), fun i h => absurd h (by unfold lea; omega)⟩
  | succ n ih =>
    unfold lea
    by_cases c : lea P n < n ∨ P n
    · rw [if_pos c]
      refine ⟨by omega, fun _ => ?_, ih.2.2⟩
      rcases c with c | c
      · exact ih.2.1 c
      · by_cases d : lea P n < n
        · exact ih.2.1 d
        · have : lea P n = n := by omega
          rw [this]; exact c
    · rw [if_neg c]
      have e : lea P n = n := by omega
      refine ⟨Nat.le_refl _, fun h => by omega, fun i hi => ?_⟩
      by_cases d : i = n
      · rw [d]; exact fun z => c (Or.inr z)
      · exact ih.2.2 i (by omega)
theorem lea_uniq (hm : m ≤ n) (h1 : m < n → P m) (h2 : ∀ i, i < m → ¬ P i) : lea P n = m := by
  obtain ⟨g1, g2, g3⟩ := lea_spec (P := P) (n := n)
  rcases Nat.lt_trichotomy (lea P n) m with c | c | c
  · exact absurd (g2 (by omega)) (h2 _ c)
  · exact c
  · exact absurd (h1 (by omega)) (g3 _ c)
theorem lea_congr (h : ∀ i, i < n → (P i ↔ Q i)) : lea P n = lea Q n := by
  obtain ⟨g1, g2, g3⟩ := lea_spec (P := Q) (n := n)
  exact lea_uniq g1 (fun z => (h _ z).mpr (g2 z)) (fun i hi z => g3 i hi ((h i (by omega)).mp z))
theorem lea_lt (hx : x < n) (h : P x) : lea P n ≤ x ∧ lea P n < n ∧ P (lea P n) := by
  obtain ⟨g1, g2, g3⟩ := lea_spec (P := P) (n := n)
  have : lea P n ≤ x := Classical.byContradiction fun z => g3 x (by omega) h
  exact ⟨this, by omega, g2 (by omega)⟩
end C3
/-- the i-th of a row, how many it has at -1, else -1 -/
def pick (L : List Nat) (i : Int) : Int := if i < 0 then -1 else match L[i.toNat]? with
  | some x => (x : Int)
  | none => -1
def pickC (L : List Nat) (i : Int) : Int := if i = -1 then (L.length : Int) else pick L i
