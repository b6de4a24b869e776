/-! THEORY 14: any walk's bridges; the fewest steps; nodes between -/
def qb (fa fb : Nat → Nat) (k : Nat) : Nat → Bool := fun t => decide (hC fa fb k t = -1)
noncomputable def bB (p : Prop) : Bool := @decide p (Classical.propDecidable p)
theorem bB_iff {p : Prop} : bB p = true ↔ p := @decide_eq_true_iff p (Classical.propDecidable p)
noncomputable def pf (P : Nat → Prop) (L : List Nat) : List Nat := L.filter (fun x => bB (P x))
theorem pf_mem {P : Nat → Prop} {L : List Nat} {x : Nat} : x ∈ pf P L ↔ x ∈ L ∧ P x := by
  unfold pf
  rw [List.mem_filter, bB_iff]
theorem pf_app {P : Nat → Prop} {A B : List Nat} : pf P (A ++ B) = pf P A ++ pf P B := List.filter_append _ _
theorem pf_t {P : Nat → Prop} {x : Nat} (h : P x) : pf P [x] = [x] := by
  unfold pf
  rw [List.filter_cons, if_pos (by rw [bB_iff]; exact h)]
  rfl
theorem pf_f {P : Nat → Prop} {x : Nat} (h : ¬ P x) : pf P [x] = [] := by
  unfold pf
  rw [List.filter_cons, if_neg (by rw [bB_iff]; exact h)]
  rfl
/-- a row read by places -/
theorem fl_pf {P S : Nat → Prop} {g : Nat → Nat} {M : List Nat} (h : ∀ j x, M[j]? = some x → (P j ↔ S x) ∧ g j = x) : fl P g M.length = pf S M := by
  have go : ∀ (B A : List Nat), A ++ B = M → fl P g A.length = pf S A → fl P g M.length = pf S M := by
    intro B
    induction B with
    | nil => intro A e ha; rw [List.append_nil] at e; rw [← e]; exact ha
    | cons b B ih =>
      intro A e ha
      refine ih (A ++ [b]) (by rw [← e]; simp) ?_
      have hb := h A.length b (by rw [← e]; simp)
      rw [List.length_append, pf_app]
      by_cases c : S b
      · rw [pf_t c]
        show fl P g (A.length + 1) = _
        rw [fl_t (hb.1.mpr c), ha, hb.2]
      · rw [pf_f c]
        show fl P g (A.length + 1) = _
        rw [fl_f (fun z => c (hb.1.mp z)), ha, List.append_nil]
  exact go M [] rfl rfl
theorem fl_cut {P : Nat → Prop} {g : Nat → Nat} {m n : Nat} (h : m ≤ n) (h0 : ∀ i, m ≤ i → i < n → ¬ P i) : fl P g n = fl P g m := by
  induction h with
  | refl => rfl
  | @step n hm ih =>
    rw [fl_f (h0 n hm (by omega)), ih (fun i h1 h2 => h0 i h1 (by omega))]
section W14
variable {fa fb : Nat → Nat} {Z : Nat → Prop} {n k u v w x y t j : Nat} {L M : List (Nat × Nat)}
theorem qb_iff (ht : t < k) : qb fa fb k t = true ↔ brg fa fb k t := by unfold qb; rw [decide_eq_true_iff]; exact hC_brg ht
theorem qb_f (ht : t < k) : qb fa fb k t = false ↔ ¬ brg fa fb k t := by
  rw [← qb_iff ht]
  cases qb fa fb k t <;> simp
theorem qb_safe : safe fa fb k u v ↔ ld fa fb k u = ld fa fb k v ∧ fw fa fb (qb fa fb k) k u v = [] := by
  constructor
  · intro h
    exact ⟨h.1, fw_nil.mpr (fun t ht => (qb_f (pa_red.2 t ht)).mpr (h.2 t ht))⟩
  · intro h
    exact ⟨h.1, fun t ht => (qb_f (pa_red.2 t ht)).mp (fw_nil.mp h.2 t ht)⟩
theorem brs_walk (h : isW fa fb (fun l => l < k) u L v) (hn : ((lks L).filter (qb fa fb k)).Nodup) : (lks L).filter (qb fa fb k) = lks (fw fa fb (qb fa fb k) k u v) := by
  induction L generalizing u with
  | nil => cases h; rw [fw_self]; rfl
  | cons s L ih =>
    have hl : s.1 < k := h.1
    have hv := isW_ld h.2.2 (fun l q => q)
    have e : lks (s :: L) = s.1 :: lks L := rfl
    rw [e] at hn ⊢
    by_cases c : qb fa fb k s.1 = true
    · rw [List.filter_cons, if_pos c] at hn ⊢
      have hn2 := List.nodup_cons.mp hn
      have hb := (qb_iff hl).mp c
      rcases fw_step hv hl hb.2.1 h.2.1 c with g | g
      · rw [g, ih h.2.2 hn2.2]; rfl
      · exfalso
        apply hn2.1
        rw [ih h.2.2 hn2.2, g]
        exact List.mem_cons_self
    · rw [List.filter_cons, if_neg c] at hn ⊢
      have c' : qb fa fb k s.1 = false := by simpa using c
      rw [ih h.2.2 hn]
      by_cases hT : TL fa fb s.1
      · rw [fw_step0 hv hl hT h.2.1 c']
      · have h0 : fw fa fb (qb fa fb k) k u s.2 = [] := by
          rw [fw_nil]
          intro t ht
          rw [qb_f (pa_red.2 t ht)]
          intro hb
          rcases h.2.1 with ⟨e1, e2⟩ | ⟨e1, e2⟩
          · exact brg_ring hb hl hT (by rw [e1, e2]; exact ht)
          · have := pa_mem_rev (fa := fa) (fb := fb) (k := k) (u := u) (v := s.2) (ld_E hl h.2.1) (l := t)
            exact brg_ring hb hl hT (by rw [e1, e2]; exact this.mpr ht)
        rw [fw_same (ld_E hl h.2.1) h0 hv]
/-- a walk of at most j steps -/
def Rk (fa fb : Nat → Nat) (Z : Nat → Prop) (j u v : Nat) : Prop := ∃ L, isW fa fb Z u L v ∧ L.length ≤ j
theorem Rk_mono {i : Nat} (h : Rk fa fb Z i u v) (hi : i ≤ j) : Rk fa fb Z j u v := by
  obtain ⟨L, h1, h2⟩ := h
  exact ⟨L, h1, by omega⟩
theorem Rk_0 : Rk fa fb Z 0 u v ↔ u = v := by
  constructor
  · intro ⟨L, h1, h2⟩
    have := List.length_eq_zero_iff.mp (Nat.le_zero.mp h2)
    subst this
    exact h1
  · intro h; subst h; exact ⟨[], rfl, Nat.le_refl _⟩
theorem rvW_len {u : Nat} : (rvW u L).length = L.length := by
  have : (lks (rvW u L)).length = (lks L).length := by rw [lks_rv, List.length_reverse]
  simpa [lks] using this
theorem Rk_symm (h : Rk fa fb Z j u v) : Rk fa fb Z j v u := by
  obtain ⟨L, h1, h2⟩ := h
  exact ⟨_, h1.rev, by rw [rvW_len]; exact h2⟩
theorem Rk_cons {l : Nat} (hz : Z l) (he : isE fa fb l u y) (h : Rk fa fb Z j y v) : Rk fa fb Z (j + 1) u v := by
  obtain ⟨L, h1, h2⟩ := h
  exact ⟨(l, y) :: L, ⟨hz, he, h1⟩, by rw [List.length_cons]; omega⟩
theorem Rk_s : Rk fa fb Z (j + 1) u v ↔ Rk fa fb Z j u v ∨ ∃ l y, Z l ∧ isE fa fb l u y ∧ Rk fa fb Z j y v := by
  constructor
  · intro ⟨L, h1, h2⟩
    cases L with
    | nil => exact Or.inl ⟨[], h1, Nat.zero_le _⟩
    | cons s L => exact Or.inr ⟨s.1, s.2, h1.1, h1.2.1, L, h1.2.2, by rw [List.length_cons] at h2; omega⟩
  · intro h
    rcases h with h | ⟨l, y, h1, h2, h3⟩
    · exact Rk_mono h (by omega)
    · exact Rk_cons h1 h2 h3
/-- the same, the last step told -/
theorem Rk_e : Rk fa fb Z (j + 1) u v ↔ Rk fa fb Z j u v ∨ ∃ l y, Z l ∧ isE fa fb l y v ∧ Rk fa fb Z j u y := by
  constructor
  · intro h
    rcases Rk_s.mp (Rk_symm h) with g | ⟨l, y, g1, g2, g3⟩
    · exact Or.inl (Rk_symm g)
    · exact Or.inr ⟨l, y, g1, g2.symm, Rk_symm g3⟩
  · intro h
    refine Rk_symm (Rk_s.mpr ?_)
    rcases h with g | ⟨l, y, g1, g2, g3⟩
    · exact Or.inl (Rk_symm g)
    · exact Or.inr ⟨l, y, g1, g2.symm, Rk_symm g3⟩
theorem Rk_rch (h : Rk fa fb Z j u v) : Rch fa fb Z u v := by
  obtain ⟨L, h1, _⟩ := h
  exact ⟨L, h1⟩
/-- a walk at no node twice -/
theorem walk_simple (h : isW fa fb Z u L v) : ∃ M, isW fa fb Z u M v ∧ (nds u M).Nodup := by
  induction L generalizing u with
  | nil => exact ⟨[], h, by simp [nds]⟩
  | cons s L ih =>
    obtain ⟨M, h1, h2⟩ := ih h.2.2
    by_cases c : u ∈ nds s.2 M
    · have cut : ∀ {M : List (Nat × Nat)} {a : Nat}, isW fa fb Z a M v → (nds a M).Nodup → u ∈ nds a M → ∃ B, isW fa fb Z u B v ∧ (nds u B).Nodup := by
        intro M
        induction M with
        | nil =>
          intro a g1 g2 g3
          simp only [nds, List.map_nil, List.mem_cons, List.not_mem_nil, or_false] at g3
          subst g3
          exact ⟨[], g1, g2⟩
        | cons p M ihM =>
          intro a g1 g2 g3
          by_cases e : u = a
          · subst e; exact ⟨p :: M, g1, g2⟩
          · have g3' : u ∈ nds p.2 M := by
              simp only [nds, List.map_cons, List.mem_cons] at g3 ⊢
              rcases g3 with g | g
              · exact absurd g e
              · exact g
            exact ihM g1.2.2 (List.nodup_cons.mp g2).2 g3'
      exact cut h1 h2 c
    · exact ⟨s :: M, ⟨h.1, h.2.1, h1⟩, List.nodup_cons.mpr ⟨c, h2⟩⟩
theorem nds_len : (nds u L).length = L.length + 1 := by simp [nds]
theorem Rk_n (h : Rch fa fb Z u v) (hz : ∀ l, Z l → fa l < n ∧ fb l < n) (hu : u < n) : Rk fa fb Z (n - 1) u v := by
  obtain ⟨L, hL⟩ := h
  obtain ⟨M, h1, h2⟩ := walk_simple hL
  refine ⟨M, h1, ?_⟩
  have := List.Nodup.length_le_of_subset h2 (l₂ := List.range n) (fun y hy => List.mem_range.mpr (nds_lt h1 hz hu y hy))
  rw [nds_len, List.length_range] at this
  omega
/-- the fewest steps; 33: none that is short -/
noncomputable def dsn (fa fb : Nat → Nat) (Z : Nat → Prop) (u v : Nat) : Nat := lea (fun j => Rk fa fb Z j u v) 33
theorem dsn_symm : dsn fa fb Z u v = dsn fa fb Z v u := lea_congr (fun _ _ => ⟨Rk_symm, Rk_symm⟩)
theorem dsn_le (h : Rk fa fb Z j u v) (hj : j < 33) : dsn fa fb Z u v ≤ j := (lea_lt (P := fun j => Rk fa fb Z j u v) hj h).1
theorem dsn_rk (h : dsn fa fb Z u v < 33) : Rk fa fb Z (dsn fa fb Z u v) u v := (lea_spec (P := fun j => Rk fa fb Z j u v) (n := 33)).2.1 h
theorem dsn_iff (hj : j < 33) : dsn fa fb Z u v ≤ j ↔ Rk fa fb Z j u v := ⟨fun h => Rk_mono (dsn_rk (by omega)) h, fun h => dsn_le h hj⟩
theorem dsn_0 : dsn fa fb Z u v = 0 ↔ u = v := by
  have := dsn_iff (fa := fa) (fb := fb) (Z := Z) (u := u) (v := v) (j := 0) (by omega)
  rw [Rk_0] at this
  rw [← this]; omega
theorem dsn_reach (hn : n ≤ 32) (h : Rch fa fb Z u v) (hz : ∀ l, Z l → fa l < n ∧ fb l < n) (hu : u < n) : dsn fa fb Z u v ≤ n - 1 := dsn_le (Rk_n h hz hu) (by omega)
theorem dsn_far (h : ¬ Rch fa fb Z u v) : dsn fa fb Z u v = 33 := by
  have h1 := (lea_spec (P := fun j => Rk fa fb Z j u v) (n := 33)).1
  rcases Nat.lt_or_ge (dsn fa fb Z u v) 33 with c | c
  · exact absurd (Rk_rch (dsn_rk c)) h
  · unfold dsn at *; omega
/-- a link's ends are about as far -/
theorem dsn_E {l : Nat} (hz : Z l) (he : isE fa fb l x y) (h : dsn fa fb Z y v < 32) : dsn fa fb Z x v ≤ dsn fa fb Z y v + 1 := dsn_le (Rk_cons hz he (dsn_rk (by omega))) (by omega)
/-- a step nearer -/
theorem dsn_step (h0 : x ≠ v) (h : dsn fa fb Z x v < 33) : ∃ l y, Z l ∧ isE fa fb l x y ∧ dsn fa fb Z y v + 1 = dsn fa fb Z x v := by
  have h1 := dsn_rk h
  have hp : dsn fa fb Z x v ≠ 0 := fun e => h0 (dsn_0.mp e)
  obtain ⟨d, hd⟩ : ∃ d, dsn fa fb Z x v = d + 1 := ⟨dsn fa fb Z x v - 1, by omega⟩
  rw [hd] at h1 h
  rcases Rk_s.mp h1 with g | ⟨l, y, g1, g2, g3⟩
  · have := dsn_le g (by omega); omega
  · refine ⟨l, y, g1, g2, ?_⟩
    have e1 := dsn_le g3 (by omega)
    have e2 := dsn_E (v := v) g1 g2 (by omega)
    omega
/-- the next node of the way that is first -/
noncomputable def nxn (fa fb : Nat → Nat) (Z : Nat → Prop) (n v x : Nat) : Nat := lea (fun y => (∃ l, Z l ∧ isE fa fb l x y) ∧ dsn fa fb Z y v + 1 = dsn fa fb Z x v) n
theorem nxn_ok (hz : ∀ l, Z l → fa l < n ∧ fb l < n) (h0 : x ≠ v) (h : dsn fa fb Z x v < 33) : nxn fa fb Z n v x < n ∧ (∃ l, Z l ∧ isE fa fb l x (nxn fa fb Z n v x)) ∧ dsn fa fb Z (nxn fa fb Z n v x) v + 1 = dsn fa fb Z x v := by
  obtain ⟨l, y, h1, h2, h3⟩ := dsn_step h0 h
  have hy : y < n := by
    have := hz l h1
    rcases h2 with ⟨_, e⟩ | ⟨e, _⟩ <;> omega
  have := lea_lt (P := fun y => (∃ l, Z l ∧ isE fa fb l x y) ∧ dsn fa fb Z y v + 1 = dsn fa fb Z x v) hy ⟨⟨l, h1, h2⟩, h3⟩
  exact ⟨this.2.1, this.2.2.1, this.2.2.2⟩
/-- a way that comes nearer with each step -/
def dwn (fa fb : Nat → Nat) (Z : Nat → Prop) (n v : Nat) : Nat → List (Nat × Nat) → Prop
  | u, [] => u = v
  | u, s :: L => Z s.1 ∧ isE fa fb s.1 u s.2 ∧ dsn fa fb Z s.2 v + 1 = dsn fa fb Z u v ∧ s.2 = nxn fa fb Z n v u ∧ dwn fa fb Z n v s.2 L
theorem dwn_W (h : dwn fa fb Z n v u L) : isW fa fb Z u L v := by
  induction L generalizing u with
  | nil => exact h
  | cons s L ih => exact ⟨h.1, h.2.1, ih h.2.2.2.2⟩
theorem dwn_len (h : dwn fa fb Z n v u L) : L.length = dsn fa fb Z u v := by
  induction L generalizing u with
  | nil => cases h; exact (dsn_0.mpr rfl).symm
  | cons s L ih => rw [List.length_cons, ih h.2.2.2.2]; exact h.2.2.1
theorem dwn_le (h : dwn fa fb Z n v u L) : ∀ y, y ∈ nds u L → dsn fa fb Z y v ≤ dsn fa fb Z u v := by
  induction L generalizing u with
  | nil =>
    intro y hy
    simp only [nds, List.map_nil, List.mem_cons, List.not_mem_nil, or_false] at hy
    rw [hy]; exact Nat.le_refl _
  | cons s L ih =>
    intro y hy
    simp only [nds, List.map_cons, List.mem_cons] at hy
    rcases hy with rfl | hy
    · exact Nat.le_refl _
    · have := ih h.2.2.2.2 y (by simp only [nds, List.mem_cons]; exact hy)
      have := h.2.2.1
      omega
theorem dwn_nodes (h : dwn fa fb Z n v u L) : (nds u L).Nodup := by
  induction L generalizing u with
  | nil => simp [nds]
  | cons s L ih =>
    refine List.nodup_cons.mpr ⟨fun hm => ?_, ih h.2.2.2.2⟩
    have := dwn_le h.2.2.2.2 u hm
    have := h.2.2.1
    omega
theorem dwn_links (h : dwn fa fb Z n v u L) : (lks L).Nodup := by
  induction L generalizing u with
  | nil => exact List.nodup_nil
  | cons s L ih =>
    refine List.nodup_cons.mpr ⟨fun hm => ?_, ih h.2.2.2.2⟩
    have := (nds_link (dwn_W h.2.2.2.2) hm h.2.1).1
    have := dwn_le h.2.2.2.2 u this
    have := h.2.2.1
    omega
/-- w lies between u and v -/
def sep (fa fb : Nat → Nat) (k u v w : Nat) : Prop := w ≠ u ∧ w ≠ v ∧ ¬ Rch fa fb (AV fa fb k w) u v
theorem sep_on (h : isW fa fb (fun l => l < k) u L v) (hs : sep fa fb k u v w) : w ∈ nds u L := Classical.byContradiction fun c => hs.2.2 (av_walk h (fun _ q => q) c)
theorem nds_app {A B : List (Nat × Nat)} : nds u (A ++ B) = nds u A ++ B.map Prod.snd := by simp [nds]
/-- a walk cut at a node of it -/
theorem nds_cut (h : isW fa fb Z u L v) {A B : List Nat} (e : nds u L = A ++ x :: B) : ∃ L1 L2, L = L1 ++ L2 ∧ isW fa fb Z u L1 x ∧ isW fa fb Z x L2 v ∧ nds u L1 = A ++ [x] ∧ nds x L2 = x :: B := by
  induction A generalizing u L with
  | nil =>
    simp only [nds, List.nil_append, List.cons.injEq] at e
    obtain ⟨rfl, e⟩ := e
    exact ⟨[], L, rfl, rfl, h, rfl, by simp [nds, e]⟩
  | cons a A ih =>
    cases L with
    | nil =>
      simp only [nds, List.map_nil, List.cons_append, List.cons.injEq] at e
      have := e.2
      cases A <;> cases this
    | cons s L =>
      simp only [nds, List.map_cons, List.cons_append, List.cons.injEq] at e
      obtain ⟨rfl, e⟩ := e
      obtain ⟨L1, L2, g1, g2, g3, g4, g5⟩ := ih (u := s.2) (L := L) h.2.2 e
      exact ⟨s :: L1, L2, by rw [g1]; rfl, ⟨h.1, h.2.1, g2⟩, g3, by simp only [nds, List.map_cons] at g4 ⊢; rw [g4]; rfl, g5⟩
/-- nodes between: the same row on any two walks at no node twice -/
theorem seps_eq (h1 : isW fa fb (fun l => l < k) u L v) (h2 : isW fa fb (fun l => l < k) u M v) (n1 : (nds u L).Nodup) (n2 : (nds u M).Nodup) : pf (sep fa fb k u v) (nds u L) = pf (sep fa fb k u v) (nds u M) := by
  refine rows_eq (List.Nodup.sublist List.filter_sublist n1) (List.Nodup.sublist List.filter_sublist n2) (fun x => ?_) (fun x y b1 b2 => ?_)
  · rw [pf_mem, pf_mem]
    exact ⟨fun q => ⟨sep_on h2 q.2, q.2⟩, fun q => ⟨sep_on h1 q.2, q.2⟩⟩
  · -- x ahead of y on L, y ahead of x on M
    have up : ∀ {N : List (Nat × Nat)} {x y : Nat}, bef (pf (sep fa fb k u v) (nds u N)) x y → ∃ A B C, nds u N = A ++ x :: B ++ y :: C := by
      intro N x y ⟨A, B, C, e⟩
      unfold pf at e
      have e' : A ++ x :: B ++ y :: C = A ++ (x :: (B ++ y :: C)) := by simp
      rw [e', List.filter_eq_append_iff] at e
      obtain ⟨l1, l2, q1, q2, q3⟩ := e
      rw [List.filter_eq_cons_iff] at q3
      obtain ⟨m1, m2, r1, r2, r3, r4⟩ := q3
      rw [List.filter_eq_append_iff] at r4
      obtain ⟨p1, p2, s1, s2, s3⟩ := r4
      rw [List.filter_eq_cons_iff] at s3
      obtain ⟨o1, o2, t1, t2, t3, t4⟩ := s3
      exact ⟨l1 ++ m1, p1 ++ o1, o2, by rw [q1, r1, s1, t1]; simp⟩
    have hx : sep fa fb k u v x := by
      obtain ⟨A, B, C, e⟩ := b1
      exact (pf_mem.mp (show x ∈ pf (sep fa fb k u v) (nds u L) by rw [e]; simp)).2
    obtain ⟨A, B, C, e1⟩ := up b1
    obtain ⟨A2, B2, C2, e2⟩ := up b2
    apply hx.2.2
    -- on M to y without x, on L from y without x
    obtain ⟨M1, M2, f1, f2, f3, f4, f5⟩ := nds_cut h2 (A := A2) (x := y) (B := B2 ++ x :: C2) (by rw [e2]; simp)
    obtain ⟨L1, L2, g1, g2, g3, g4, g5⟩ := nds_cut h1 (A := A ++ x :: B) (x := y) (B := C) (by rw [e1])
    rw [e2] at n2
    rw [e1] at n1
    refine (av_walk f2 (fun _ q => q) (w := x) ?_).trans (av_walk g3 (fun _ q => q) (w := x) ?_)
    · rw [f4]
      intro hm
      have := List.nodup_append.mp n2
      refine this.2.2 x ?_ x (List.mem_cons_self) rfl
      rcases List.mem_append.mp hm with q | q
      · exact List.mem_append_left _ q
      · rw [List.mem_singleton] at q
        rw [q]; simp
    · rw [g5]
      intro hm
      have := List.nodup_append.mp n1
      exact this.2.2 x (by simp) x hm rfl
/-- on the tree's way: parts unlike ahead of a node and behind it iff it lies between -/
theorem sep_part {A B : List (Nat × Nat)} {t1 t2 : Nat} (h : ld fa fb k u = ld fa fb k v) (hne : ∀ l, l < k → fa l ≠ fb l) (e : pa fa fb k u v = A ++ (t1, w) :: (t2, y) :: B) : pe fa fb k t1 ≠ pe fa fb k t2 ↔ sep fa fb k u v w := by
  have hW := pa_W h
  rw [e] at hW
  obtain ⟨p, g1, g2⟩ := hW.split
  have a1 : w ∉ nds u A := fun q => pa_simple h e q (by simp [nds])
  have e' : pa fa fb k u v = (A ++ [(t1, w)]) ++ (t2, y) :: B := by rw [e]; simp
  have a2 : w ∉ nds y B := fun q => pa_simple h e' (by simp [nds]) q
  have hu : w ≠ u := fun q => a1 (by simp [nds, q])
  have hv : w ≠ v := fun q => a2 (q ▸ nds_end g2.2.2.2.2)
  have hp : p ≠ w := fun q => a1 (q ▸ nds_end g1)
  have hy : y ≠ w := fun q => a2 (by simp [nds, q])
  have r1 := av_walk g1 (fun l q => q.1) a1
  have r2 := av_walk g2.2.2.2.2 (fun l q => q.1) a2
  have hpi := part_iff (fa := fa) (fb := fb) (k := k) (w := w) g2.1.1 g2.2.2.1.1 g2.2.1.symm g2.2.2.2.1 hp hy
  rw [ne_eq, hpi]
  constructor
  · intro c
    exact ⟨hu, hv, fun q => c (r1.symm.trans (q.trans r2.symm))⟩
  · intro c q
    exact c.2.2 (r1.trans (q.trans r2))
end W14
