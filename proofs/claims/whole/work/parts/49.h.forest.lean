/-! THEORY 17: a forest in rows: each ahead of its children, these rising -/
def FH (n : Nat) (lv : Nat → Prop) (P : Nat → Int) (ch : Nat → List Nat) : Prop :=
  ∀ b, b < n → lv b → ((P b = -1 ∧ ch b = [b]) ∨ ∃ c, c < n ∧ lv c ∧ P b = (c : Int) ∧ ch b = b :: ch c) ∧ (ch b).length ≤ 32
noncomputable def chl (n : Nat) (lv : Nat → Prop) (P : Nat → Int) (B : Nat) : List Nat := fl (fun c => lv c ∧ P c = (B : Int)) (fun c => c) n
noncomputable def pre (n : Nat) (lv : Nat → Prop) (P : Nat → Int) : Nat → Nat → List Nat
  | 0, _ => []
  | f + 1, B => B :: (chl n lv P B).flatMap (pre n lv P f)
noncomputable def rts (n : Nat) (lv : Nat → Prop) (P : Nat → Int) : List Nat := fl (fun c => lv c ∧ P c = -1) (fun c => c) n
section F1
variable {n : Nat} {lv : Nat → Prop} {P : Nat → Int} {ch : Nat → List Nat} {b c x y B f : Nat}
theorem chl_mem : c ∈ chl n lv P B ↔ c < n ∧ lv c ∧ P c = (B : Int) := by
  unfold chl
  rw [fl_mem]
  constructor
  · intro ⟨i, h1, h2, h3⟩; rw [← h3]; exact ⟨h1, h2.1, h2.2⟩
  · intro ⟨h1, h2, h3⟩; exact ⟨c, h1, ⟨h2, h3⟩, rfl⟩
theorem rts_mem : c ∈ rts n lv P ↔ c < n ∧ lv c ∧ P c = -1 := by
  unfold rts
  rw [fl_mem]
  constructor
  · intro ⟨i, h1, h2, h3⟩; rw [← h3]; exact ⟨h1, h2.1, h2.2⟩
  · intro ⟨h1, h2, h3⟩; exact ⟨c, h1, ⟨h2, h3⟩, rfl⟩
theorem ch_self (hF : FH n lv P ch) (hb : b < n) (hl : lv b) : b ∈ ch b := by
  rcases (hF b hb hl).1 with ⟨_, e⟩ | ⟨c, _, _, _, e⟩ <;> rw [e] <;> exact List.mem_cons_self
theorem ch_ok (hF : FH n lv P ch) : ∀ {m b : Nat}, (ch b).length = m → b < n → lv b → ∀ y, y ∈ ch b → y < n ∧ lv y ∧ (ch y).length ≤ (ch b).length ∧ (∀ z, z ∈ ch y → z ∈ ch b) ∧ ((ch y).length = (ch b).length → y = b) := by
  intro m
  induction m with
  | zero =>
    intro b hm hb hl y hy
    rw [List.length_eq_zero_iff.mp hm] at hy
    cases hy
  | succ m ih =>
    intro b hm hb hl y hy
    rcases (hF b hb hl).1 with ⟨_, e⟩ | ⟨c, h1, h2, _, e⟩
    · rw [e, List.mem_singleton] at hy
      subst hy
      exact ⟨hb, hl, Nat.le_refl _, fun z hz => hz, fun _ => rfl⟩
    · rw [e] at hy
      rcases List.mem_cons.mp hy with hy | hy
      · subst hy
        exact ⟨hb, hl, Nat.le_refl _, fun z hz => hz, fun _ => rfl⟩
      · have hm2 : (ch c).length = m := by rw [e, List.length_cons] at hm; omega
        obtain ⟨g1, g2, g3, g4, g5⟩ := ih hm2 h1 h2 y hy
        refine ⟨g1, g2, by omega, fun z hz => ?_, fun q => by omega⟩
        rw [e]; exact List.mem_cons_of_mem _ (g4 z hz)
theorem ch_uniq (hF : FH n lv P ch) : ∀ {m b : Nat}, (ch b).length = m → b < n → lv b → ∀ y z, y ∈ ch b → z ∈ ch b → (ch y).length = (ch z).length → y = z := by
  intro m
  induction m with
  | zero =>
    intro b hm hb hl y z hy
    rw [List.length_eq_zero_iff.mp hm] at hy
    cases hy
  | succ m ih =>
    intro b hm hb hl y z hy hz hyz
    rcases (hF b hb hl).1 with ⟨_, e⟩ | ⟨c, h1, h2, _, e⟩
    · rw [e, List.mem_singleton] at hy hz
      rw [hy, hz]
    · have hm2 : (ch c).length = m := by rw [e, List.length_cons] at hm; omega
      have hlen : (ch b).length = (ch c).length + 1 := by rw [e, List.length_cons]
      rw [e] at hy hz
      rcases List.mem_cons.mp hy with hy | hy
      · rcases List.mem_cons.mp hz with hz | hz
        · rw [hy, hz]
        · have := (ch_ok hF rfl h1 h2 z hz).2.2.1
          rw [hy] at hyz; omega
      · rcases List.mem_cons.mp hz with hz | hz
        · have := (ch_ok hF rfl h1 h2 y hy).2.2.1
          rw [hz] at hyz; omega
        · exact ih hm2 h1 h2 y z hy hz hyz
/-- on a chain: itself, or by a child -/
theorem ch_child (hF : FH n lv P ch) : ∀ {m x : Nat}, (ch x).length = m → x < n → lv x → B ∈ ch x → x = B ∨ ∃ c, c < n ∧ lv c ∧ P c = (B : Int) ∧ c ∈ ch x := by
  intro m
  induction m with
  | zero =>
    intro x hm hx hl hB
    rw [List.length_eq_zero_iff.mp hm] at hB
    cases hB
  | succ m ih =>
    intro x hm hx hl hB
    rcases (hF x hx hl).1 with ⟨_, e⟩ | ⟨c, h1, h2, h3, e⟩
    · rw [e, List.mem_singleton] at hB
      exact Or.inl hB.symm
    · have hm2 : (ch c).length = m := by rw [e, List.length_cons] at hm; omega
      rw [e] at hB
      rcases List.mem_cons.mp hB with hB | hB
      · exact Or.inl hB.symm
      · right
        rcases ih hm2 h1 h2 hB with g | ⟨d, g1, g2, g3, g4⟩
        · exact ⟨x, hx, hl, by rw [h3, g], ch_self hF hx hl⟩
        · exact ⟨d, g1, g2, g3, by rw [e]; exact List.mem_cons_of_mem _ g4⟩
theorem ch_par (hF : FH n lv P ch) (hc : c < n) (hl : lv c) (hP : P c = (B : Int)) : B < n ∧ lv B ∧ ch c = c :: ch B := by
  rcases (hF c hc hl).1 with ⟨e, _⟩ | ⟨d, h1, h2, h3, e⟩
  · omega
  · have : d = B := by omega
    rw [← this]; exact ⟨h1, h2, e⟩
theorem pre_mem (hF : FH n lv P ch) : ∀ {f B : Nat}, B < n → lv B → 33 ≤ f + (ch B).length → ∀ x, x ∈ pre n lv P f B ↔ x < n ∧ lv x ∧ B ∈ ch x := by
  intro f
  induction f with
  | zero =>
    intro B hB hl hf
    have := (hF B hB hl).2
    omega
  | succ f ih =>
    intro B hB hl hf x
    unfold pre
    rw [List.mem_cons, List.mem_flatMap]
    constructor
    · intro h
      rcases h with h | ⟨c, hc, hx⟩
      · subst h; exact ⟨hB, hl, ch_self hF hB hl⟩
      · obtain ⟨c1, c2, c3⟩ := chl_mem.mp hc
        have hp := ch_par hF c1 c2 c3
        have := (ih c1 c2 (by rw [hp.2.2, List.length_cons]; omega) x).mp hx
        refine ⟨this.1, this.2.1, ?_⟩
        refine (ch_ok hF rfl this.1 this.2.1 c this.2.2).2.2.2.1 B ?_
        rw [hp.2.2]
        exact List.mem_cons_of_mem _ (ch_self hF hB hl)
    · intro ⟨h1, h2, h3⟩
      rcases ch_child hF rfl h1 h2 h3 with g | ⟨c, g1, g2, g3, g4⟩
      · exact Or.inl g
      · right
        have hp := ch_par hF g1 g2 g3
        exact ⟨c, chl_mem.mpr ⟨g1, g2, g3⟩, (ih g1 g2 (by rw [hp.2.2, List.length_cons]; omega) x).mpr ⟨h1, h2, g4⟩⟩
/-- the same with more fuel -/
theorem pre_fuel (hF : FH n lv P ch) : ∀ {f g B : Nat}, B < n → lv B → 33 ≤ f + (ch B).length → 33 ≤ g + (ch B).length → pre n lv P f B = pre n lv P g B := by
  intro f
  induction f with
  | zero =>
    intro g B hB hl hf
    have := (hF B hB hl).2
    omega
  | succ f ih =>
    intro g B hB hl hf hg
    cases g with
    | zero =>
      have := (hF B hB hl).2
      omega
    | succ g =>
      unfold pre
      congr 1
      have : ∀ L : List Nat, (∀ c, c ∈ L → c ∈ chl n lv P B) → L.flatMap (pre n lv P f) = L.flatMap (pre n lv P g) := by
        intro L
        induction L with
        | nil => intro _; rfl
        | cons c L ihL =>
          intro hL
          rw [List.flatMap_cons, List.flatMap_cons, ihL (fun d hd => hL d (List.mem_cons_of_mem _ hd))]
          obtain ⟨c1, c2, c3⟩ := chl_mem.mp (hL c List.mem_cons_self)
          have hp := ch_par hF c1 c2 c3
          rw [ih c1 c2 (g := g) (by rw [hp.2.2, List.length_cons]; omega) (by rw [hp.2.2, List.length_cons]; omega)]
      exact this _ (fun c hc => hc)
/-- a block and all below it -/
noncomputable def prB (n : Nat) (lv : Nat → Prop) (P : Nat → Int) (B : Nat) : List Nat := pre n lv P 33 B
noncomputable def TOT (n : Nat) (lv : Nat → Prop) (P : Nat → Int) : List Nat := (rts n lv P).flatMap (prB n lv P)
theorem prB_s (hF : FH n lv P ch) (hB : B < n) (hl : lv B) : prB n lv P B = B :: (chl n lv P B).flatMap (prB n lv P) := by
  unfold prB
  rw [pre_fuel hF (f := 33) (g := 34) hB hl (by omega) (by omega)]
  rfl
theorem prB_mem (hF : FH n lv P ch) (hB : B < n) (hl : lv B) : x ∈ prB n lv P B ↔ x < n ∧ lv x ∧ B ∈ ch x := pre_mem hF hB hl (by omega) x
theorem flat_nodup {L : List Nat} {g : Nat → List Nat} (hn : L.Nodup) (h1 : ∀ c, c ∈ L → (g c).Nodup) (h2 : ∀ c d, c ∈ L → d ∈ L → ∀ x, x ∈ g c → x ∈ g d → c = d) : (L.flatMap g).Nodup := by
  induction L with
  | nil => exact List.nodup_nil
  | cons c L ih =>
    rw [List.flatMap_cons]
    have hc := List.nodup_cons.mp hn
    refine List.nodup_append.mpr ⟨h1 c List.mem_cons_self, ih hc.2 (fun d hd => h1 d (List.mem_cons_of_mem _ hd)) (fun d e hd he => h2 d e (List.mem_cons_of_mem _ hd) (List.mem_cons_of_mem _ he)), ?_⟩
    intro x hx y hy e
    subst e
    obtain ⟨d, hd, hxd⟩ := List.mem_flatMap.mp hy
    have := h2 c d List.mem_cons_self (List.mem_cons_of_mem _ hd) x hx hxd
    exact hc.1 (this ▸ hd)
theorem pre_nodup (hF : FH n lv P ch) : ∀ {f B : Nat}, B < n → lv B → 33 ≤ f + (ch B).length → (pre n lv P f B).Nodup := by
  intro f
  induction f with
  | zero => intro B _ _ _; exact List.nodup_nil
  | succ f ih =>
    intro B hB hl hf
    unfold pre
    have hsub : ∀ c, c ∈ chl n lv P B → c < n ∧ lv c ∧ ch c = c :: ch B ∧ 33 ≤ f + (ch c).length := by
      intro c hc
      obtain ⟨c1, c2, c3⟩ := chl_mem.mp hc
      have hp := ch_par hF c1 c2 c3
      exact ⟨c1, c2, hp.2.2, by rw [hp.2.2, List.length_cons]; omega⟩
    refine List.nodup_cons.mpr ⟨fun hm => ?_, flat_nodup fl_nodup (fun c hc => ih (hsub c hc).1 (hsub c hc).2.1 (hsub c hc).2.2.2) (fun c d hc hd x hx hxd => ?_)⟩
    · obtain ⟨c, hc, hx⟩ := List.mem_flatMap.mp hm
      have h := hsub c hc
      have hm2 := (pre_mem hF h.1 h.2.1 h.2.2.2 B).mp hx
      have := (ch_ok hF rfl hB hl c hm2.2.2).2.2.1
      rw [h.2.2.1, List.length_cons] at this
      omega
    · have h := hsub c hc
      have h' := hsub d hd
      have m1 := (pre_mem hF h.1 h.2.1 h.2.2.2 x).mp hx
      have m2 := (pre_mem hF h'.1 h'.2.1 h'.2.2.2 x).mp hxd
      exact ch_uniq hF rfl m1.1 m1.2.1 c d m1.2.2 m2.2.2 (by rw [h.2.2.1, h'.2.2.1, List.length_cons, List.length_cons])
theorem ch_root (hF : FH n lv P ch) : ∀ {m x : Nat}, (ch x).length = m → x < n → lv x → ∃ r, r < n ∧ lv r ∧ P r = -1 ∧ r ∈ ch x := by
  intro m
  induction m with
  | zero =>
    intro x hm hx hl
    have := ch_self hF hx hl
    rw [List.length_eq_zero_iff.mp hm] at this
    cases this
  | succ m ih =>
    intro x hm hx hl
    rcases (hF x hx hl).1 with ⟨h, e⟩ | ⟨c, h1, h2, _, e⟩
    · exact ⟨x, hx, hl, h, ch_self hF hx hl⟩
    · obtain ⟨r, g1, g2, g3, g4⟩ := ih (x := c) (by rw [e, List.length_cons] at hm; omega) h1 h2
      exact ⟨r, g1, g2, g3, by rw [e]; exact List.mem_cons_of_mem _ g4⟩
theorem root_len (hF : FH n lv P ch) (hb : b < n) (hl : lv b) (hr : P b = -1) : (ch b).length = 1 := by
  rcases (hF b hb hl).1 with ⟨_, e⟩ | ⟨c, h1, h2, h3, e⟩
  · rw [e]; rfl
  · omega
theorem TOT_mem (hF : FH n lv P ch) : x ∈ TOT n lv P ↔ x < n ∧ lv x := by
  unfold TOT
  rw [List.mem_flatMap]
  constructor
  · intro ⟨r, hr, hx⟩
    obtain ⟨r1, r2, r3⟩ := rts_mem.mp hr
    have := (prB_mem hF r1 r2).mp hx
    exact ⟨this.1, this.2.1⟩
  · intro ⟨h1, h2⟩
    obtain ⟨r, g1, g2, g3, g4⟩ := ch_root hF rfl h1 h2
    exact ⟨r, rts_mem.mpr ⟨g1, g2, g3⟩, (prB_mem hF g1 g2).mpr ⟨h1, h2, g4⟩⟩
theorem TOT_nodup (hF : FH n lv P ch) : (TOT n lv P).Nodup := by
  unfold TOT
  refine flat_nodup fl_nodup (fun c hc => ?_) (fun c d hc hd x hx hxd => ?_)
  · obtain ⟨c1, c2, c3⟩ := rts_mem.mp hc
    exact pre_nodup hF c1 c2 (by omega)
  · obtain ⟨c1, c2, c3⟩ := rts_mem.mp hc
    obtain ⟨d1, d2, d3⟩ := rts_mem.mp hd
    have m1 := (prB_mem hF c1 c2).mp hx
    have m2 := (prB_mem hF d1 d2).mp hxd
    exact ch_uniq hF rfl m1.1 m1.2.1 c d m1.2.2 m2.2.2 (by rw [root_len hF c1 c2 c3, root_len hF d1 d2 d3])
theorem TOT_len (hF : FH n lv P ch) : (TOT n lv P).length = cnt lv n := by
  have := nodup_cnt (Q := lv) (p := fun _ => true) (n := n) (TOT_nodup hF) (fun x => TOT_mem hF)
  rw [List.filter_eq_self.mpr (fun _ _ => rfl)] at this
  rw [this]
  exact cnt_congr (fun i _ => ⟨fun h => h.1, fun h => ⟨h, rfl⟩⟩)
/-- parents ahead of children -/
def PFst (P : Nat → Int) : List Nat → List Nat → Prop
  | _, [] => True
  | A, c :: L => (P c = -1 ∨ ∃ a, a ∈ A ∧ P c = (a : Int)) ∧ PFst P (c :: A) L
theorem PFst_mono {A A2 L : List Nat} (h : PFst P A L) (hs : ∀ a, a ∈ A → a ∈ A2) : PFst P A2 L := by
  induction L generalizing A A2 with
  | nil => trivial
  | cons c L ih =>
    refine ⟨?_, ih h.2 (fun a ha => ?_)⟩
    · rcases h.1 with g | ⟨a, g1, g2⟩
      · exact Or.inl g
      · exact Or.inr ⟨a, hs a g1, g2⟩
    · rcases List.mem_cons.mp ha with q | q
      · rw [q]; exact List.mem_cons_self
      · exact List.mem_cons_of_mem _ (hs a q)
theorem PFst_app {A L M : List Nat} (h1 : PFst P A L) (h2 : PFst P A M) : PFst P A (L ++ M) := by
  induction L generalizing A with
  | nil => exact h2
  | cons c L ih => exact ⟨h1.1, ih h1.2 (PFst_mono h2 (fun a ha => List.mem_cons_of_mem _ ha))⟩
theorem PFst_flat {A L : List Nat} {g : Nat → List Nat} (h : ∀ c, c ∈ L → PFst P A (g c)) : PFst P A (L.flatMap g) := by
  induction L with
  | nil => trivial
  | cons c L ih =>
    rw [List.flatMap_cons]
    exact PFst_app (h c List.mem_cons_self) (ih (fun d hd => h d (List.mem_cons_of_mem _ hd)))
theorem pre_PF : ∀ {f B : Nat} {A : List Nat}, (P B = -1 ∨ ∃ a, a ∈ A ∧ P B = (a : Int)) → PFst P A (pre n lv P f B) := by
  intro f
  induction f with
  | zero => intro B A _; trivial
  | succ f ih =>
    intro B A h
    unfold pre
    refine ⟨h, PFst_flat (fun c hc => ?_)⟩
    exact ih (Or.inr ⟨B, List.mem_cons_self, (chl_mem.mp hc).2.2⟩)
theorem TOT_PF : PFst P [] (TOT n lv P) := PFst_flat (fun c hc => pre_PF (Or.inl (rts_mem.mp hc).2.2))
theorem PFst_at {A L M : List Nat} {c : Nat} (h : PFst P A (L ++ c :: M)) : P c = -1 ∨ ∃ a, (a ∈ A ∨ a ∈ L) ∧ P c = (a : Int) := by
  induction L generalizing A with
  | nil =>
    rcases h.1 with g | ⟨a, g1, g2⟩
    · exact Or.inl g
    · exact Or.inr ⟨a, Or.inl g1, g2⟩
  | cons d L ih =>
    rcases ih h.2 with g | ⟨a, g1, g2⟩
    · exact Or.inl g
    · right
      rcases g1 with g1 | g1
      · rcases List.mem_cons.mp g1 with q | q
        · exact ⟨a, Or.inr (by rw [q]; exact List.mem_cons_self), g2⟩
        · exact ⟨a, Or.inl q, g2⟩
      · exact ⟨a, Or.inr (List.mem_cons_of_mem _ g1), g2⟩
/-- a place's children come behind it -/
theorem TOT_behind (hF : FH n lv P ch) {A M : List Nat} (e : TOT n lv P = A ++ B :: M) (hc : c < n) (hl : lv c) (hP : P c = (B : Int)) : c ∈ M := by
  have hm : c ∈ TOT n lv P := (TOT_mem hF).mpr ⟨hc, hl⟩
  have hnd := TOT_nodup hF (n := n) (lv := lv) (P := P)
  have hBn := ch_par hF hc hl hP
  rw [e] at hm hnd
  have hB : B ∉ A := fun z => (List.nodup_append.mp hnd).2.2 B z B List.mem_cons_self rfl
  rcases List.mem_append.mp hm with q | q
  · exfalso
    obtain ⟨A1, A2, eA⟩ := List.append_of_mem q
    have hpf := TOT_PF (n := n) (lv := lv) (P := P)
    rw [e, eA, List.append_assoc] at hpf
    rcases PFst_at hpf with g | ⟨a, g1, g2⟩
    · omega
    · have : a = B := by omega
      subst this
      rcases g1 with g1 | g1
      · cases g1
      · exact hB (by rw [eA]; exact List.mem_append_left _ g1)
  · rcases List.mem_cons.mp q with q | q
    · exfalso
      rw [q] at hBn
      have := congrArg List.length hBn.2.2
      rw [List.length_cons] at this
      omega
    · exact q
theorem cnt_uniq {Q : Nat → Prop} {M : Nat} (h : ∀ c d, c < M → d < M → Q c → Q d → c = d) : cnt Q M = bb (∃ c, c < M ∧ Q c) := by
  induction M with
  | zero => rw [bb_f (fun ⟨c, h, _⟩ => by omega)]; rfl
  | succ M ih =>
    have i1 := ih (fun c d hc hd => h c d (by omega) (by omega))
    by_cases q : Q M
    · rw [cnt_t q, cnt_none (fun i hi qi => by have := h i M (by omega) (by omega) qi q; omega), bb_t ⟨M, by omega, q⟩]
    · rw [cnt_f q, i1]
      exact bb_congr ⟨fun ⟨c, h1, h2⟩ => ⟨c, by omega, h2⟩, fun ⟨c, h1, h2⟩ => ⟨c, by
        have : c ≠ M := fun e => q (e ▸ h2)
        omega, h2⟩⟩
theorem bb_and {p q : Prop} : bb p * bb q = bb (p ∧ q) := by
  by_cases c : p
  · by_cases d : q
    · rw [bb_t c, bb_t d, bb_t ⟨c, d⟩]
    · rw [bb_f d, bb_f (p := p ∧ q) (fun z => d z.2), Nat.mul_zero]
  · rw [bb_f c, bb_f (p := p ∧ q) (fun z => c z.1), Nat.zero_mul]
theorem mul_sumN {k m : Nat} {g : Nat → Nat} : k * sumN g m = sumN (fun i => k * g i) m := by
  induction m with
  | zero => rfl
  | succ m ih => show k * (sumN g m + g m) = _; rw [Nat.mul_add, ih]; rfl
/-- how many things below a block: its own, and those below its children -/
theorem tot_rec (hF : FH n lv P ch) (hB : B < n) (hl : lv B) {nm : Nat → Nat} {N : Nat} (hnm : ∀ v, v < N → nm v < n ∧ lv (nm v)) :
    cnt (fun v => B ∈ ch (nm v)) N = cnt (fun v => nm v = B) N + sumN (fun c => bb (lv c ∧ P c = (B : Int)) * cnt (fun v => c ∈ ch (nm v)) N) n := by
  have e1 : sumN (fun c => bb (lv c ∧ P c = (B : Int)) * cnt (fun v => c ∈ ch (nm v)) N) n = sumN (fun v => bb (∃ c, c < n ∧ (lv c ∧ P c = (B : Int)) ∧ c ∈ ch (nm v))) N := by
    have : ∀ c, c < n → bb (lv c ∧ P c = (B : Int)) * cnt (fun v => c ∈ ch (nm v)) N = sumN (fun v => bb ((lv c ∧ P c = (B : Int)) ∧ c ∈ ch (nm v))) N := by
      intro c _
      rw [cnt_sum, mul_sumN]
      exact sumN_congr (fun v _ => bb_and)
    rw [sumN_congr this, sumN_swap]
    refine sumN_congr (fun v hv => ?_)
    rw [← cnt_sum]
    refine cnt_uniq (fun c d hc hd h1 h2 => ?_)
    have hv' := hnm v hv
    refine ch_uniq hF rfl hv'.1 hv'.2 c d h1.2 h2.2 ?_
    rw [(ch_par hF hc h1.1.1 h1.1.2).2.2, (ch_par hF hd h2.1.1 h2.1.2).2.2, List.length_cons, List.length_cons]
  rw [e1, cnt_sum, cnt_sum, ← sumN_add]
  refine sumN_congr (fun v hv => ?_)
  have hv' := hnm v hv
  by_cases c : nm v = B
  · have h1 : B ∈ ch (nm v) := by rw [c]; exact ch_self hF hB hl
    rw [bb_t h1, bb_t c, bb_f]
    intro ⟨d, hd, h2, h3⟩
    have hp := ch_par hF hd h2.1 h2.2
    have := (ch_ok hF rfl hv'.1 hv'.2 d h3).2.2.1
    rw [c, hp.2.2, List.length_cons] at this
    omega
  · rw [bb_f c, Nat.zero_add]
    refine bb_congr ⟨fun h => ?_, fun ⟨d, hd, h2, h3⟩ => ?_⟩
    · rcases ch_child hF rfl hv'.1 hv'.2 h with g | ⟨d, g1, g2, g3, g4⟩
      · exact absurd g c
      · exact ⟨d, g1, ⟨g2, g3⟩, g4⟩
    · have hp := ch_par hF hd h2.1 h2.2
      refine (ch_ok hF rfl hv'.1 hv'.2 d h3).2.2.2.1 B ?_
      rw [hp.2.2]
      exact List.mem_cons_of_mem _ (ch_self hF hB hl)
end F1
