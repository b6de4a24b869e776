/-! THEORY 7: names of blocks are the same iff no bridge lies between; names of parts iff their labels are -/
section W7
variable {fa fb : Nat → Nat} {n k u v w x y t : Nat} {Z : Nat → Prop} {L : List (Nat × Nat)}
theorem nds_lt (h : isW fa fb Z u L v) (hz : ∀ l, Z l → fa l < n ∧ fb l < n) (hu : u < n) : ∀ y, y ∈ nds u L → y < n := by
  induction L generalizing u with
  | nil =>
    intro y hy
    simp only [nds, List.map_nil, List.mem_cons, List.not_mem_nil, or_false] at hy
    omega
  | cons s L ih =>
    intro y hy
    simp only [nds, List.map_cons, List.mem_cons] at hy
    have hs : s.2 < n := by
      have := hz _ h.1
      rcases h.2.1 with ⟨_, q⟩ | ⟨q, _⟩ <;> omega
    rcases hy with rfl | hy
    · exact hu
    · refine ih h.2.2 hs y ?_
      simp only [nds, List.mem_cons]
      exact hy
theorem nds_end (h : isW fa fb Z u L v) : v ∈ nds u L := by
  induction L generalizing u with
  | nil => cases h; simp [nds]
  | cons s L ih =>
    have := ih h.2.2
    simp only [nds, List.map_cons, List.mem_cons] at this ⊢
    exact Or.inr this
theorem nds_link (h : isW fa fb Z u L v) {l c d : Nat} (hl : l ∈ lks L) (he : isE fa fb l c d) : c ∈ nds u L ∧ d ∈ nds u L := by
  induction L generalizing u with
  | nil => simp [lks] at hl
  | cons s L ih =>
    simp only [lks, List.map_cons, List.mem_cons] at hl
    have up : ∀ z, z ∈ nds s.2 L → z ∈ nds u (s :: L) := by
      intro z hz
      simp only [nds, List.map_cons, List.mem_cons] at hz ⊢
      exact Or.inr hz
    rcases hl with rfl | hl
    · have h2 : s.2 ∈ nds u (s :: L) := by simp [nds]
      have h1 : u ∈ nds u (s :: L) := by simp [nds]
      have := h.2.1
      rcases he with ⟨rfl, rfl⟩ | ⟨rfl, rfl⟩ <;> rcases this with ⟨q1, q2⟩ | ⟨q1, q2⟩
      · rw [q1, q2]; exact ⟨h1, h2⟩
      · rw [q1, q2]; exact ⟨h2, h1⟩
      · rw [q1, q2]; exact ⟨h2, h1⟩
      · rw [q1, q2]; exact ⟨h1, h2⟩
    · have := ih h.2.2 hl
      exact ⟨up _ this.1, up _ this.2⟩
/-- a node of a way: the way to it is a beginning of the way -/
theorem nds_pre (h : ld fa fb k u = ld fa fb k v) (hy : y ∈ nds u (pa fa fb k u v)) : ∃ L2, pa fa fb k u v = pa fa fb k u y ++ L2 ∧ ld fa fb k u = ld fa fb k y := by
  have cutn : ∀ {a b : Nat} {M : List (Nat × Nat)}, isW fa fb (TZ fa fb k) a M b → y ∈ nds a M → ∃ M1 M2, M = M1 ++ M2 ∧ isW fa fb (TZ fa fb k) a M1 y := by
    intro a b M
    induction M generalizing a with
    | nil =>
      intro hM hw
      simp only [nds, List.map_nil, List.mem_cons, List.not_mem_nil, or_false] at hw
      subst hw
      exact ⟨[], [], rfl, rfl⟩
    | cons s M ih =>
      intro hM hw
      by_cases c : y = a
      · subst c; exact ⟨[], s :: M, rfl, rfl⟩
      · have hw' : y ∈ nds s.2 M := by
          simp only [nds, List.map_cons, List.mem_cons] at hw ⊢
          rcases hw with hw | hw
          · exact absurd hw c
          · exact hw
        obtain ⟨M1, M2, rfl, g1⟩ := ih hM.2.2 hw'
        exact ⟨s :: M1, M2, rfl, ⟨hM.1, hM.2.1, g1⟩⟩
  obtain ⟨M1, M2, e, g⟩ := cutn (pa_W h) hy
  have hr := (pa_red (fa := fa) (fb := fb) (k := k) (u := u) (v := v)).1
  rw [e] at hr
  have e1 := pa_uniq g (red_app_left hr)
  exact ⟨M2, by rw [e, e1], isW_ld g (fun l q => q.1)⟩
/-- safe: in one land, and no bridge between -/
def safe (fa fb : Nat → Nat) (k u v : Nat) : Prop := ld fa fb k u = ld fa fb k v ∧ ∀ t, t ∈ lks (pa fa fb k u v) → ¬ brg fa fb k t
theorem safe_refl : safe fa fb k u u := ⟨rfl, fun t ht => by rw [pa_self] at ht; simp [lks] at ht⟩
theorem safe_symm (h : safe fa fb k u v) : safe fa fb k v u := ⟨h.1.symm, fun t ht => h.2 t ((pa_mem_rev h.1).mp ht)⟩
theorem safe_trans (h1 : safe fa fb k u x) (h2 : safe fa fb k x v) : safe fa fb k u v := ⟨h1.1.trans h2.1, fun t ht => (pa_tri h1.1 h2.1 ht).elim (h1.2 t) (h2.2 t)⟩
theorem brg_up (h : brg fa fb (k + 1) t) (ht : t < k) : brg fa fb k t := ⟨ht, h.2.1, fun ⟨f, h1, h2, h3⟩ => h.2.2 ⟨f, by omega, h2, h3⟩⟩
theorem brg_tree (hT : TL fa fb k) (ht : t < k) : brg fa fb (k + 1) t ↔ brg fa fb k t := by
  refine ⟨fun h => brg_up h ht, fun h => ⟨by omega, h.2.1, fun ⟨f, h1, h2, h3⟩ => ?_⟩⟩
  by_cases e : f = k
  · subst e; exact h2 hT
  · exact h.2.2 ⟨f, by omega, h2, h3⟩
theorem brg_new (hT : TL fa fb k) : brg fa fb (k + 1) k := by
  refine ⟨by omega, hT, fun ⟨f, h1, h2, h3⟩ => ?_⟩
  have := (pa_red (fa := fa) (fb := fb) (k := f) (u := fa f) (v := fb f)).2 k h3
  omega
theorem brg_close (hT : ¬ TL fa fb k) (ht : t < k) : brg fa fb (k + 1) t ↔ brg fa fb k t ∧ t ∉ lks (pa fa fb k (fa k) (fb k)) := by
  constructor
  · intro h
    exact ⟨brg_up h ht, fun q => h.2.2 ⟨k, by omega, hT, q⟩⟩
  · intro ⟨h, q⟩
    refine ⟨by omega, h.2.1, fun ⟨f, h1, h2, h3⟩ => ?_⟩
    by_cases e : f = k
    · subst e; exact q h3
    · exact h.2.2 ⟨f, by omega, h2, h3⟩
theorem ld_close (hT : ¬ TL fa fb k) : ld fa fb (k + 1) u = ld fa fb (k + 1) v ↔ ld fa fb k u = ld fa fb k v := by
  have c := nt_ld hT
  constructor
  · intro h
    simp only [ld] at h
    by_cases c1 : ld fa fb k u = ld fa fb k (fb k)
    · by_cases c2 : ld fa fb k v = ld fa fb k (fb k)
      · exact c1.trans c2.symm
      · rw [if_pos c1, if_neg c2] at h; exact c1.trans (c.symm.trans h)
    · by_cases c2 : ld fa fb k v = ld fa fb k (fb k)
      · rw [if_neg c1, if_pos c2] at h; exact h.trans (c.trans c2.symm)
      · rw [if_neg c1, if_neg c2] at h; exact h
  · intro h; exact ld_mono (by omega) h
theorem safe_close (hT : ¬ TL fa fb k) : safe fa fb (k + 1) u v ↔ safe fa fb k u v ∨ ((∃ y, y ∈ nds (fa k) (pa fa fb k (fa k) (fb k)) ∧ safe fa fb k u y) ∧ ∃ y, y ∈ nds (fa k) (pa fa fb k (fa k) (fb k)) ∧ safe fa fb k v y) := by
  have c := nt_ld hT
  have pk : ∀ {u v : Nat}, ld fa fb k u = ld fa fb k v → pa fa fb (k + 1) u v = pa fa fb k u v := fun h => pa_later h (by omega)
  have small : ∀ {u v t : Nat}, t ∈ lks (pa fa fb k u v) → t < k := fun h => pa_red.2 _ h
  have up : ∀ {u v : Nat}, safe fa fb k u v → safe fa fb (k + 1) u v := fun h => ⟨ld_mono (by omega) h.1, fun t ht hb => by
    rw [pk h.1] at ht
    exact h.2 t ht (brg_up hb (small ht))⟩
  have onw : ∀ {y : Nat}, y ∈ nds (fa k) (pa fa fb k (fa k) (fb k)) → safe fa fb (k + 1) (fa k) y := by
    intro y hy
    obtain ⟨L2, e, hl⟩ := nds_pre c hy
    refine ⟨ld_mono (by omega) hl, fun t ht hb => ?_⟩
    rw [pk hl] at ht
    refine ((brg_close hT (small ht)).mp hb).2 ?_
    rw [e, lks_app, List.mem_append]
    exact Or.inl ht
  constructor
  · intro h
    have hl := (ld_close hT).mp h.1
    by_cases q : ∀ t, t ∈ lks (pa fa fb k u v) → ¬ brg fa fb k t
    · exact Or.inl ⟨hl, q⟩
    · right
      -- a walk that is safe later: its nodes are safe from the start, or the start is safe to a node of the ring's way
      have go : ∀ {M : List (Nat × Nat)} {a b : Nat}, isW fa fb (TZ fa fb k) a M b → (∀ t, t ∈ lks M → ¬ brg fa fb (k + 1) t) → (∃ t, t ∈ lks M ∧ brg fa fb k t) → ∃ y, y ∈ nds (fa k) (pa fa fb k (fa k) (fb k)) ∧ safe fa fb k a y := by
        intro M
        induction M with
        | nil => intro a b _ _ ⟨t, ht, _⟩; simp [lks] at ht
        | cons s M ih =>
          intro a b hM hn ⟨t, ht, hb⟩
          by_cases hs : brg fa fb k s.1
          · have : s.1 ∈ lks (pa fa fb k (fa k) (fb k)) := by
              refine Classical.byContradiction fun z => hn s.1 (by simp [lks]) ?_
              exact (brg_close hT hM.1.1).mpr ⟨hs, z⟩
            exact ⟨a, (nds_link (pa_W c) this hM.2.1).1, safe_refl⟩
          · have hst : safe fa fb k a s.2 := by
              have e : pa fa fb k a s.2 = [s] := (pa_uniq (L := [s]) ⟨hM.1, hM.2.1, rfl⟩ trivial).symm
              refine ⟨ld_E hM.1.1 hM.2.1, fun z hz => ?_⟩
              rw [e] at hz
              simp only [lks, List.map_cons, List.map_nil, List.mem_cons, List.not_mem_nil, or_false] at hz
              rw [hz]; exact hs
            simp only [lks, List.map_cons, List.mem_cons] at ht
            rcases ht with ht | ht
            · rw [ht] at hb; exact absurd hb hs
            · obtain ⟨y, h1, h2⟩ := ih hM.2.2 (fun t ht => hn t (by simp only [lks, List.map_cons, List.mem_cons]; exact Or.inr ht)) ⟨t, ht, hb⟩
              exact ⟨y, h1, safe_trans hst h2⟩
      have hq : ∃ t, t ∈ lks (pa fa fb k u v) ∧ brg fa fb k t := by
        refine Classical.byContradiction fun z => q (fun t ht hb => z ⟨t, ht, hb⟩)
      have hn : ∀ t, t ∈ lks (pa fa fb k u v) → ¬ brg fa fb (k + 1) t := fun t ht => h.2 t (by rw [pk hl]; exact ht)
      refine ⟨go (pa_W hl) hn hq, go (pa_W hl.symm) (fun t ht => hn t ((pa_mem_rev hl).mp ht)) ?_⟩
      obtain ⟨t, ht, hb⟩ := hq
      exact ⟨t, (pa_mem_rev hl).mpr ht, hb⟩
  · intro h
    rcases h with h | ⟨⟨y, hy, h1⟩, ⟨z, hz, h2⟩⟩
    · exact up h
    · exact safe_trans (up h1) (safe_trans (safe_symm (onw hy)) (safe_trans (onw hz) (safe_symm (up h2))))
theorem safe_tree (hT : TL fa fb k) : safe fa fb (k + 1) u v ↔ safe fa fb k u v := by
  constructor
  · intro h
    by_cases hl : ld fa fb k u = ld fa fb k v
    · refine ⟨hl, fun t ht hb => h.2 t ?_ ((brg_tree hT (pa_red.2 _ ht)).mpr hb)⟩
      rw [pa_later hl (by omega)]; exact ht
    · -- the new link lies between
      exfalso
      have hk : k ∈ lks (pa fa fb (k + 1) u v) := by
        refine Classical.byContradiction fun z => hl ?_
        exact isW_ld (TZ_down (pa_W h.1) z) (fun l q => q.1)
      exact h.2 k hk (brg_new hT)
  · intro h
    refine ⟨ld_mono (by omega) h.1, fun t ht hb => ?_⟩
    rw [pa_later h.1 (by omega)] at ht
    exact h.2 t ht ((brg_tree hT (pa_red.2 _ ht)).mp hb)
theorem NI_B (hv : ∀ l, l < k → fa l < n ∧ fb l < n) : NI n (hB n fa fb k) k := by
  induction k with
  | zero => exact NI_0 n 0
  | succ k ih =>
    have h := ih (fun l hl => hv l (by omega))
    unfold hB
    by_cases c : ld fa fb k (fa k) = ld fa fb k (fb k)
    · rw [if_pos c]
      obtain ⟨ha, hb⟩ := hv k (by omega)
      have hS : sB fa fb (hB n fa fb k) k (N_of (hB n fa fb k) (fa k)) = true := by
        unfold sB
        exact List.any_eq_true.mpr ⟨fa k, by simp [nds], by simp⟩
      obtain ⟨K, h1, h2, -, h4⟩ := jn_some (s := hB n fa fb k) (l := k) (h.1 (fa k) ha).1 hS
      rw [h4]
      refine NI_jnK h h1 h2 (fun b hb2 hSb => ?_)
      obtain ⟨y, hy, he⟩ := List.any_eq_true.mp hSb
      have hyn := nds_lt (n := n) (pa_W c) (fun l q => hv l (by have := q.1; omega)) ha y hy
      have he : N_of (hB n fa fb k) y = b := by simpa using he
      rw [← he]
      exact (h.1 y hyn).2
    · rw [if_neg c]; exact NI_mono h (by omega)
theorem blk_same (hv : ∀ l, l < k → fa l < n ∧ fb l < n) (hu : u < n) (hw : v < n) : N_of (hB n fa fb k) u = N_of (hB n fa fb k) v ↔ safe fa fb k u v := by
  induction k generalizing u v with
  | zero =>
    constructor
    · intro h
      have h : u = v := h
      subst h
      exact safe_refl
    · intro h; exact h.1
  | succ k ih =>
    have hv' : ∀ l, l < k → fa l < n ∧ fb l < n := fun l hl => hv l (by omega)
    have ih' := fun {u v : Nat} (hu : u < n) (hw : v < n) => ih (u := u) (v := v) hv' hu hw
    obtain ⟨ha, hb⟩ := hv k (by omega)
    have h := NI_B (n := n) (k := k) hv'
    unfold hB
    by_cases c : ld fa fb k (fa k) = ld fa fb k (fb k)
    · rw [if_pos c]
      have hS : sB fa fb (hB n fa fb k) k (N_of (hB n fa fb k) (fa k)) = true := by
        unfold sB
        exact List.any_eq_true.mpr ⟨fa k, by simp [nds], by simp⟩
      obtain ⟨K, h1, h2, -, h4⟩ := jn_some (s := hB n fa fb k) (l := k) (h.1 (fa k) ha).1 hS
      rw [h4, jnK_same h2, safe_close (fun q => q c), ih' hu hw]
      have mem : ∀ {w : Nat}, w < n → (sB fa fb (hB n fa fb k) k (N_of (hB n fa fb k) w) = true ↔ ∃ y, y ∈ nds (fa k) (pa fa fb k (fa k) (fb k)) ∧ safe fa fb k w y) := by
        intro w hw
        have hyn := nds_lt (n := n) (pa_W c) (fun l q => hv l (by have := q.1; omega)) ha
        unfold sB
        rw [List.any_eq_true]
        constructor
        · intro ⟨y, hy, he⟩
          have he : N_of (hB n fa fb k) y = N_of (hB n fa fb k) w := by simpa using he
          exact ⟨y, hy, (ih' hw (hyn y hy)).mp he.symm⟩
        · intro ⟨y, hy, he⟩
          exact ⟨y, hy, by simpa using ((ih' hw (hyn y hy)).mpr he).symm⟩
      rw [mem hu, mem hw]
    · rw [if_neg c, safe_tree c, ih' hu hw]
end W7
