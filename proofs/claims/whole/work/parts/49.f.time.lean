/-! THEORY 15: since when -/
section W15
variable {fa fb : Nat → Nat} {n m k u v w x y t j a b p : Nat} {L M : List (Nat × Nat)}
theorem hC_s (k t : Nat) : hC fa fb (k + 1) t = if ld fa fb k (fa k) = ld fa fb k (fb k) then (if t = k then (k : Int) else if (lks (pa fa fb k (fa k) (fb k))).contains t = true ∧ hC fa fb k t = -1 then (k : Int) else hC fa fb k t) else hC fa fb k t := rfl
theorem hP_s (k : Nat) : hP fa fb (k + 1) = if ld fa fb k (fa k) = ld fa fb k (fb k) then jn (k + 1) (hP fa fb k) (sP fa fb (hP fa fb k) k) k else hP fa fb k := rfl
theorem hB_s (n k : Nat) : hB n fa fb (k + 1) = if ld fa fb k (fa k) = ld fa fb k (fb k) then jn n (hB n fa fb k) (sB fa fb (hB n fa fb k) k) k else hB n fa fb k := rfl
theorem hL_s (n k : Nat) : hL n fa fb (k + 1) = if ld fa fb k (fa k) = ld fa fb k (fb k) then hL n fa fb k else jn n (hL n fa fb k) (sL fa fb (hL n fa fb k) k) k := rfl
theorem hR_s (n k v : Nat) : hR n fa fb (k + 1) v = if ¬ ld fa fb k (fa k) = ld fa fb k (fb k) ∧ (ld fa fb k v = ld fa fb k (fa k) ∨ ld fa fb k v = ld fa fb k (fb k)) then (if N_of (hL n fa fb (k + 1)) (fa k) = N_of (hL n fa fb k) (fa k) then hR n fa fb k (fa k) else hR n fa fb k (fb k)) else hR n fa fb k v := rfl
theorem hC_ge : hC fa fb m t = -1 ∨ ((t : Int) ≤ hC fa fb m t ∧ hC fa fb m t < m) := by
  induction m with
  | zero => exact Or.inl rfl
  | succ m ih =>
    unfold hC
    by_cases c : ld fa fb m (fa m) = ld fa fb m (fb m)
    · rw [if_pos c]
      by_cases e : t = m
      · rw [if_pos e]; right; omega
      · rw [if_neg e]
        by_cases d : (lks (pa fa fb m (fa m) (fb m))).contains t = true ∧ hC fa fb m t = -1
        · rw [if_pos d]
          right
          have := pa_red.2 t (by simpa using d.1)
          omega
        · rw [if_neg d]
          rcases ih with h | h
          · exact Or.inl h
          · right; omega
    · rw [if_neg c]
      rcases ih with h | h
      · exact Or.inl h
      · right; omega
/-- what was closed at a time -/
theorem hC_time (hk : k ≤ m) (ht : t < k) : hC fa fb k t ≠ -1 ↔ hC fa fb m t ≠ -1 ∧ hC fa fb m t < k := by
  induction hk with
  | refl =>
    rcases hC_ge (fa := fa) (fb := fb) (m := k) (t := t) with h | h
    · rw [h]; omega
    · omega
  | @step m hm ih =>
    rw [ih]
    have e : hC fa fb (m + 1) t = hC fa fb m t ∨ (hC fa fb m t = -1 ∧ hC fa fb (m + 1) t = m) := by
      have tm : t ≠ m := by have : k ≤ m := hm; omega
      rw [hC_s]
      by_cases c : ld fa fb m (fa m) = ld fa fb m (fb m)
      · rw [if_pos c, if_neg tm]
        by_cases d : (lks (pa fa fb m (fa m) (fb m))).contains t = true ∧ hC fa fb m t = -1
        · rw [if_pos d]; exact Or.inr ⟨d.2, rfl⟩
        · rw [if_neg d]; exact Or.inl rfl
      · rw [if_neg c]; exact Or.inl rfl
    have hm' : k ≤ m := hm
    rcases e with e | ⟨e1, e2⟩
    · rw [e]
    · rw [e1, e2]; omega
theorem land_time (hk : k ≤ m) (h : ld fa fb m u = ld fa fb m v) : ld fa fb k u = ld fa fb k v ↔ ∀ t, t ∈ lks (pa fa fb m u v) → t < k := by
  constructor
  · intro g t ht
    rw [pa_later g hk] at ht
    exact pa_red.2 t ht
  · intro g
    exact isW_ld (Z := fun l => l < k) ((pa_W h).mono (fun l hl _ => g l hl)) (fun l q => q)
theorem safe_time (hk : k ≤ m) (h : ld fa fb m u = ld fa fb m v) : safe fa fb k u v ↔ ∀ t, t ∈ lks (pa fa fb m u v) → hC fa fb m t ≠ -1 ∧ hC fa fb m t < k := by
  constructor
  · intro g t ht
    rw [pa_later g.1 hk] at ht
    have hl := pa_red.2 t ht
    refine (hC_time hk hl).mp (fun e => g.2 t ht ((hC_brg hl).mp e))
  · intro g
    have hlt : ∀ t, t ∈ lks (pa fa fb m u v) → t < k := by
      intro t ht
      have g1 := g t ht
      rcases hC_ge (fa := fa) (fb := fb) (m := m) (t := t) with c | c
      · exact absurd c g1.1
      · omega
    have hl := (land_time hk h).mpr hlt
    refine ⟨hl, fun t ht hb => ?_⟩
    have htk := pa_red.2 t ht
    rw [← pa_later hl hk] at ht
    exact (hC_time hk htk).mpr (g t ht) ((hC_brg htk).mpr hb)
/-- a bridge is a part of its own -/
theorem brg_alone (hb : brg fa fb k t) (ha : a < k) (h : pe fa fb k t = pe fa fb k a) : a = t := by
  have := pe_fine (fa := fa) (fb := fb) (k := k) (C := fun l => l = t) (fun f hf hn s hs => ?_) hb.1 ha h
  · exact this.mp rfl
  · constructor
    · intro e
      exact absurd ⟨f, hf, hn, e ▸ hs⟩ hb.2.2
    · intro e
      rw [e] at hn
      exact absurd hb.2.1 hn
/-- which links have an end, unlike w, that is reached without w: whole parts of them -/
theorem part_side (ha : a < k) (hb : b < k) (h : pe fa fb k a = pe fa fb k b) :
    ((fa a ≠ w ∧ Rch fa fb (AV fa fb k w) p (fa a)) ∨ (fb a ≠ w ∧ Rch fa fb (AV fa fb k w) p (fb a))) ↔ ((fa b ≠ w ∧ Rch fa fb (AV fa fb k w) p (fa b)) ∨ (fb b ≠ w ∧ Rch fa fb (AV fa fb k w) p (fb b))) := by
  have Cend : ∀ {l c d : Nat}, l < k → isE fa fb l c d → c ≠ w → (((fa l ≠ w ∧ Rch fa fb (AV fa fb k w) p (fa l)) ∨ (fb l ≠ w ∧ Rch fa fb (AV fa fb k w) p (fb l))) ↔ Rch fa fb (AV fa fb k w) p c) := by
    intro l c d hl he hc
    have both : d ≠ w → (Rch fa fb (AV fa fb k w) p c ↔ Rch fa fb (AV fa fb k w) p d) := fun hd => ⟨fun s => s.trans (Rch.one (av_of hl he hc hd) he), fun s => s.trans (Rch.one (av_of hl he.symm hd hc) he.symm)⟩
    constructor
    · intro hC
      rcases he with ⟨rfl, rfl⟩ | ⟨rfl, rfl⟩
      · rcases hC with ⟨_, s⟩ | ⟨hd, s⟩
        · exact s
        · exact (both hd).mpr s
      · rcases hC with ⟨hd, s⟩ | ⟨_, s⟩
        · exact (both hd).mpr s
        · exact s
    · intro s
      rcases he with ⟨rfl, rfl⟩ | ⟨rfl, rfl⟩
      · exact Or.inl ⟨hc, s⟩
      · exact Or.inr ⟨hc, s⟩
  have Srch : ∀ {c d : Nat}, Rch fa fb (AV fa fb k w) c d → (Rch fa fb (AV fa fb k w) p c ↔ Rch fa fb (AV fa fb k w) p d) := fun h => ⟨fun s => s.trans h, fun s => s.trans h.symm⟩
  refine pe_fine (C := fun l => (fa l ≠ w ∧ Rch fa fb (AV fa fb k w) p (fa l)) ∨ (fb l ≠ w ∧ Rch fa fb (AV fa fb k w) p (fb l))) ?_ ha hb h
  intro f hf hnf t ht
  have hld := ld_mono (Nat.le_of_lt hf) (nt_ld hnf)
  rw [← cov_pa hf hnf] at ht
  obtain ⟨L1, y, L2, e, -⟩ := cut_at ht
  have hW := pa_W hld
  rw [e] at hW
  obtain ⟨c, g1, g2⟩ := hW.split
  have hne := TL_ne g2.1.2 g2.2.1
  by_cases h1 : w ∈ nds (fa f) L1
  · have h2 : w ∉ nds y L2 := fun q => pa_simple hld e h1 q
    have r := av_walk g2.2.2 (fun l q => q.1) h2
    have hy : y ≠ w := fun q => h2 (by simp [nds, q])
    have hfb : fb f ≠ w := fun q => h2 (q ▸ nds_end g2.2.2)
    rw [Cend g2.1.1 g2.2.1.symm hy, Cend hf (Or.inr ⟨rfl, rfl⟩ : isE fa fb f (fb f) (fa f)) hfb]
    exact Srch r
  · have hfa : fa f ≠ w := fun q => h1 (by simp [nds, q])
    have r := av_walk g1 (fun l q => q.1) h1
    have hc : c ≠ w := fun q => h1 (q ▸ nds_end g1)
    rw [Cend g2.1.1 g2.2.1 hc, Cend hf (Or.inl ⟨rfl, rfl⟩ : isE fa fb f (fa f) (fb f)) hfa]
    exact (Srch r).symm
/-- a link is at a node -/
def atN (fa fb : Nat → Nat) (l u : Nat) : Prop := fa l = u ∨ fb l = u
theorem atN_E (h : atN fa fb t u) : ∃ y, isE fa fb t u y := by
  rcases h with h | h
  · exact ⟨_, Or.inl ⟨h, rfl⟩⟩
  · exact ⟨_, Or.inr ⟨rfl, h⟩⟩
theorem E_atN (h : isE fa fb t u y) : atN fa fb t u := by
  rcases h with ⟨e, _⟩ | ⟨_, e⟩
  · exact Or.inl e
  · exact Or.inr e
/-- double-safe: links of one part, no bridge, at both -/
def dsf (fa fb : Nat → Nat) (k u v : Nat) : Prop := ∃ a b, a < k ∧ b < k ∧ atN fa fb a u ∧ atN fa fb b v ∧ pe fa fb k a = pe fa fb k b ∧ ¬ brg fa fb k a
theorem reach_b (hb : b < k) (hv : v ≠ w) (hat : atN fa fb b v) (h : (fa b ≠ w ∧ Rch fa fb (AV fa fb k w) u (fa b)) ∨ (fb b ≠ w ∧ Rch fa fb (AV fa fb k w) u (fb b))) : Rch fa fb (AV fa fb k w) u v := by
  have key : ∀ {c d : Nat}, isE fa fb b c d → c ≠ w → Rch fa fb (AV fa fb k w) u c → (c = v ∨ d = v) → Rch fa fb (AV fa fb k w) u v := by
    intro c d he hc hr ho
    rcases ho with rfl | rfl
    · exact hr
    · exact hr.trans (Rch.one (av_of hb he hc hv) he)
  rcases h with ⟨h1, h2⟩ | ⟨h1, h2⟩
  · exact key (Or.inl ⟨rfl, rfl⟩) h1 h2 hat
  · exact key (Or.inr ⟨rfl, rfl⟩) h1 h2 hat.symm
theorem dsf_iff (hne : ∀ l, l < k → fa l ≠ fb l) (huv : u ≠ v) : dsf fa fb k u v ↔ ld fa fb k u = ld fa fb k v ∧ ∀ t, t ∈ lks (pa fa fb k u v) → ¬ brg fa fb k t ∧ ∀ s, s ∈ lks (pa fa fb k u v) → pe fa fb k t = pe fa fb k s := by
  constructor
  · intro ⟨a, b, ha, hb, hau, hbv, hab, hnb⟩
    have hl : ld fa fb k u = ld fa fb k v := by
      have ends : ∀ {l c : Nat}, l < k → atN fa fb l c → (ld fa fb k (fa l) = ld fa fb k c) := by
        intro l c hl hc
        rcases hc with h | h
        · rw [h]
        · rw [← h]; exact ld_link hl
      have := pe_fine (fa := fa) (fb := fb) (k := k) (C := fun l => ld fa fb k (fa l) = ld fa fb k u) (fun f hf hn s hs => ?_) ha hb hab
      · have h2 := this.mp (ends ha hau)
        exact h2.symm.trans (ends hb hbv)
      · rw [← cov_pa hf hn] at hs
        have := pa_land (ld_mono (Nat.le_of_lt hf) (nt_ld hn)) hs
        rw [this]
    refine ⟨hl, ?_⟩
    -- the first link is of a's part
    cases hp : pa fa fb k u v with
    | nil => intro t ht; simp [lks] at ht
    | cons s0 L0 =>
      obtain ⟨c0, y0⟩ := s0
      have hd := pa_hd hl hp
      have hc0 : pe fa fb k c0 = pe fa fb k a := by
        obtain ⟨pp, hpp⟩ := atN_E hau
        have hy0 : y0 ≠ u := (TL_ne hd.2.1 hd.2.2.1).symm
        have hpu : pp ≠ u := by
          intro q
          have := hne a ha
          rcases hpp with ⟨e1, e2⟩ | ⟨e1, e2⟩ <;> rw [e1, e2, q] at this <;> exact this rfl
        refine (part_iff hd.1 ha hd.2.2.1 hpp hy0 hpu).mpr ?_
        have r1 : Rch fa fb (AV fa fb k u) y0 v := by
          have hw : u ∉ nds y0 L0 := fun q => pa_simple (L1 := []) hl hp (by simp [nds]) q
          rw [hd.2.2.2.1] at hw
          exact av_walk (pa_W hd.2.2.2.2) (fun l q => q.1) hw
        have r2 : Rch fa fb (AV fa fb k u) v pp := by
          have hb1 : (fa b ≠ u ∧ Rch fa fb (AV fa fb k u) v (fa b)) ∨ (fb b ≠ u ∧ Rch fa fb (AV fa fb k u) v (fb b)) := by
            rcases hbv with h | h
            · left; rw [h]; exact ⟨fun q => huv q.symm, Rch.refl⟩
            · right; rw [h]; exact ⟨fun q => huv q.symm, Rch.refl⟩
          have ha1 := (part_side (w := u) (p := v) ha hb hab).mpr hb1
          rcases hpp with ⟨e1, e2⟩ | ⟨e1, e2⟩
          · rcases ha1 with ⟨q, _⟩ | ⟨_, q⟩
            · exact absurd e1 q
            · rw [← e2]; exact q
          · rcases ha1 with ⟨_, q⟩ | ⟨q, _⟩
            · rw [← e1]; exact q
            · exact absurd e2 q
        exact r1.trans r2
      have all : ∀ t, t ∈ lks (pa fa fb k u v) → pe fa fb k t = pe fa fb k a := by
        have go : ∀ (B A : List (Nat × Nat)) (s : Nat × Nat), pa fa fb k u v = A ++ s :: B → pe fa fb k s.1 = pe fa fb k a → ∀ t, t ∈ lks B → pe fa fb k t = pe fa fb k a := by
          intro B
          induction B with
          | nil => intro A s _ _ t ht; simp [lks] at ht
          | cons s2 B ih =>
            intro A s e hs
            have h2 : pe fa fb k s2.1 = pe fa fb k a := by
              refine Classical.byContradiction fun hne2 => ?_
              have hsep := (sep_part (t1 := s.1) (w := s.2) (t2 := s2.1) (y := s2.2) hl hne e).mp (fun q => hne2 (q.symm.trans hs))
              have ha1 : (fa a ≠ s.2 ∧ Rch fa fb (AV fa fb k s.2) u (fa a)) ∨ (fb a ≠ s.2 ∧ Rch fa fb (AV fa fb k s.2) u (fb a)) := by
                rcases hau with h | h
                · left; rw [h]; exact ⟨fun q => hsep.1 q.symm, Rch.refl⟩
                · right; rw [h]; exact ⟨fun q => hsep.1 q.symm, Rch.refl⟩
              have hb1 := (part_side (w := s.2) (p := u) ha hb hab).mp ha1
              exact hsep.2.2 (reach_b hb (fun q => hsep.2.1 q.symm) hbv hb1)
            have rest := ih (A ++ [s]) s2 (by rw [e]; simp) h2
            intro t ht
            simp only [lks, List.map_cons, List.mem_cons] at ht
            rcases ht with ht | ht
            · rw [ht]; exact h2
            · exact rest t ht
        intro t ht
        rw [hp] at ht
        simp only [lks, List.map_cons, List.mem_cons] at ht
        rcases ht with ht | ht
        · rw [ht]; exact hc0
        · exact go L0 [] (c0, y0) hp hc0 t ht
      intro t ht
      rw [← hp] at ht ⊢
      refine ⟨fun hbt => ?_, fun s hs => (all t ht).trans (all s hs).symm⟩
      have := brg_alone hbt ha (all t ht)
      exact hnb (this ▸ hbt)
  · intro ⟨hl, h⟩
    cases hp : pa fa fb k u v with
    | nil => exact absurd hp (pa_ne hl huv)
    | cons s0 L0 =>
      have hd := pa_hd (t := s0.1) (y := s0.2) hl hp
      have hm0 : s0.1 ∈ lks (pa fa fb k u v) := by rw [hp]; simp [lks]
      cases hp2 : pa fa fb k v u with
      | nil => exact absurd hp2 (pa_ne hl.symm (fun q => huv q.symm))
      | cons s1 L1 =>
        have hd1 := pa_hd (t := s1.1) (y := s1.2) hl.symm hp2
        have hm1 : s1.1 ∈ lks (pa fa fb k u v) := (pa_mem_rev hl).mp (by rw [hp2]; simp [lks])
        exact ⟨s0.1, s1.1, hd.1, hd1.1, E_atN hd.2.2.1, E_atN hd1.2.2.1, (h _ hm0).2 _ hm1, (h _ hm0).1⟩
/-! names of parts by time -/
theorem hP_en1 : N_en (hP fa fb k) x = -1 ↔ N_of (hP fa fb k) x = x := by
  obtain ⟨h, hf⟩ := hP_fresh (fa := fa) (fb := fb) (k := k)
  rcases Nat.lt_or_ge x k with c | c
  · exact h.2.1 x c
  · have := hf x c
    rw [this.1, this.2.1]; simp
theorem hP_step : N_en (hP fa fb (k + 1)) x = N_en (hP fa fb k) x ∧ N_it (hP fa fb (k + 1)) x = N_it (hP fa fb k) x ∨ N_en (hP fa fb k) x = -1 ∧ N_en (hP fa fb (k + 1)) x = k := by
  obtain ⟨h, hf⟩ := hP_fresh (fa := fa) (fb := fb) (k := k)
  rw [hP_s]
  by_cases c : ld fa fb k (fa k) = ld fa fb k (fb k)
  · rw [if_pos c]
    have hS : sP fa fb (hP fa fb k) k k = true := by simp [sP]
    obtain ⟨K, h1, h2, -, h4⟩ := jn_some (N := k + 1) (s := hP fa fb k) (l := k) (by omega) hS
    rw [h4]
    show (if sP fa fb (hP fa fb k) k x = true ∧ x ≠ K then (k : Int) else N_en (hP fa fb k) x) = N_en (hP fa fb k) x ∧ (if sP fa fb (hP fa fb k) k x = true ∧ x ≠ K then (K : Int) else N_it (hP fa fb k) x) = N_it (hP fa fb k) x ∨ N_en (hP fa fb k) x = -1 ∧ (if sP fa fb (hP fa fb k) k x = true ∧ x ≠ K then (k : Int) else N_en (hP fa fb k) x) = k
    by_cases d : sP fa fb (hP fa fb k) k x = true ∧ x ≠ K
    · right
      rw [if_pos d]
      refine ⟨?_, rfl⟩
      rw [hP_en1]
      have d1 := d.1
      simp only [sP, Bool.or_eq_true, beq_iff_eq] at d1
      rcases d1 with d1 | d1
      · rw [d1]; exact (hf k (Nat.le_refl _)).1
      · obtain ⟨t, ht, he⟩ := List.any_eq_true.mp d1
        have he : N_of (hP fa fb k) t = x := by simpa using he
        rw [← he]
        exact (h.1 t (pa_red.2 t ht)).2
    · left
      rw [if_neg d, if_neg d]
      exact ⟨rfl, rfl⟩
  · rw [if_neg c]; exact Or.inl ⟨rfl, rfl⟩
theorem hP_keep (hk : k ≤ m) (h : N_en (hP fa fb k) x ≠ -1) : N_en (hP fa fb m) x = N_en (hP fa fb k) x ∧ N_it (hP fa fb m) x = N_it (hP fa fb k) x := by
  induction hk with
  | refl => exact ⟨rfl, rfl⟩
  | @step m _ ih =>
    rcases hP_step (fa := fa) (fb := fb) (k := m) (x := x) with g | g
    · rw [g.1, g.2]; exact ih
    · rw [ih.1] at g; exact absurd g.1 h
/-- a name lives till its end, then it is what it went into -/
theorem hP_live {e : Nat} (he : N_en (hP fa fb m) x = e) : e < m ∧ (∀ k, k ≤ e → N_of (hP fa fb k) x = x) ∧ N_en (hP fa fb (e + 1)) x = e ∧ N_it (hP fa fb (e + 1)) x = N_it (hP fa fb m) x := by
  induction m with
  | zero => have : (-1 : Int) = e := he; omega
  | succ m ih =>
    rcases hP_step (fa := fa) (fb := fb) (k := m) (x := x) with g | g
    · rw [g.1] at he
      obtain ⟨i1, i2, i3, i4⟩ := ih he
      exact ⟨by omega, i2, i3, by rw [i4, g.2]⟩
    · rw [g.2] at he
      have hem : e = m := by omega
      subst hem
      refine ⟨by omega, fun k hk => ?_, g.2, rfl⟩
      rw [← hP_en1]
      refine Classical.byContradiction fun c => ?_
      have := hP_keep hk c
      rw [g.1] at this
      exact c this.1.symm
theorem hP_dead (h : N_en (hP fa fb m) x = -1) (hk : k ≤ m) : N_of (hP fa fb k) x = x := by
  rw [← hP_en1]
  refine Classical.byContradiction fun c => ?_
  have := hP_keep hk c
  rw [h] at this
  exact c this.1.symm
theorem hP_mono (hk : k ≤ j) (h : N_of (hP fa fb k) a = N_of (hP fa fb k) b) : N_of (hP fa fb j) a = N_of (hP fa fb j) b := by
  induction hk with
  | refl => exact h
  | @step j _ ih =>
    rw [hP_s]
    by_cases c : ld fa fb j (fa j) = ld fa fb j (fb j)
    · rw [if_pos c]
      have hS : sP fa fb (hP fa fb j) j j = true := by simp [sP]
      obtain ⟨K, h1, h2, -, h4⟩ := jn_some (N := j + 1) (s := hP fa fb j) (l := j) (by omega) hS
      rw [h4, jnK_same h2]
      exact Or.inl ih
    · rw [if_neg c]; exact ih
theorem hP_into {e : Nat} (hx : x < m) (he : N_en (hP fa fb m) x = e) : ∃ i : Nat, N_it (hP fa fb m) x = i ∧ i < m ∧ (∀ k, e < k → N_of (hP fa fb k) x = N_of (hP fa fb k) i) ∧ N_of (hP fa fb (e + 1)) i = i ∧ (N_en (hP fa fb m) i = -1 ∨ (e : Int) < N_en (hP fa fb m) i) := by
  obtain ⟨h, hf⟩ := hP_fresh (fa := fa) (fb := fb) (k := m)
  have hd : N_of (hP fa fb m) x ≠ x := fun q => by
    have := (hP_en1 (fa := fa) (fb := fb) (k := m) (x := x)).mpr q
    omega
  obtain ⟨e2, i, g1, g2, g3, g4, g5, g6⟩ := h.2.2.2 x hx hd
  obtain ⟨l1, l2, l3, l4⟩ := hP_live he
  have hxe : x < e + 1 := by
    rcases Nat.lt_or_ge x (e + 1) with c | c
    · exact c
    · have := (hP_fresh (fa := fa) (fb := fb) (k := e + 1)).2 x c
      rw [this.2.1] at l3; omega
  obtain ⟨h', hf'⟩ := hP_fresh (fa := fa) (fb := fb) (k := e + 1)
  have hd' : N_of (hP fa fb (e + 1)) x ≠ x := fun q => by
    have := (hP_en1 (fa := fa) (fb := fb) (k := e + 1) (x := x)).mpr q
    omega
  obtain ⟨e3, i', q1, q2, q3, q4, q5, q6⟩ := h'.2.2.2 x hxe hd'
  have hii : i' = i := by rw [l4] at q3; omega
  subst hii
  have he3 : e3 = e := by omega
  subst he3
  have hlive : N_of (hP fa fb (e3 + 1)) i' = i' := by
    rcases q6 with q6 | q6
    · exact q6
    · exfalso
      -- it would have ended later than now
      cases hen : N_en (hP fa fb (e3 + 1)) i' with
      | ofNat z =>
        have := (hP_live (m := e3 + 1) (x := i') (e := z) hen).1
        rw [hen] at q6
        have : (e3 : Int) < (z : Int) := q6
        omega
      | negSucc z => rw [hen] at q6; omega
  refine ⟨i', g3, g4, fun k hk => hP_mono (show e3 + 1 ≤ k by omega) q5.symm, hlive, ?_⟩
  rcases g6 with g6 | g6
  · exact Or.inl (hP_en1.mpr g6)
  · right; omega
/-- steps that are left on the way from a name on -/
noncomputable def rkN (N : Nat) (s : NSt) (x : Nat) : Nat := if N_en s x = -1 then 0 else cnt (fun c => N_en s c = -1 ∨ N_en s x < N_en s c) N
theorem rkN_step {N i : Nat} {s : NSt} (hi : i < N) (hx : N_en s x ≠ -1) (h : N_en s i = -1 ∨ N_en s x < N_en s i) : rkN N s i < rkN N s x := by
  unfold rkN
  rw [if_neg hx]
  by_cases c : N_en s i = -1
  · rw [if_pos c]
    exact cnt_pos hi h
  · rw [if_neg c]
    have h' : N_en s x < N_en s i := h.elim (fun z => absurd z c) (fun z => z)
    have e : cnt (fun c => (N_en s c = -1 ∨ N_en s i < N_en s c) ∨ c = i) N = cnt (fun c => N_en s c = -1 ∨ N_en s i < N_en s c) N + 1 := by
      rw [cnt_or hi, bb_t]
      intro z
      rcases z with z | z
      · exact c z
      · omega
    have : cnt (fun c => (N_en s c = -1 ∨ N_en s i < N_en s c) ∨ c = i) N ≤ cnt (fun c => N_en s c = -1 ∨ N_en s x < N_en s c) N := by
      refine cnt_imp (fun c _ hc => ?_)
      rcases hc with (hc | hc) | hc
      · exact Or.inl hc
      · right; omega
      · rw [hc]; exact h
    omega
theorem rkN_lt {N : Nat} {s : NSt} (hx : x < N) : rkN N s x < N := by
  unfold rkN
  by_cases c : N_en s x = -1
  · rw [if_pos c]; omega
  · rw [if_neg c]
    have e : cnt (fun c => (N_en s c = -1 ∨ N_en s x < N_en s c) ∨ c = x) N = cnt (fun c => N_en s c = -1 ∨ N_en s x < N_en s c) N + 1 := by
      rw [cnt_or hx, bb_t]
      intro z
      rcases z with z | z
      · exact c z
      · omega
    have := cnt_le (P := fun c => (N_en s c = -1 ∨ N_en s x < N_en s c) ∨ c = x) (n := N)
    omega
end W15
