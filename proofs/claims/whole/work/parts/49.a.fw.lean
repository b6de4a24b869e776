/-! THEORY 10: ways with the steps of a kind alone (all tree links, or the bridges) -/
section W10
variable {fa fb : Nat → Nat} {Z : Nat → Prop} {q : Nat → Bool} {k u v x y w t r z a b : Nat} {L L1 L2 : List (Nat × Nat)}
theorem pa_land (h : ld fa fb k u = ld fa fb k v) (ht : t ∈ lks (pa fa fb k u v)) : ld fa fb k (fa t) = ld fa fb k u := by
  obtain ⟨M1, y, M2, e, -⟩ := cut_at ht
  have hW := pa_W h
  rw [e] at hW
  obtain ⟨z, h1, h2⟩ := hW.split
  have l1 := isW_ld h1 (fun l q => q.1)
  have l2 := ld_E h2.1.1 h2.2.1
  rcases h2.2.1 with ⟨e1, e2⟩ | ⟨e1, e2⟩
  · rw [e1]; exact l1.symm
  · rw [e1]; exact (l1.trans l2).symm
theorem pa_nodup : ∀ {k u v : Nat}, ld fa fb k u = ld fa fb k v → (lks (pa fa fb k u v)).Nodup := by
  intro k
  induction k with
  | zero => intro u v _; exact List.nodup_nil
  | succ k ih =>
    have two : ∀ {a b x y u v : Nat}, ld fa fb k u = ld fa fb k a → ld fa fb k b = ld fa fb k v → ¬ ld fa fb k a = ld fa fb k b → (lks (pa fa fb k u a ++ (k, x) :: pa fa fb k b v)).Nodup := by
      intro a b x y u v h1 h2 hne
      rw [lks_app]
      refine List.nodup_append.mpr ⟨ih h1, ?_, ?_⟩
      · show (k :: lks (pa fa fb k b v)).Nodup
        refine List.nodup_cons.mpr ⟨fun q => ?_, ih h2⟩
        have := pa_red.2 _ q
        omega
      · intro c hc d hd e
        subst e
        have hd : c ∈ k :: lks (pa fa fb k b v) := hd
        rcases List.mem_cons.mp hd with q | q
        · have := pa_red.2 _ hc; omega
        · have e1 := pa_land h1 hc
          have e2 := pa_land h2 q
          exact hne (h1.symm.trans (e1.symm.trans e2))
    intro u v h
    unfold pa
    by_cases c : ld fa fb k (fa k) = ld fa fb k (fb k)
    · rw [if_pos c]
      exact ih ((ld_close (fun z => z c)).mp h)
    · rw [if_neg c]
      by_cases c1 : ld fa fb k u = ld fa fb k (fa k) ∧ ld fa fb k v = ld fa fb k (fb k)
      · rw [if_pos c1]; exact two (y := 0) c1.1 c1.2.symm c
      · rw [if_neg c1]
        by_cases c2 : ld fa fb k u = ld fa fb k (fb k) ∧ ld fa fb k v = ld fa fb k (fa k)
        · rw [if_pos c2]; exact two (y := 0) c2.1 c2.2.symm (fun z => c z.symm)
        · rw [if_neg c2]
          by_cases d : ld fa fb k u = ld fa fb k v
          · exact ih d
          · exfalso
            have hn : k ∉ lks (pa fa fb (k + 1) u v) := by
              unfold pa
              rw [if_neg c, if_neg c1, if_neg c2]
              intro z
              have := pa_red.2 _ z
              omega
            exact d (isW_ld (TZ_down (pa_W h) hn) (fun l q => q.1))
theorem pa_hd_ne (hl : ld fa fb k u = ld fa fb k v) (e : pa fa fb k u v = (t, y) :: L) : t ∉ lks L := by
  have := pa_nodup hl
  rw [e] at this
  exact (List.nodup_cons.mp this).1
/-- a first step's data -/
theorem pa_hd (hl : ld fa fb k u = ld fa fb k v) (e : pa fa fb k u v = (t, y) :: L) : t < k ∧ TL fa fb t ∧ isE fa fb t u y ∧ L = pa fa fb k y v ∧ ld fa fb k y = ld fa fb k v := by
  have hW := pa_W hl
  have hr := (pa_red (fa := fa) (fb := fb) (k := k) (u := u) (v := v)).1
  rw [e] at hW hr
  exact ⟨hW.1.1, hW.1.2, hW.2.1, pa_uniq hW.2.2 (red_tail hr), isW_ld hW.2.2 (fun l q => q.1)⟩
/-- a link between, or not: a step along s changes it iff s is that link -/
theorem X_step {s : Nat} (hl : ld fa fb k y = ld fa fb k v) (hs : s < k) (hT : TL fa fb s) (he : isE fa fb s u y) :
    (s ≠ t → (t ∈ lks (pa fa fb k u v) ↔ t ∈ lks (pa fa fb k y v))) ∧ (s = t → (t ∈ lks (pa fa fb k u v) ↔ ¬ t ∈ lks (pa fa fb k y v))) := by
  have hu : ld fa fb k u = ld fa fb k v := (ld_E hs he).trans hl
  rcases pa_step (v := v) hl hs hT he with e | e
  · have hn := pa_hd_ne hu e
    rw [e]
    constructor
    · intro h
      simp only [lks, List.map_cons, List.mem_cons]
      constructor
      · intro q; rcases q with q | q
        · exact absurd q.symm h
        · exact q
      · intro q; exact Or.inr q
    · intro h
      subst h
      simp only [lks, List.map_cons, List.mem_cons, true_or, true_iff]
      exact hn
  · have hn := pa_hd_ne hl e
    rw [e]
    constructor
    · intro h
      simp only [lks, List.map_cons, List.mem_cons]
      constructor
      · intro q; exact Or.inr q
      · intro q; rcases q with q | q
        · exact absurd q.symm h
        · exact q
    · intro h
      subst h
      simp only [lks, List.map_cons, List.mem_cons, true_or, not_true_eq_false, iff_false]
      exact hn
theorem pa_parity (hu : ld fa fb k u = ld fa fb k r) (hv : ld fa fb k v = ld fa fb k r) : t ∈ lks (pa fa fb k u v) ↔ ¬ (t ∈ lks (pa fa fb k u r) ↔ t ∈ lks (pa fa fb k v r)) := by
  have go : ∀ {L : List (Nat × Nat)} {u : Nat}, isW fa fb (TZ fa fb k) u L r → (t ∈ lks (pa fa fb k u v) ↔ ¬ (t ∈ lks (pa fa fb k u r) ↔ t ∈ lks (pa fa fb k v r))) := by
    intro L
    induction L with
    | nil =>
      intro u h
      cases h
      rw [pa_self]
      rw [← pa_mem_rev hv (l := t)]
      simp [lks]
    | cons s L ih =>
      intro u h
      have hr := isW_ld h.2.2 (fun l q => q.1)
      have i1 := ih h.2.2
      have s1 := X_step (t := t) (v := v) (hr.trans hv.symm) h.1.1 h.1.2 h.2.1
      have s2 := X_step (t := t) (v := r) hr h.1.1 h.1.2 h.2.1
      by_cases c : s.1 = t
      · rw [s1.2 c, s2.2 c, i1]
        by_cases p1 : t ∈ lks (pa fa fb k s.2 r) <;> by_cases p2 : t ∈ lks (pa fa fb k v r) <;> simp [p1, p2]
      · rw [s1.1 c, s2.1 c, i1]
  exact go (pa_W hu)
/-- two ways that meet at t: one way -/
theorem pa_cat (hzb : ld fa fb k z = ld fa fb k b) (hzr : ld fa fb k z = ld fa fb k r) (h1 : pa fa fb k y b = (t, z) :: pa fa fb k z b) (h2 : pa fa fb k z r = (t, y) :: pa fa fb k y r) : pa fa fb k b r = pa fa fb k b z ++ pa fa fb k z r := by
  refine (pa_uniq ((pa_W hzb.symm).app (pa_W hzr)) (red_app pa_red.1 pa_red.1 ?_)).symm
  intro c d hc hd
  rw [h2] at hd
  cases hd
  have hr : red ((t, z) :: pa fa fb k z b) := h1 ▸ pa_red.1
  rw [pa_rev hzb] at hc
  cases hp : pa fa fb k z b with
  | nil => rw [hp] at hc; cases hc
  | cons s M =>
    rw [hp] at hc hr
    simp only [rvW] at hc
    rw [List.getLast?_append] at hc
    cases hc
    exact fun e => hr.1 e.symm
/-- ways with the steps of a kind alone -/
def fw (fa fb : Nat → Nat) (q : Nat → Bool) (k u v : Nat) : List (Nat × Nat) := (pa fa fb k u v).filter (fun s => q s.1)
theorem fw_self : fw fa fb q k u u = [] := by unfold fw; rw [pa_self]; rfl
theorem fw_all (hq : ∀ t, t < k → q t = true) : fw fa fb q k u v = pa fa fb k u v := by
  unfold fw
  rw [List.filter_eq_self]
  intro s hs
  exact hq _ (pa_red.2 _ (List.mem_map_of_mem hs))
theorem fw_mem {s : Nat × Nat} : s ∈ fw fa fb q k u v ↔ s ∈ pa fa fb k u v ∧ q s.1 = true := List.mem_filter
theorem fw_lk : t ∈ lks (fw fa fb q k u v) ↔ t ∈ lks (pa fa fb k u v) ∧ q t = true := by
  unfold lks
  rw [List.mem_map, List.mem_map]
  constructor
  · intro ⟨s, h1, h2⟩
    have := fw_mem.mp h1
    exact ⟨⟨s, this.1, h2⟩, h2 ▸ this.2⟩
  · intro ⟨⟨s, h1, h2⟩, h3⟩
    exact ⟨s, fw_mem.mpr ⟨h1, by rw [h2]; exact h3⟩, h2⟩
theorem fw_nil : fw fa fb q k u v = [] ↔ ∀ t, t ∈ lks (pa fa fb k u v) → q t = false := by
  constructor
  · intro h t ht
    cases hq : q t with
    | false => rfl
    | true =>
      have := fw_lk.mpr ⟨ht, hq⟩
      rw [h] at this
      cases this
  · intro h
    unfold fw
    rw [List.filter_eq_nil_iff]
    intro s hs
    rw [h s.1 (List.mem_map_of_mem hs)]
    exact Bool.false_ne_true
theorem fw_nil_rev (h : ld fa fb k u = ld fa fb k v) : fw fa fb q k v u = [] ↔ fw fa fb q k u v = [] := by
  rw [fw_nil, fw_nil]
  constructor
  · intro g t ht; exact g t ((pa_mem_rev h).mpr ht)
  · intro g t ht; exact g t ((pa_mem_rev h).mp ht)
theorem fw_step (hl : ld fa fb k y = ld fa fb k v) (ht : t < k) (hT : TL fa fb t) (he : isE fa fb t u y) (hq : q t = true) :
    fw fa fb q k u v = (t, y) :: fw fa fb q k y v ∨ fw fa fb q k y v = (t, u) :: fw fa fb q k u v := by
  rcases pa_step (v := v) hl ht hT he with e | e
  · left; unfold fw; rw [e, List.filter_cons, if_pos hq]
  · right; unfold fw; rw [e, List.filter_cons, if_pos hq]
theorem fw_step0 (hl : ld fa fb k y = ld fa fb k v) (ht : t < k) (hT : TL fa fb t) (he : isE fa fb t u y) (hq : q t = false) :
    fw fa fb q k u v = fw fa fb q k y v := by
  have hq' : ¬ q t = true := by rw [hq]; exact Bool.false_ne_true
  rcases pa_step (v := v) hl ht hT he with e | e
  · unfold fw; rw [e, List.filter_cons, if_neg hq']
  · unfold fw; rw [e, List.filter_cons, if_neg hq']
theorem fw_walk (h : isW fa fb (TZ fa fb k) u L x) (hn : ∀ t, t ∈ lks L → q t = false) (hv : ld fa fb k x = ld fa fb k v) : fw fa fb q k u v = fw fa fb q k x v := by
  induction L generalizing u with
  | nil => cases h; rfl
  | cons s L ih =>
    have hs := (isW_ld h.2.2 (fun l q => q.1)).trans hv
    rw [fw_step0 hs h.1.1 h.1.2 h.2.1 (hn _ (by simp [lks]))]
    exact ih h.2.2 (fun t ht => hn t (by simp only [lks, List.map_cons, List.mem_cons]; exact Or.inr ht))
theorem fw_same (hl : ld fa fb k u = ld fa fb k x) (h : fw fa fb q k u x = []) (hv : ld fa fb k x = ld fa fb k v) : fw fa fb q k u v = fw fa fb q k x v := fw_walk (pa_W hl) (fw_nil.mp h) hv
/-- the first step of a kind: the node ahead of it -/
theorem fw_hd (hl : ld fa fb k u = ld fa fb k v) (e : fw fa fb q k u v = (t, y) :: L) :
    ∃ z, ld fa fb k u = ld fa fb k z ∧ fw fa fb q k u z = [] ∧ pa fa fb k z v = (t, y) :: pa fa fb k y v ∧ L = fw fa fb q k y v ∧ q t = true ∧ t < k ∧ TL fa fb t ∧ isE fa fb t z y ∧ ld fa fb k y = ld fa fb k v ∧ pa fa fb k u v = pa fa fb k u z ++ pa fa fb k z v := by
  unfold fw at e
  rw [List.filter_eq_cons_iff] at e
  obtain ⟨L1, L2, e1, h1, h2, h3⟩ := e
  obtain ⟨z, g1, g2, g3, g4⟩ := pa_cut hl e1
  have hd := pa_hd g4 g2.symm
  refine ⟨z, g3, ?_, ?_, ?_, h2, hd.1, hd.2.1, hd.2.2.1, hd.2.2.2.2, ?_⟩
  · rw [fw_nil]
    intro s hs
    rw [← g1] at hs
    obtain ⟨p, hp, rfl⟩ := List.mem_map.mp hs
    have := h1 p hp
    simpa using this
  · rw [← g2, hd.2.2.2.1]
  · rw [← h3, hd.2.2.2.1]; rfl
  · rw [e1, g1, ← g2]
/-- the way up: from the deeper of two the first step is the same as that towards the other -/
theorem fw_climb (ha : ld fa fb k a = ld fa fb k r) (hb : ld fa fb k b = ld fa fb k r) (hle : (fw fa fb q k b r).length ≤ (fw fa fb q k a r).length) (hne : ¬ fw fa fb q k a b = []) :
    ∃ t y, fw fa fb q k a r = (t, y) :: fw fa fb q k y r ∧ fw fa fb q k a b = (t, y) :: fw fa fb q k y b ∧ ld fa fb k y = ld fa fb k r := by
  cases hp : fw fa fb q k a r with
  | nil =>
    rw [hp] at hle
    have hbr : fw fa fb q k b r = [] := List.length_eq_zero_iff.mp (Nat.le_zero.mp hle)
    exfalso
    apply hne
    rw [fw_same ha hp hb.symm, fw_nil_rev hb]
    exact hbr
  | cons s M =>
    obtain ⟨t, y⟩ := s
    obtain ⟨z, g1, g2, g3, g4, g5, g6, g7, g8, g9, g10⟩ := fw_hd ha hp
    subst g4
    refine ⟨t, y, rfl, ?_, g9⟩
    have hzb : ld fa fb k z = ld fa fb k b := g1.symm.trans (ha.trans hb.symm)
    have hyb : ld fa fb k y = ld fa fb k b := g9.trans hb.symm
    have eab : fw fa fb q k a b = fw fa fb q k z b := fw_same g1 g2 hzb
    rcases pa_step (v := b) hyb g6 g7 g8 with e | e
    · rw [eab]; unfold fw; rw [e, List.filter_cons, if_pos g5]
    · exfalso
      have hc := pa_cat hzb (g1.symm.trans ha) e g3
      have hlen : (fw fa fb q k b r).length = (fw fa fb q k b z).length + (fw fa fb q k z r).length := by
        unfold fw; rw [hc, List.filter_append, List.length_append]
      have haz : fw fa fb q k a r = fw fa fb q k z r := fw_same g1 g2 (g1.symm.trans ha)
      rw [haz] at hle
      have h0 : (fw fa fb q k b z).length = 0 := by omega
      have h1 := List.length_eq_zero_iff.mp h0
      apply hne
      rw [eab]
      exact (fw_nil_rev hzb.symm).mpr h1
/-- from the other end: the last step -/
theorem fw_rev_len (h : ld fa fb k u = ld fa fb k v) : (fw fa fb q k v u).length = (fw fa fb q k u v).length := by
  have e : ∀ {L : List (Nat × Nat)}, (L.filter (fun s => q s.1)).length = ((lks L).filter q).length := by
    intro L
    induction L with
    | nil => rfl
    | cons s L ih =>
      show _ = ((s.1 :: lks L).filter q).length
      rw [List.filter_cons, List.filter_cons]
      by_cases c : q s.1 = true
      · rw [if_pos c, if_pos c, List.length_cons, List.length_cons, ih]
      · rw [if_neg c, if_neg c, ih]
  unfold fw
  rw [e, e, pa_rev h, lks_rv, List.filter_reverse, List.length_reverse]
theorem fw_len_same (hl : ld fa fb k u = ld fa fb k x) (h : fw fa fb q k u x = []) (hv : ld fa fb k x = ld fa fb k v) : (fw fa fb q k v u).length = (fw fa fb q k v x).length := by
  rw [fw_rev_len (hl.trans hv), fw_rev_len hv, fw_same hl h hv]
/-- a step back: away from b along t -/
theorem fw_cat2 (hy : ld fa fb k y = ld fa fb k b) (ht : t < k) (hT : TL fa fb t) (he : isE fa fb t z y) (hn : t ∉ lks (pa fa fb k z b)) : pa fa fb k y b = (t, z) :: pa fa fb k z b := by
  rcases pa_step (v := b) hy ht hT he with e | e
  · rw [e] at hn
    exact absurd (by simp [lks]) hn
  · exact e
end W10
