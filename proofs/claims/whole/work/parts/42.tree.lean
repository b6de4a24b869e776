/-! THEORY 3: a step more or less; ways together; what a removed link or node leaves -/
section W3
variable {fa fb : Nat → Nat} {Z : Nat → Prop} {k u v x y w t : Nat} {L L1 L2 : List (Nat × Nat)}
theorem TL_ne (h : TL fa fb t) (he : isE fa fb t u y) : u ≠ y := by
  intro q
  subst q
  rcases he with ⟨a, b⟩ | ⟨a, b⟩ <;> exact h (by rw [a, b])
theorem isE_fix (hT : TL fa fb t) (h : isE fa fb t u x) (h2 : isE fa fb t u y) : x = y := by
  rcases h with ⟨a, b⟩ | ⟨a, b⟩ <;> rcases h2 with ⟨c, d⟩ | ⟨c, d⟩
  · exact b.symm.trans d
  · exact absurd (by rw [a, d]) hT
  · exact absurd (by rw [c, b]) hT
  · exact a.symm.trans c
theorem pa_step (hl : ld fa fb k y = ld fa fb k v) (ht : t < k) (hT : TL fa fb t) (he : isE fa fb t u y) :
    pa fa fb k u v = (t, y) :: pa fa fb k y v ∨ pa fa fb k y v = (t, u) :: pa fa fb k u v := by
  have hW := pa_W hl
  cases hp : pa fa fb k y v with
  | nil =>
    left
    rw [hp] at hW
    exact (pa_uniq (L := [(t, y)]) ⟨⟨ht, hT⟩, he, hW⟩ trivial).symm
  | cons s M =>
    have hr : red (s :: M) := hp ▸ pa_red.1
    rw [hp] at hW
    by_cases c : s.1 = t
    · right
      obtain ⟨a, b⟩ := s
      dsimp only at c
      subst c
      have hbu : b = u := isE_fix hT hW.2.1 he.symm
      subst hbu
      rw [← pa_uniq hW.2.2 (red_tail hr)]
    · left
      exact (pa_uniq (L := (t, y) :: s :: M) ⟨⟨ht, hT⟩, he, hW⟩ ⟨fun q => c q.symm, hr⟩).symm
theorem pa_sub (h : isW fa fb (TZ fa fb k) u L v) : ∀ l, l ∈ lks (pa fa fb k u v) → l ∈ lks L := by
  induction L generalizing u with
  | nil => cases h; intro l hl; rw [pa_self] at hl; exact hl
  | cons s L ih =>
    intro l hl
    have hld := isW_ld h.2.2 (fun l q => q.1)
    rcases pa_step (v := v) hld h.1.1 h.1.2 h.2.1 with e | e
    · rw [e] at hl
      simp only [lks, List.map_cons, List.mem_cons] at hl ⊢
      rcases hl with hl | hl
      · exact Or.inl hl
      · exact Or.inr (ih h.2.2 l hl)
    · have := ih h.2.2 l (by rw [e]; simp only [lks, List.map_cons, List.mem_cons]; exact Or.inr hl)
      simp only [lks, List.map_cons, List.mem_cons] at this ⊢
      exact Or.inr this
theorem red_rv : red L → red (rvW u L) := by
  induction L generalizing u with
  | nil => intro _; trivial
  | cons s L ih =>
    intro h
    refine red_app (ih (red_tail h)) trivial (fun a b ha hb => ?_)
    cases hb
    cases L with
    | nil => cases ha
    | cons r L =>
      simp only [rvW] at ha
      rw [List.getLast?_append] at ha
      cases ha
      exact fun q => h.1 q.symm
theorem pa_rev (h : ld fa fb k u = ld fa fb k v) : pa fa fb k v u = rvW u (pa fa fb k u v) := (pa_uniq (pa_W h).rev (red_rv pa_red.1)).symm
theorem pa_mem_rev (h : ld fa fb k u = ld fa fb k v) {l : Nat} : l ∈ lks (pa fa fb k v u) ↔ l ∈ lks (pa fa fb k u v) := by
  rw [pa_rev h, lks_rv, List.mem_reverse]
/-- a cut of the way is two ways -/
theorem pa_cut (h : ld fa fb k u = ld fa fb k v) (e : pa fa fb k u v = L1 ++ L2) : ∃ x, L1 = pa fa fb k u x ∧ L2 = pa fa fb k x v ∧ ld fa fb k u = ld fa fb k x ∧ ld fa fb k x = ld fa fb k v := by
  have hW := pa_W h
  have hr := (pa_red (fa := fa) (fb := fb) (k := k) (u := u) (v := v)).1
  rw [e] at hW hr
  obtain ⟨x, h1, h2⟩ := hW.split
  exact ⟨x, pa_uniq h1 (red_app_left hr), pa_uniq h2 (red_app_right hr), isW_ld h1 (fun l q => q.1), isW_ld h2 (fun l q => q.1)⟩
theorem pa_tri (h1 : ld fa fb k u = ld fa fb k x) (h2 : ld fa fb k x = ld fa fb k v) {l : Nat} (hl : l ∈ lks (pa fa fb k u v)) : l ∈ lks (pa fa fb k u x) ∨ l ∈ lks (pa fa fb k x v) := by
  have := pa_sub ((pa_W h1).app (pa_W h2)) l hl
  rw [lks_app, List.mem_append] at this
  exact this
/-- the nodes of a walk: where it begins and where its steps come to -/
def nds (u : Nat) (L : List (Nat × Nat)) : List Nat := u :: L.map Prod.snd
/-- a way is at no node twice -/
theorem pa_simple (h : ld fa fb k u = ld fa fb k v) (e : pa fa fb k u v = L1 ++ (t, y) :: L2) (hw1 : w ∈ nds u L1) (hw2 : w ∈ nds y L2) : False := by
  have cutn : ∀ {a b : Nat} {M : List (Nat × Nat)}, isW fa fb (TZ fa fb k) a M b → w ∈ nds a M → ∃ M1 M2, M = M1 ++ M2 ∧ isW fa fb (TZ fa fb k) a M1 w ∧ isW fa fb (TZ fa fb k) w M2 b := by
    intro a b M
    induction M generalizing a with
    | nil =>
      intro hM hw
      simp only [nds, List.map_nil, List.mem_cons, List.not_mem_nil, or_false] at hw
      subst hw
      exact ⟨[], [], rfl, rfl, hM⟩
    | cons s M ih =>
      intro hM hw
      by_cases c : w = a
      · subst c; exact ⟨[], s :: M, rfl, rfl, hM⟩
      · have hw' : w ∈ nds s.2 M := by
          simp only [nds, List.map_cons, List.mem_cons] at hw ⊢
          rcases hw with hw | hw
          · exact absurd hw c
          · exact hw
        obtain ⟨M1, M2, rfl, g1, g2⟩ := ih hM.2.2 hw'
        exact ⟨s :: M1, M2, rfl, ⟨hM.1, hM.2.1, g1⟩, g2⟩
  have hW := pa_W h
  have hr := (pa_red (fa := fa) (fb := fb) (k := k) (u := u) (v := v)).1
  rw [e] at hW hr
  obtain ⟨x, h1, h2⟩ := hW.split
  obtain ⟨M1, M2, rfl, g1, g2⟩ := cutn h1 hw1
  obtain ⟨N1, N2, rfl, g3, g4⟩ := cutn h2.2.2 hw2
  have hc : isW fa fb (TZ fa fb k) w (M2 ++ (t, y) :: N1) w := g2.app ⟨h2.1, h2.2.1, g3⟩
  have hrc : red (M2 ++ (t, y) :: N1) := by
    have e2 : (M1 ++ M2) ++ (t, y) :: (N1 ++ N2) = M1 ++ ((M2 ++ (t, y) :: N1) ++ N2) := by simp
    rw [e2] at hr
    exact red_app_left (red_app_right hr)
  have := pa_uniq hc hrc
  rw [pa_self] at this
  cases M2 <;> cases this
end W3
/-! a link that is no tree link covers the links of its ends' way; a bridge is a tree link that is not covered -/
def cov (fa fb : Nat → Nat) (k t : Nat) : Prop := ∃ f, f < k ∧ ¬ TL fa fb f ∧ t ∈ lks (pa fa fb f (fa f) (fb f))
def brg (fa fb : Nat → Nat) (k t : Nat) : Prop := t < k ∧ TL fa fb t ∧ ¬ cov fa fb k t
def Rch (fa fb : Nat → Nat) (Z : Nat → Prop) (u v : Nat) : Prop := ∃ L, isW fa fb Z u L v
section W4
variable {fa fb : Nat → Nat} {Z Z' : Nat → Prop} {k u v x y w t : Nat}
theorem Rch.refl : Rch fa fb Z u u := ⟨[], rfl⟩
theorem Rch.trans (h1 : Rch fa fb Z u x) (h2 : Rch fa fb Z x v) : Rch fa fb Z u v := by
  obtain ⟨L1, h1⟩ := h1
  obtain ⟨L2, h2⟩ := h2
  exact ⟨_, h1.app h2⟩
theorem Rch.symm (h : Rch fa fb Z u v) : Rch fa fb Z v u := by
  obtain ⟨L, h⟩ := h
  exact ⟨_, h.rev⟩
theorem Rch.mono (h : Rch fa fb Z u v) (hz : ∀ l, Z l → Z' l) : Rch fa fb Z' u v := by
  obtain ⟨L, h⟩ := h
  exact ⟨L, h.mono (fun l _ q => hz l q)⟩
theorem Rch.one (hz : Z t) (he : isE fa fb t u v) : Rch fa fb Z u v := ⟨_, isW.one hz he⟩
/-- what holds at the start and is carried by each link holds at the end -/
theorem Rch.ind {S : Nat → Prop} (h : Rch fa fb Z u v) (h0 : S u) (hs : ∀ l a b, Z l → isE fa fb l a b → S a → S b) : S v := by
  obtain ⟨L, h⟩ := h
  induction L generalizing u with
  | nil => cases h; exact h0
  | cons s L ih => exact ih (hs _ _ _ h.1 h.2.1 h0) h.2.2
theorem ld_iff : ld fa fb k u = ld fa fb k v ↔ Rch fa fb (fun l => l < k) u v := by
  constructor
  · intro h
    exact ⟨_, (pa_W h).mono (fun l _ q => q.1)⟩
  · intro h
    exact h.ind (S := fun z => ld fa fb k u = ld fa fb k z) rfl (fun l a b hl he q => q.trans (ld_E hl he))
theorem nt_ld {f : Nat} (h : ¬ TL fa fb f) : ld fa fb f (fa f) = ld fa fb f (fb f) := Classical.not_not.mp h
theorem cov_pa {f : Nat} (hf : f < k) (h : ¬ TL fa fb f) : pa fa fb k (fa f) (fb f) = pa fa fb f (fa f) (fb f) := pa_later (nt_ld h) (Nat.le_of_lt hf)
theorem brg_ring {f : Nat} (hb : brg fa fb k t) (hf : f < k) (h : ¬ TL fa fb f) : t ∉ lks (pa fa fb k (fa f) (fb f)) := fun q => hb.2.2 ⟨f, hf, h, by rw [← cov_pa hf h]; exact q⟩
/-- the sides of a bridge: what is reached without it -/
theorem side_iff (hb : brg fa fb k t) : Rch fa fb (fun l => l < k ∧ l ≠ t) u y ↔ (ld fa fb k u = ld fa fb k y ∧ t ∉ lks (pa fa fb k u y)) := by
  constructor
  · intro h
    refine h.ind (S := fun z => ld fa fb k u = ld fa fb k z ∧ t ∉ lks (pa fa fb k u z)) ⟨rfl, by rw [pa_self]; simp [lks]⟩ ?_
    intro l a b hl he ⟨q1, q2⟩
    have hab : ld fa fb k a = ld fa fb k b := ld_E hl.1 he
    refine ⟨q1.trans hab, fun q => ?_⟩
    rcases pa_tri q1 hab q with h3 | h3
    · exact q2 h3
    · by_cases c : TL fa fb l
      · have := pa_sub (isW.one (Z := TZ fa fb k) ⟨hl.1, c⟩ he) t h3
        simp only [lks, List.map_cons, List.map_nil, List.mem_cons, List.not_mem_nil, or_false] at this
        exact hl.2 this.symm
      · rcases he with ⟨rfl, rfl⟩ | ⟨rfl, rfl⟩
        · exact brg_ring hb hl.1 c h3
        · exact brg_ring hb hl.1 c ((pa_mem_rev hab.symm).mp h3)
  · intro ⟨h1, h2⟩
    exact ⟨_, (pa_W h1).mono (fun l hl q => ⟨q.1, fun e => h2 (e ▸ hl)⟩)⟩
/-- a link that is no bridge can be left out -/
theorem nobrg_iff (ht : t < k) (hn : ¬ brg fa fb k t) : Rch fa fb (fun l => l < k ∧ l ≠ t) u y ↔ ld fa fb k u = ld fa fb k y := by
  constructor
  · intro h; exact ld_iff.mpr (h.mono (fun l q => q.1))
  · intro h
    refine (ld_iff.mp h).ind (S := fun z => Rch fa fb (fun l => l < k ∧ l ≠ t) u z) Rch.refl ?_
    intro l a b hl he hq
    by_cases c : l = t
    · subst c
      refine hq.trans ?_
      by_cases cT : TL fa fb l
      · -- covered: round by the link that covers it
        have hcv : cov fa fb k l := Classical.not_not.mp (fun q => hn ⟨ht, cT, q⟩)
        obtain ⟨f, hf, hnf, hlf⟩ := hcv
        have hld := nt_ld hnf
        obtain ⟨M1, y', M2, e, hM1⟩ := cut_at hlf
        have hW := pa_W hld
        rw [e] at hW
        obtain ⟨z, g1, g2⟩ := hW.split
        have hr : red (M1 ++ (l, y') :: M2) := e ▸ pa_red.1
        have hM2 : l ∉ lks M2 := by
          intro q
          obtain ⟨N1, y2, N2, rfl, hN1⟩ := cut_at q
          obtain ⟨z2, g3, g4⟩ := g2.2.2.split
          have hz : z2 = y' ∨ z2 = z := by
            rcases g2.2.1 with ⟨a1, a2⟩ | ⟨a1, a2⟩ <;> rcases g4.2.1 with ⟨b1, b2⟩ | ⟨b1, b2⟩ <;> dsimp only at a1 a2 b1 b2
            · exact Or.inr (b1.symm.trans a1)
            · exact Or.inl (b2.symm.trans a2)
            · exact Or.inl (b1.symm.trans a1)
            · exact Or.inr (b2.symm.trans a2)
          rcases hz with rfl | rfl
          · have := pa_uniq g3 (red_app_left (red_tail (red_app_right hr)))
            rw [pa_self] at this
            subst this
            exact (red_app_right hr).1 rfl
          · have e3 : M1 ++ (l, y') :: (N1 ++ (l, y2) :: N2) = M1 ++ (((l, y') :: N1) ++ (l, y2) :: N2) := by simp
            rw [e3] at hr
            have := pa_uniq (L := (l, y') :: N1) ⟨g2.1, g2.2.1, g3⟩ (red_app_left (red_app_right hr))
            rw [pa_self] at this
            cases this
        have r1 : Rch fa fb (fun q => q < k ∧ q ≠ l) (fa f) z := ⟨_, g1.mono (fun q hq g => ⟨Nat.lt_trans g.1 hf, fun e => hM1 (e ▸ hq)⟩)⟩
        have r2 : Rch fa fb (fun q => q < k ∧ q ≠ l) y' (fb f) := ⟨_, g2.2.2.mono (fun q hq g => ⟨Nat.lt_trans g.1 hf, fun e => hM2 (e ▸ hq)⟩)⟩
        have r3 : Rch fa fb (fun q => q < k ∧ q ≠ l) (fa f) (fb f) := Rch.one ⟨hf, fun e => hnf (e ▸ cT)⟩ (Or.inl ⟨rfl, rfl⟩)
        have r4 : Rch fa fb (fun q => q < k ∧ q ≠ l) z y' := r1.symm.trans (r3.trans r2.symm)
        have hzy : isE fa fb l z y' := g2.2.1
        rcases he with ⟨a1, a2⟩ | ⟨a1, a2⟩ <;> rcases hzy with ⟨b1, b2⟩ | ⟨b1, b2⟩
        · rw [← a1, ← a2, b1, b2]; exact r4
        · rw [← a1, ← a2, b1, b2]; exact r4.symm
        · rw [← a1, ← a2, b1, b2]; exact r4.symm
        · rw [← a1, ← a2, b1, b2]; exact r4
      · -- no tree link: its ends' way is there
        have hld := nt_ld cT
        have r : Rch fa fb (fun q => q < k ∧ q ≠ l) (fa l) (fb l) := ⟨_, (pa_W hld).mono (fun q _ g => ⟨Nat.lt_trans g.1 ht, Nat.ne_of_lt g.1⟩)⟩
        rcases he with ⟨rfl, rfl⟩ | ⟨rfl, rfl⟩
        · exact r
        · exact r.symm
    · exact hq.trans (Rch.one ⟨hl, c⟩ he)
end W4
