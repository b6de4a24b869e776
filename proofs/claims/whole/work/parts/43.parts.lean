/-! THEORY 4: parts: the finest labels that are the same along each ring of a link that is no tree link -/
def pe (fa fb : Nat → Nat) : Nat → Nat → Nat
  | 0, l => l
  | k + 1, l => if l = k then k else if ld fa fb k (fa k) = ld fa fb k (fb k) ∧ (lks (pa fa fb k (fa k) (fb k))).any (fun t => pe fa fb k t == pe fa fb k l) = true then k else pe fa fb k l
section W5
variable {fa fb : Nat → Nat} {Z Z' : Nat → Prop} {k u v x y w t : Nat}
theorem pe_succ (k l : Nat) : pe fa fb (k + 1) l = if l = k then k else if ld fa fb k (fa k) = ld fa fb k (fb k) ∧ (lks (pa fa fb k (fa k) (fb k))).any (fun t => pe fa fb k t == pe fa fb k l) = true then k else pe fa fb k l := rfl
theorem pe_self (k : Nat) : pe fa fb (k + 1) k = k := by rw [pe_succ, if_pos rfl]
theorem pe_lt : ∀ {k l : Nat}, l < k → pe fa fb k l < k := by
  intro k
  induction k with
  | zero => intro l h; omega
  | succ k ih =>
    intro l h
    rw [pe_succ]
    split
    · omega
    · split
      · omega
      · rename_i h1 _
        have := ih (l := l) (by omega)
        omega
theorem pe_mono {a b : Nat} (ha : a < k) (hb : b < k) (h : pe fa fb k a = pe fa fb k b) : pe fa fb (k + 1) a = pe fa fb (k + 1) b := by
  rw [pe_succ, pe_succ, if_neg (show ¬ a = k by omega), if_neg (show ¬ b = k by omega), h]
theorem pe_later {a b j : Nat} (hj : k ≤ j) (ha : a < k) (hb : b < k) (h : pe fa fb k a = pe fa fb k b) : pe fa fb j a = pe fa fb j b := by
  induction hj with
  | refl => exact h
  | step hm ih => exact pe_mono (Nat.lt_of_lt_of_le ha hm) (Nat.lt_of_lt_of_le hb hm) ih
theorem pe_hit {f l : Nat} (hl : l < f) : pe fa fb (f + 1) l = f ↔ ¬ TL fa fb f ∧ ∃ t, t ∈ lks (pa fa fb f (fa f) (fb f)) ∧ pe fa fb f t = pe fa fb f l := by
  rw [pe_succ]
  rw [if_neg (by omega)]
  constructor
  · intro h
    by_cases c : ld fa fb f (fa f) = ld fa fb f (fb f) ∧ (lks (pa fa fb f (fa f) (fb f))).any (fun t => pe fa fb f t == pe fa fb f l) = true
    · obtain ⟨c1, c2⟩ := c
      obtain ⟨t, ht, he⟩ := List.any_eq_true.mp c2
      exact ⟨fun q => q c1, t, ht, by simpa using he⟩
    · rw [if_neg c] at h
      have := pe_lt (fa := fa) (fb := fb) hl
      omega
  · intro ⟨h1, t, ht, he⟩
    rw [if_pos ⟨nt_ld h1, List.any_eq_true.mpr ⟨t, ht, by simpa using he⟩⟩]
theorem pe_ring {f : Nat} (hf : f < k) (h : ¬ TL fa fb f) {t : Nat} (ht : t ∈ lks (pa fa fb k (fa f) (fb f))) : pe fa fb k t = pe fa fb k f := by
  rw [cov_pa hf h] at ht
  have htf := (pa_red (fa := fa) (fb := fb) (k := f) (u := fa f) (v := fb f)).2 t ht
  refine pe_later hf (by omega) (by omega) ?_
  rw [pe_self]
  exact (pe_hit htf).mpr ⟨h, t, ht, rfl⟩
theorem pe_fine {C : Nat → Prop} : ∀ {k : Nat}, (∀ f, f < k → ¬ TL fa fb f → ∀ t, t ∈ lks (pa fa fb f (fa f) (fb f)) → (C t ↔ C f)) → ∀ {a b : Nat}, a < k → b < k → pe fa fb k a = pe fa fb k b → (C a ↔ C b) := by
  intro k
  induction k with
  | zero => intro _ a b ha; omega
  | succ k ih =>
    intro hC a b ha hb h
    have ihC := fun {a b : Nat} => ih (fun f hf => hC f (by omega)) (a := a) (b := b)
    have top : ∀ {c : Nat}, c < k → pe fa fb (k + 1) c = k → (C c ↔ C k) := by
      intro c hc e
      obtain ⟨h1, t, ht, he⟩ := (pe_hit hc).mp e
      have htk := (pa_red (fa := fa) (fb := fb) (k := k) (u := fa k) (v := fb k)).2 t ht
      exact (ihC htk hc he).symm.trans (hC k (by omega) h1 t ht)
    by_cases ea : a = k
    · by_cases eb : b = k
      · rw [ea, eb]
      · rw [ea] at h ⊢
        rw [pe_self] at h
        exact (top (by omega) h.symm).symm
    · by_cases eb : b = k
      · rw [eb] at h ⊢
        rw [pe_self] at h
        exact top (by omega) h
      · by_cases ca : pe fa fb (k + 1) a = k
        · exact (top (by omega) ca).trans (top (by omega) (h.symm.trans ca)).symm
        · have cb : pe fa fb (k + 1) b ≠ k := fun q => ca (h.trans q)
          have stay : ∀ {c : Nat}, c < k → pe fa fb (k + 1) c ≠ k → pe fa fb (k + 1) c = pe fa fb k c := by
            intro c hc hne
            rw [pe_succ] at hne ⊢
            rw [if_neg (by omega)] at hne ⊢
            split
            · rename_i q; rw [if_pos q] at hne; exact absurd rfl hne
            · rfl
          rw [stay (by omega) ca, stay (by omega) cb] at h
          exact ihC (by omega) (by omega) h
/-- reached by links that are not at w -/
abbrev AV (fa fb : Nat → Nat) (k w : Nat) : Nat → Prop := fun l => l < k ∧ fa l ≠ w ∧ fb l ≠ w
theorem av_of {l a b : Nat} (hl : l < k) (he : isE fa fb l a b) (ha : a ≠ w) (hb : b ≠ w) : AV fa fb k w l := by
  rcases he with ⟨rfl, rfl⟩ | ⟨rfl, rfl⟩
  · exact ⟨hl, ha, hb⟩
  · exact ⟨hl, hb, ha⟩
theorem av_ne {l a b : Nat} (h : AV fa fb k w l) (he : isE fa fb l a b) : a ≠ w ∧ b ≠ w := by
  rcases he with ⟨rfl, rfl⟩ | ⟨rfl, rfl⟩
  · exact ⟨h.2.1, h.2.2⟩
  · exact ⟨h.2.2, h.2.1⟩
/-- a walk that is not at w stays away from it -/
theorem av_walk {L : List (Nat × Nat)} (h : isW fa fb Z u L v) (hz : ∀ l, Z l → l < k) (hw : w ∉ nds u L) : Rch fa fb (AV fa fb k w) u v := by
  induction L generalizing u with
  | nil => cases h; exact Rch.refl
  | cons s L ih =>
    simp only [nds, List.map_cons, List.mem_cons, not_or] at hw
    refine (Rch.one (av_of (hz _ h.1) h.2.1 (fun q => hw.1 q.symm) (fun q => hw.2.1 q.symm)) h.2.1).trans (ih h.2.2 ?_)
    simp only [nds, List.mem_cons, not_or]
    exact hw.2
/-- the last link of the way from y to w, for y unlike w -/
def lastL (L : List (Nat × Nat)) : Nat := match L.getLast? with
  | some s => s.1
  | none => 0
theorem lastL_mem {L : List (Nat × Nat)} (h : L ≠ []) : lastL L ∈ lks L := by
  unfold lastL
  cases hl : L.getLast? with
  | none => exact absurd (List.getLast?_eq_none_iff.mp hl) h
  | some s => exact List.mem_map.mpr ⟨s, List.mem_of_getLast? hl, rfl⟩
theorem lastL_cons {s : Nat × Nat} {L : List (Nat × Nat)} (h : L ≠ []) : lastL (s :: L) = lastL L := by
  cases L with
  | nil => exact absurd rfl h
  | cons a L => unfold lastL; rw [List.getLast?_cons_cons]
theorem pa_ne (h : ld fa fb k u = ld fa fb k v) (hne : u ≠ v) : pa fa fb k u v ≠ [] := by
  intro q
  have := pa_W h
  rw [q] at this
  exact hne this
/-- tau: along links that are not at w the last link towards w stays within one part -/
theorem tau_step {l a b : Nat} (hl : AV fa fb k w l) (he : isE fa fb l a b) (hw : ld fa fb k a = ld fa fb k w) : pe fa fb k (lastL (pa fa fb k a w)) = pe fa fb k (lastL (pa fa fb k b w)) := by
  obtain ⟨ha, hb⟩ := av_ne hl he
  have hab : ld fa fb k a = ld fa fb k b := ld_E hl.1 he
  have hbw : ld fa fb k b = ld fa fb k w := hab.symm.trans hw
  have na := pa_ne hw ha
  have nb := pa_ne hbw hb
  -- one tree link
  have tree : ∀ {t c d : Nat}, t < k → TL fa fb t → isE fa fb t c d → c ≠ w → d ≠ w → ld fa fb k d = ld fa fb k w → lastL (pa fa fb k c w) = lastL (pa fa fb k d w) := by
    intro t c d ht hT hE hc hd hdw
    have hcw : ld fa fb k c = ld fa fb k w := (ld_E ht hE).trans hdw
    rcases pa_step (v := w) hdw ht hT hE with e | e
    · rw [e, lastL_cons (pa_ne hdw hd)]
    · rw [e, lastL_cons (pa_ne hcw hc)]
  by_cases cT : TL fa fb l
  · rw [tree hl.1 cT he ha hb hbw]
  · -- the ring of l: by w, or away from it
    have hring : ∀ t, t ∈ lks (pa fa fb k a b) → pe fa fb k t = pe fa fb k l := by
      intro t ht
      rcases he with ⟨rfl, rfl⟩ | ⟨rfl, rfl⟩
      · exact pe_ring hl.1 cT ht
      · exact pe_ring hl.1 cT ((pa_mem_rev hab.symm).mp ht)
    by_cases hin : w ∈ nds a (pa fa fb k a b)
    · have hsplit : ∃ L1 L2, pa fa fb k a b = L1 ++ L2 ∧ isW fa fb (TZ fa fb k) a L1 w ∧ isW fa fb (TZ fa fb k) w L2 b := by
        have cutn : ∀ {a b : Nat} {M : List (Nat × Nat)}, isW fa fb (TZ fa fb k) a M b → w ∈ nds a M → ∃ M1 M2, M = M1 ++ M2 ∧ isW fa fb (TZ fa fb k) a M1 w ∧ isW fa fb (TZ fa fb k) w M2 b := by
          intro a b M
          induction M generalizing a with
          | nil =>
            intro hM hw
            simp only [nds, List.map_nil, List.mem_cons, List.not_mem_nil, or_false] at hw
            subst hw
            exact ⟨[], [], rfl, rfl, hM⟩
          | cons s M ih =>
            intro hM hw
            by_cases c : w = a
            · subst c; exact ⟨[], s :: M, rfl, rfl, hM⟩
            · have hw' : w ∈ nds s.2 M := by
                simp only [nds, List.map_cons, List.mem_cons] at hw ⊢
                rcases hw with hw | hw
                · exact absurd hw c
                · exact hw
              obtain ⟨M1, M2, rfl, g1, g2⟩ := ih hM.2.2 hw'
              exact ⟨s :: M1, M2, rfl, ⟨hM.1, hM.2.1, g1⟩, g2⟩
        exact cutn (pa_W hab) hin
      obtain ⟨L1, L2, e, h1, h2⟩ := hsplit
      have hr := (pa_red (fa := fa) (fb := fb) (k := k) (u := a) (v := b)).1
      rw [e] at hr
      have e1 := pa_uniq h1 (red_app_left hr)
      have e2 := pa_uniq h2 (red_app_right hr)
      have m1 : lastL (pa fa fb k a w) ∈ lks (pa fa fb k a b) := by
        rw [e, lks_app, List.mem_append, e1]; exact Or.inl (lastL_mem na)
      have m2 : lastL (pa fa fb k b w) ∈ lks (pa fa fb k a b) := by
        rw [e, lks_app, List.mem_append, e2]
        exact Or.inr ((pa_mem_rev hbw).mpr (lastL_mem nb))
      rw [hring _ m1, hring _ m2]
    · -- step by step along the way
      have go : ∀ {M : List (Nat × Nat)} {c d : Nat}, isW fa fb (TZ fa fb k) c M d → w ∉ nds c M → ld fa fb k d = ld fa fb k w → lastL (pa fa fb k c w) = lastL (pa fa fb k d w) := by
        intro M
        induction M with
        | nil => intro c d h _ _; cases h; rfl
        | cons s M ih =>
          intro c d h hn hd
          simp only [nds, List.map_cons, List.mem_cons, not_or] at hn
          have hs : ld fa fb k s.2 = ld fa fb k w := (isW_ld h.2.2 (fun l q => q.1)).trans hd
          rw [tree h.1.1 h.1.2 h.2.1 (fun q => hn.1 q.symm) (fun q => hn.2.1 q.symm) hs]
          refine ih h.2.2 ?_ hd
          simp only [nds, List.mem_cons, not_or]
          exact hn.2
      rw [go (pa_W hab) hin hbw]
theorem tau_link {a p : Nat} (ha : a < k) (he : isE fa fb a w p) (hp : p ≠ w) : pe fa fb k a = pe fa fb k (lastL (pa fa fb k p w)) := by
  have hl : ld fa fb k w = ld fa fb k p := ld_E ha he
  by_cases cT : TL fa fb a
  · have : pa fa fb k p w = [(a, w)] := (pa_uniq (L := [(a, w)]) ⟨⟨ha, cT⟩, he.symm, rfl⟩ trivial).symm
    rw [this]
    rfl
  · have hm := lastL_mem (pa_ne hl.symm hp)
    symm
    rcases he with ⟨rfl, rfl⟩ | ⟨rfl, rfl⟩
    · exact pe_ring ha cT ((pa_mem_rev hl).mp hm)
    · exact pe_ring ha cT hm
/-- two links at a node are in one part iff their other ends hang together without it -/
theorem part_iff {a b p q : Nat} (ha : a < k) (hb : b < k) (hea : isE fa fb a w p) (heb : isE fa fb b w q) (hp : p ≠ w) (hq : q ≠ w) :
    pe fa fb k a = pe fa fb k b ↔ Rch fa fb (AV fa fb k w) p q := by
  have lp : ld fa fb k p = ld fa fb k w := (ld_E ha hea).symm
  constructor
  · intro h
    -- C l: an end of l, unlike w, is reached from p
    let S : Nat → Prop := fun z => Rch fa fb (AV fa fb k w) p z
    let C : Nat → Prop := fun l => (fa l ≠ w ∧ S (fa l)) ∨ (fb l ≠ w ∧ S (fb l))
    have Cend : ∀ {l c d : Nat}, l < k → isE fa fb l c d → c ≠ w → (C l ↔ S c) := by
      intro l c d hl he hc
      have both : d ≠ w → (S c ↔ S d) := fun hd => ⟨fun s => s.trans (Rch.one (av_of hl he hc hd) he), fun s => s.trans (Rch.one (av_of hl he.symm hd hc) he.symm)⟩
      constructor
      · intro hC
        rcases he with ⟨rfl, rfl⟩ | ⟨rfl, rfl⟩
        · rcases hC with ⟨_, s⟩ | ⟨hd, s⟩
          · exact s
          · exact (both hd).mpr s
        · rcases hC with ⟨hd, s⟩ | ⟨_, s⟩
          · exact (both hd).mpr s
          · exact s
      · intro s
        rcases he with ⟨rfl, rfl⟩ | ⟨rfl, rfl⟩
        · exact Or.inl ⟨hc, s⟩
        · exact Or.inr ⟨hc, s⟩
    have Srch : ∀ {c d : Nat}, Rch fa fb (AV fa fb k w) c d → (S c ↔ S d) := fun h => ⟨fun s => s.trans h, fun s => s.trans h.symm⟩
    have hfine : ∀ f, f < k → ¬ TL fa fb f → ∀ t, t ∈ lks (pa fa fb f (fa f) (fb f)) → (C t ↔ C f) := by
      intro f hf hnf t ht
      have hld := ld_mono (Nat.le_of_lt hf) (nt_ld hnf)
      rw [← cov_pa hf hnf] at ht
      obtain ⟨L1, y, L2, e, -⟩ := cut_at ht
      have hW := pa_W hld
      rw [e] at hW
      obtain ⟨c, g1, g2⟩ := hW.split
      have hne := TL_ne g2.1.2 g2.2.1
      by_cases h1 : w ∈ nds (fa f) L1
      · have h2 : w ∉ nds y L2 := fun q => pa_simple hld e h1 q
        have r := av_walk g2.2.2 (fun l q => q.1) h2
        have hy : y ≠ w := fun q => h2 (by simp [nds, q])
        have hfb : fb f ≠ w := by
          intro q
          apply h2
          rw [← q]
          have : ∀ {M : List (Nat × Nat)} {c d : Nat}, isW fa fb (TZ fa fb k) c M d → d ∈ nds c M := by
            intro M
            induction M with
            | nil => intro c d h; cases h; simp [nds]
            | cons s M ih =>
              intro c d h
              have := ih h.2.2
              simp only [nds, List.map_cons, List.mem_cons] at this ⊢
              exact Or.inr this
          exact this g2.2.2
        rw [Cend g2.1.1 g2.2.1.symm hy, Cend hf (Or.inr ⟨rfl, rfl⟩ : isE fa fb f (fb f) (fa f)) hfb]
        exact Srch r
      · have hfa : fa f ≠ w := fun q => h1 (by simp [nds, q])
        have r := av_walk g1 (fun l q => q.1) h1
        have hc : c ≠ w := by
          intro q
          apply h1
          rw [← q]
          have : ∀ {M : List (Nat × Nat)} {c d : Nat}, isW fa fb (TZ fa fb k) c M d → d ∈ nds c M := by
            intro M
            induction M with
            | nil => intro c d h; cases h; simp [nds]
            | cons s M ih =>
              intro c d h
              have := ih h.2.2
              simp only [nds, List.map_cons, List.mem_cons] at this ⊢
              exact Or.inr this
          exact this g1
        rw [Cend g2.1.1 g2.2.1 hc, Cend hf (Or.inl ⟨rfl, rfl⟩ : isE fa fb f (fa f) (fb f)) hfa]
        exact (Srch r).symm
    have := pe_fine (C := C) hfine ha hb h
    have ca : C a := (Cend ha hea.symm hp).mpr Rch.refl
    exact (Cend hb heb.symm hq).mp (this.mp ca)
  · intro h
    rw [tau_link ha hea hp, tau_link hb heb hq]
    refine h.ind (S := fun z => pe fa fb k (lastL (pa fa fb k p w)) = pe fa fb k (lastL (pa fa fb k z w)) ∧ ld fa fb k z = ld fa fb k w) ⟨rfl, lp⟩ ?_ |>.1
    intro l c d hl he ⟨s1, s2⟩
    exact ⟨s1.trans (tau_step hl he s2), (ld_E hl.1 he).symm.trans s2⟩
end W5
