/-! THEORY 16: roots; blocks, lands and bridges counted; the same from the same links -/
section W16
variable {fa fb ga gb : Nat → Nat} {q : Nat → Bool} {nm : Nat → Nat} {n m k u v w x y t r z a b e o : Nat} {L : List (Nat × Nat)}
theorem ld_s (k v : Nat) : ld fa fb (k + 1) v = if ld fa fb k v = ld fa fb k (fb k) then ld fa fb k (fa k) else ld fa fb k v := rfl
theorem ld_tree (hT : TL fa fb k) : ld fa fb (k + 1) u = ld fa fb (k + 1) v ↔ ld fa fb k u = ld fa fb k v ∨ ((ld fa fb k u = ld fa fb k (fa k) ∨ ld fa fb k u = ld fa fb k (fb k)) ∧ (ld fa fb k v = ld fa fb k (fa k) ∨ ld fa fb k v = ld fa fb k (fb k))) := by
  rw [ld_s, ld_s]
  by_cases c1 : ld fa fb k u = ld fa fb k (fb k)
  · by_cases c2 : ld fa fb k v = ld fa fb k (fb k)
    · rw [if_pos c1, if_pos c2]; exact ⟨fun _ => Or.inl (c1.trans c2.symm), fun _ => rfl⟩
    · rw [if_pos c1, if_neg c2]
      constructor
      · intro h; exact Or.inr ⟨Or.inr c1, Or.inl h.symm⟩
      · intro h
        rcases h with h | ⟨_, h | h⟩
        · exact absurd (h.symm.trans c1) c2
        · exact h.symm
        · exact absurd h c2
  · by_cases c2 : ld fa fb k v = ld fa fb k (fb k)
    · rw [if_neg c1, if_pos c2]
      constructor
      · intro h; exact Or.inr ⟨Or.inl h, Or.inr c2⟩
      · intro h
        rcases h with h | ⟨h | h, _⟩
        · exact absurd (h.trans c2) c1
        · exact h
        · exact absurd h c1
    · rw [if_neg c1, if_neg c2]
      constructor
      · intro h; exact Or.inl h
      · intro h
        rcases h with h | ⟨h1 | h1, h2 | h2⟩
        · exact h
        · exact h1.trans h2.symm
        · exact absurd h2 c2
        · exact absurd h1 c1
        · exact absurd h1 c1
theorem hR_ok (hV : Vd fa fb n k) : (∀ v, v < n → hR n fa fb k v < n ∧ ld fa fb k (hR n fa fb k v) = ld fa fb k v) ∧ ∀ u v, ld fa fb k u = ld fa fb k v → hR n fa fb k u = hR n fa fb k v := by
  induction k with
  | zero => exact ⟨fun v hv => ⟨hv, rfl⟩, fun u v h => h⟩
  | succ k ih =>
    obtain ⟨i1, i2⟩ := ih (fun l hl => hV l (by omega))
    have hk := hV k (by omega)
    constructor
    · intro v hv
      rw [hR_s]
      by_cases c : ¬ ld fa fb k (fa k) = ld fa fb k (fb k) ∧ (ld fa fb k v = ld fa fb k (fa k) ∨ ld fa fb k v = ld fa fb k (fb k))
      · rw [if_pos c]
        have hT : TL fa fb k := c.1
        split
        · have g := i1 (fa k) hk.1
          exact ⟨g.1, (ld_tree hT).mpr (Or.inr ⟨Or.inl g.2, c.2⟩)⟩
        · have g := i1 (fb k) hk.2
          exact ⟨g.1, (ld_tree hT).mpr (Or.inr ⟨Or.inr g.2, c.2⟩)⟩
      · rw [if_neg c]
        exact ⟨(i1 v hv).1, ld_mono (by omega) (i1 v hv).2⟩
    · intro u v h
      rw [hR_s, hR_s]
      by_cases hT : ld fa fb k (fa k) = ld fa fb k (fb k)
      · rw [if_neg (fun z => z.1 hT), if_neg (fun z => z.1 hT)]
        exact i2 u v ((ld_close (fun z => z hT)).mp h)
      · rcases (ld_tree hT).mp h with g | ⟨g1, g2⟩
        · by_cases c : ld fa fb k u = ld fa fb k (fa k) ∨ ld fa fb k u = ld fa fb k (fb k)
          · have p2 : ¬ ld fa fb k (fa k) = ld fa fb k (fb k) ∧ (ld fa fb k v = ld fa fb k (fa k) ∨ ld fa fb k v = ld fa fb k (fb k)) := ⟨hT, by rw [← g]; exact c⟩
            have p1 : ¬ ld fa fb k (fa k) = ld fa fb k (fb k) ∧ (ld fa fb k u = ld fa fb k (fa k) ∨ ld fa fb k u = ld fa fb k (fb k)) := ⟨hT, c⟩
            rw [if_pos p1, if_pos p2]
          · rw [if_neg (fun z => c z.2), if_neg (fun z => c (by rw [g]; exact z.2))]
            exact i2 u v g
        · have p2 : ¬ ld fa fb k (fa k) = ld fa fb k (fb k) ∧ (ld fa fb k v = ld fa fb k (fa k) ∨ ld fa fb k v = ld fa fb k (fb k)) := ⟨hT, g2⟩
          have p1 : ¬ ld fa fb k (fa k) = ld fa fb k (fb k) ∧ (ld fa fb k u = ld fa fb k (fa k) ∨ ld fa fb k u = ld fa fb k (fb k)) := ⟨hT, g1⟩
          rw [if_pos p1, if_pos p2]
theorem Vd_le (hV : Vd fa fb n m) (h : k ≤ m) : Vd fa fb n k := fun l hl => hV l (by omega)
theorem NmQ_B (hV : Vd fa fb n k) : NmQ fa fb (qb fa fb k) (N_of (hB n fa fb k)) n k := fun _ _ hu hv => (blk_same hV hu hv).trans qb_safe
theorem NmQ_1 : NmQ fa fb (fun _ => true) (fun v => v) n k := by
  intro u v _ _
  rw [fw_all (fun _ _ => rfl)]
  constructor
  · intro h
    have h : u = v := h
    subst h
    exact ⟨rfl, pa_self _⟩
  · intro ⟨h1, h2⟩
    exact Classical.byContradiction fun c => pa_ne h1 c h2
/-- a link is no bridge iff its ends are safe -/
theorem link_safe (ht : t < k) : ¬ brg fa fb k t ↔ safe fa fb k (fa t) (fb t) := by
  have hl : ld fa fb k (fa t) = ld fa fb k (fb t) := ld_link ht
  by_cases hT : TL fa fb t
  · have e : pa fa fb k (fa t) (fb t) = [(t, fb t)] := (pa_uniq (L := [(t, fb t)]) ⟨⟨ht, hT⟩, Or.inl ⟨rfl, rfl⟩, rfl⟩ trivial).symm
    unfold safe
    rw [e]
    constructor
    · intro h
      refine ⟨hl, fun s hs => ?_⟩
      simp only [lks, List.map_cons, List.map_nil, List.mem_cons, List.not_mem_nil, or_false] at hs
      rw [hs]; exact h
    · intro h
      exact h.2 t (by simp [lks])
  · constructor
    · intro _
      exact ⟨hl, fun s hs hb => brg_ring hb ht hT hs⟩
    · intro _ hb
      exact hT hb.2.1
/-- the names on a ring's way -/
theorem sB_iff (hV : Vd fa fb n (k + 1)) (hc : ld fa fb k (fa k) = ld fa fb k (fb k)) : sB fa fb (hB n fa fb k) k b = true ↔ b ∈ N_of (hB n fa fb k) (fa k) :: nmL (N_of (hB n fa fb k)) (fw fa fb (qb fa fb k) k (fa k) (fb k)) := by
  have hV' : Vd fa fb n k := Vd_le hV (by omega)
  have ha := (hV k (by omega)).1
  have hN := NmQ_B hV'
  unfold sB
  rw [List.any_eq_true]
  constructor
  · intro ⟨y, hy, he⟩
    have he : N_of (hB n fa fb k) y = b := by simpa using he
    obtain ⟨L2, e2, hl⟩ := nds_pre hc hy
    rw [← he]
    exact nm_on hV' hN ha (nds_lt (pa_W hc) (fun l q => hV' l q.1) ha y hy) hl e2
  · intro h
    rcases List.mem_cons.mp h with h | h
    · exact ⟨fa k, by simp [nds], by simp [h]⟩
    · obtain ⟨s, hs, he⟩ := List.mem_map.mp h
      have := (fw_mem.mp hs).1
      refine ⟨s.2, ?_, by simp [he]⟩
      simp only [nds, List.mem_cons]
      exact Or.inr (List.mem_map_of_mem this)
theorem nodup_cnt2 {L : List Nat} (hn : L.Nodup) (hm : ∀ x, x ∈ L → x < n) : L.length = cnt (fun x => x ∈ L) n := by
  have := nodup_cnt (Q := fun x => x ∈ L) (p := fun _ => true) (n := n) hn (fun x => ⟨fun h => ⟨hm x h, h⟩, fun h => h.2⟩)
  rw [List.filter_eq_self.mpr (fun _ _ => rfl)] at this
  rw [this]
  exact cnt_congr (fun i _ => ⟨fun h => h.1, fun h => ⟨h, rfl⟩⟩)
/-- names that live -/
def liv (s : NSt) (b : Nat) : Prop := N_of s b = b
/-- a joining: one name of the set is left -/
theorem liv_jnK {N l l0 K : Nat} {s : NSt} {S : Nat → Bool} (h : NI N s l0) (hK : K < N) (hS : S K = true) (hl : ∀ b, b < N → S b = true → N_of s b = b) :
    cnt (liv s) N + 1 = cnt (liv (jnK N s S l K)) N + cnt (fun b => S b = true) N := by
  have key : ∀ b, b < N → (liv (jnK N s S l K) b ↔ liv s b ∧ (S b = true → b = K)) := by
    intro b hb
    show (if S (N_of s b) = true then K else N_of s b) = b ↔ _
    by_cases c : S (N_of s b) = true
    · rw [if_pos c]
      constructor
      · intro z; subst z; exact ⟨hl _ hK hS, fun _ => rfl⟩
      · intro ⟨z1, z2⟩
        have z1 : N_of s b = b := z1
        rw [z1] at c
        exact (z2 c).symm
    · rw [if_neg c]
      constructor
      · intro z; exact ⟨z, fun z2 => absurd (by rw [z]; exact z2) c⟩
      · intro z; exact z.1
  have e1 : cnt (fun b => S b = true) N = cnt (fun b => (S b = true ∧ b ≠ K) ∨ b = K) N := by
    refine cnt_congr (fun b hb => ⟨fun z => ?_, fun z => ?_⟩)
    · by_cases e : b = K
      · exact Or.inr e
      · exact Or.inl ⟨z, e⟩
    · rcases z with z | z
      · exact z.1
      · rw [z]; exact hS
  rw [e1, cnt_or hK, bb_t (fun z => z.2 rfl)]
  have e2 : ∀ m, m ≤ N → cnt (liv s) m = cnt (liv (jnK N s S l K)) m + cnt (fun b => S b = true ∧ b ≠ K) m := by
    intro m
    induction m with
    | zero => intro _; rfl
    | succ m ih =>
      intro hm
      rw [cnt_s, cnt_s, cnt_s, ih (by omega)]
      have hk := key m (by omega)
      by_cases c : S m = true ∧ m ≠ K
      · rw [bb_t (show liv s m from hl m (by omega) c.1), bb_f (fun z => c.2 ((hk.mp z).2 c.1)), bb_t c]; omega
      · have : liv (jnK N s S l K) m ↔ liv s m := by
          rw [hk]
          refine ⟨fun z => z.1, fun z => ⟨z, fun zs => ?_⟩⟩
          exact Classical.byContradiction fun zn => c ⟨zs, zn⟩
        rw [bb_congr this, bb_f c]; omega
  rw [e2 N (Nat.le_refl _)]
  omega
/-- how many names a way has -/
theorem sB_card (hV : Vd fa fb n (k + 1)) (hc : ld fa fb k (fa k) = ld fa fb k (fb k)) : cnt (fun b => sB fa fb (hB n fa fb k) k b = true) n = (fw fa fb (qb fa fb k) k (fa k) (fb k)).length + 1 := by
  have hV' : Vd fa fb n k := Vd_le hV (by omega)
  have ha := (hV k (by omega)).1
  have hN := NmQ_B hV'
  have hI := NI_B (n := n) (k := k) hV'
  have hnd := nm_nodup hV' hN rfl ha hc
  have := nodup_cnt2 (n := n) hnd (fun x hx => ?_)
  · rw [cnt_congr (fun b _ => sB_iff hV hc), ← this, List.length_cons, nmL, List.length_map]
  · obtain ⟨y, hy, _, he⟩ := nm_onW hV' ha hc hx
    rw [← he]
    exact (hI.1 y hy).1
/-- blocks are as many as lands and bridges -/
theorem blocks_count (hV : Vd fa fb n k) : cnt (liv (hB n fa fb k)) n = cnt (liv (hL n fa fb k)) n + cnt (brg fa fb k) k := by
  induction k with
  | zero => rfl
  | succ k ih =>
    have hV' : Vd fa fb n k := Vd_le hV (by omega)
    have hk := hV k (by omega)
    have i1 := ih hV'
    by_cases c : ld fa fb k (fa k) = ld fa fb k (fb k)
    · have hT : ¬ TL fa fb k := fun z => z c
      have hI := NI_B (n := n) (k := k) hV'
      have hS : sB fa fb (hB n fa fb k) k (N_of (hB n fa fb k) (fa k)) = true := (sB_iff hV c).mpr List.mem_cons_self
      obtain ⟨K, h1, h2, -, h4⟩ := jn_some (s := hB n fa fb k) (l := k) (hI.1 (fa k) hk.1).1 hS
      have hl : ∀ b, b < n → sB fa fb (hB n fa fb k) k b = true → N_of (hB n fa fb k) b = b := by
        intro b _ hSb
        obtain ⟨y, hy, _, he⟩ := nm_onW hV' hk.1 c ((sB_iff hV c).mp hSb)
        rw [← he]
        exact (hI.1 y hy).2
      have e := liv_jnK (l := k) hI h1 h2 hl
      rw [sB_card hV c] at e
      rw [hB_s, if_pos c, hL_s, if_pos c, h4, cnt_f (fun z => hT z.2.1)]
      have hb : cnt (brg fa fb k) k = cnt (brg fa fb (k + 1)) k + (fw fa fb (qb fa fb k) k (fa k) (fb k)).length := by
        have hnd : (lks (fw fa fb (qb fa fb k) k (fa k) (fb k))).Nodup := by
          refine List.Nodup.sublist ?_ (pa_nodup c)
          exact List.Sublist.map _ List.filter_sublist
        have hlen := nodup_cnt2 (n := k) hnd (fun x hx => pa_red.2 x (fw_lk.mp hx).1)
        rw [lks, List.length_map] at hlen
        rw [hlen]
        have : ∀ j, j ≤ k → cnt (brg fa fb k) j = cnt (brg fa fb (k + 1)) j + cnt (fun x => x ∈ lks (fw fa fb (qb fa fb k) k (fa k) (fb k))) j := by
          intro j
          induction j with
          | zero => intro _; rfl
          | succ j ihj =>
            intro hj
            rw [cnt_s, cnt_s, cnt_s, ihj (by omega)]
            have hbc := brg_close (fa := fa) (fb := fb) (k := k) (t := j) hT (by omega)
            have hm : j ∈ lks (fw fa fb (qb fa fb k) k (fa k) (fb k)) ↔ j ∈ lks (pa fa fb k (fa k) (fb k)) ∧ brg fa fb k j := by rw [fw_lk, qb_iff (show j < k by omega)]
            by_cases d : brg fa fb k j
            · by_cases d2 : j ∈ lks (pa fa fb k (fa k) (fb k))
              · rw [bb_t d, bb_f (fun z => (hbc.mp z).2 d2), bb_t (hm.mpr ⟨d2, d⟩)]; omega
              · rw [bb_t d, bb_t (hbc.mpr ⟨d, d2⟩), bb_f (fun z => d2 (hm.mp z).1)]; omega
            · rw [bb_f d, bb_f (fun z => d (hbc.mp z).1), bb_f (fun z => d (hm.mp z).2)]; omega
        exact this k (Nat.le_refl _)
      show cnt (liv (jnK n (hB n fa fb k) (sB fa fb (hB n fa fb k) k) k K)) n = _
      omega
    · have hI := NI_L (n := n) (k := k) hV'
      have hS : sL fa fb (hL n fa fb k) k (N_of (hL n fa fb k) (fa k)) = true := by simp [sL]
      obtain ⟨K, h1, h2, -, h4⟩ := jn_some (s := hL n fa fb k) (l := k) (hI.1 (fa k) hk.1).1 hS
      have hl : ∀ b, b < n → sL fa fb (hL n fa fb k) k b = true → N_of (hL n fa fb k) b = b := by
        intro b _ hSb
        simp only [sL, Bool.or_eq_true, beq_iff_eq] at hSb
        rcases hSb with rfl | rfl
        · exact (hI.1 _ hk.1).2
        · exact (hI.1 _ hk.2).2
      have e := liv_jnK (l := k) hI h1 h2 hl
      have hne : N_of (hL n fa fb k) (fa k) ≠ N_of (hL n fa fb k) (fb k) := fun z => c ((land_same hV' hk.1 hk.2).mp z)
      have h2c : cnt (fun b => sL fa fb (hL n fa fb k) k b = true) n = 2 := by
        have h0 : cnt (fun b => sL fa fb (hL n fa fb k) k b = true) n = cnt (fun b => (False ∨ b = N_of (hL n fa fb k) (fa k)) ∨ b = N_of (hL n fa fb k) (fb k)) n := by
          refine cnt_congr (fun b _ => ?_)
          simp [sL]
        rw [h0, cnt_or (hI.1 _ hk.2).1, cnt_or (hI.1 _ hk.1).1, cnt_none (fun _ _ z => z), bb_t (fun z => z), bb_t]
        intro z
        rcases z with z | z
        · exact z
        · exact hne z.symm
      rw [h2c] at e
      have hb : cnt (brg fa fb (k + 1)) (k + 1) = cnt (brg fa fb k) k + 1 := by
        rw [cnt_t (brg_new c), cnt_congr (fun i hi => brg_tree c hi)]
      rw [hB_s, if_neg c, hL_s, if_neg c, h4, hb]
      omega
/-! the same from the same links -/
theorem cg_ld (h : ∀ l, l < k → fa l = ga l ∧ fb l = gb l) : ld fa fb k v = ld ga gb k v := by
  induction k generalizing v with
  | zero => rfl
  | succ k ih =>
    have i1 := fun {v : Nat} => ih (v := v) (fun l hl => h l (by omega))
    obtain ⟨h1, h2⟩ := h k (by omega)
    rw [ld_s, ld_s, i1, i1, i1, h1, h2]
theorem pa_s (k u v : Nat) : pa fa fb (k + 1) u v = if ld fa fb k (fa k) = ld fa fb k (fb k) then pa fa fb k u v
    else if ld fa fb k u = ld fa fb k (fa k) ∧ ld fa fb k v = ld fa fb k (fb k) then pa fa fb k u (fa k) ++ (k, fb k) :: pa fa fb k (fb k) v
    else if ld fa fb k u = ld fa fb k (fb k) ∧ ld fa fb k v = ld fa fb k (fa k) then pa fa fb k u (fb k) ++ (k, fa k) :: pa fa fb k (fa k) v
    else pa fa fb k u v := rfl
theorem cg_pa (h : ∀ l, l < k → fa l = ga l ∧ fb l = gb l) : pa fa fb k u v = pa ga gb k u v := by
  induction k generalizing u v with
  | zero => rfl
  | succ k ih =>
    have i1 := fun {u v : Nat} => ih (u := u) (v := v) (fun l hl => h l (by omega))
    have i2 := fun {v : Nat} => cg_ld (v := v) (k := k) (fun l hl => h l (Nat.lt_succ_of_lt hl))
    obtain ⟨h1, h2⟩ := h k (by omega)
    rw [pa_s, pa_s, i2 (v := fa k), i2 (v := fb k), i2 (v := u), i2 (v := v), i1 (u := u) (v := v), i1 (u := u) (v := fa k), i1 (u := fb k) (v := v), i1 (u := u) (v := fb k), i1 (u := fa k) (v := v), h1, h2]
theorem cg_hC (h : ∀ l, l < k → fa l = ga l ∧ fb l = gb l) : hC fa fb k t = hC ga gb k t := by
  induction k generalizing t with
  | zero => rfl
  | succ k ih =>
    have i1 := fun {t : Nat} => ih (t := t) (fun l hl => h l (by omega))
    have h' : ∀ l, l < k → fa l = ga l ∧ fb l = gb l := fun l hl => h l (by omega)
    obtain ⟨h1, h2⟩ := h k (by omega)
    rw [hC_s, hC_s, i1, cg_ld h', cg_ld h', cg_pa h', h1, h2]
theorem cg_hB (h : ∀ l, l < k → fa l = ga l ∧ fb l = gb l) : hB n fa fb k = hB n ga gb k := by
  induction k with
  | zero => rfl
  | succ k ih =>
    have i1 := ih (fun l hl => h l (by omega))
    have h' : ∀ l, l < k → fa l = ga l ∧ fb l = gb l := fun l hl => h l (by omega)
    obtain ⟨h1, h2⟩ := h k (by omega)
    have e : sB fa fb (hB n ga gb k) k = sB ga gb (hB n ga gb k) k := by unfold sB; rw [cg_pa h', h1, h2]
    rw [hB_s, hB_s, i1, e, cg_ld h', cg_ld h', h1, h2]
theorem cg_hL (h : ∀ l, l < k → fa l = ga l ∧ fb l = gb l) : hL n fa fb k = hL n ga gb k := by
  induction k with
  | zero => rfl
  | succ k ih =>
    have i1 := ih (fun l hl => h l (by omega))
    have h' : ∀ l, l < k → fa l = ga l ∧ fb l = gb l := fun l hl => h l (by omega)
    obtain ⟨h1, h2⟩ := h k (by omega)
    have e : sL fa fb (hL n ga gb k) k = sL ga gb (hL n ga gb k) k := by unfold sL; rw [h1, h2]
    rw [hL_s, hL_s, i1, e, cg_ld h', cg_ld h', h1, h2]
theorem cg_hP (h : ∀ l, l < k → fa l = ga l ∧ fb l = gb l) : hP fa fb k = hP ga gb k := by
  induction k with
  | zero => rfl
  | succ k ih =>
    have i1 := ih (fun l hl => h l (by omega))
    have h' : ∀ l, l < k → fa l = ga l ∧ fb l = gb l := fun l hl => h l (by omega)
    obtain ⟨h1, h2⟩ := h k (by omega)
    have e : sP fa fb (hP ga gb k) k = sP ga gb (hP ga gb k) k := by unfold sP; rw [cg_pa h', h1, h2]
    rw [hP_s, hP_s, i1, e, cg_ld h', cg_ld h', h1, h2]
theorem cg_hR (h : ∀ l, l < k → fa l = ga l ∧ fb l = gb l) : hR n fa fb k v = hR n ga gb k v := by
  induction k generalizing v with
  | zero => rfl
  | succ k ih =>
    have i1 := fun {v : Nat} => ih (v := v) (fun l hl => h l (by omega))
    have h' : ∀ l, l < k → fa l = ga l ∧ fb l = gb l := fun l hl => h l (by omega)
    have hL1 := cg_hL (n := n) h
    have hL0 := cg_hL (n := n) h'
    obtain ⟨h1, h2⟩ := h k (by omega)
    rw [hR_s, hR_s, i1, i1, i1, cg_ld h', cg_ld h', cg_ld h', hL1, hL0, h1, h2]
end W16
