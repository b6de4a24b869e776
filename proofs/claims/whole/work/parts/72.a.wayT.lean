/-! THEORY 21: ways: bridges, names, nodes between; since when -/
section W21
variable {fa fb : Nat → Nat} {n k m u v w t r z y a b c l j : Nat} {L P : List (Nat × Nat)}
theorem way_set (hV : Vd fa fb n m) (hu : u < n) (hv : v < n) (hl : ld fa fb m u = ld fa fb m v) : (nds u (pa fa fb m u v)).any (fun y => N_of (hB n fa fb m) y == j) = true ↔ j ∈ bnm n fa fb m u :: nmL (bnm n fa fb m) (fw fa fb (qb fa fb m) m (bnm n fa fb m u) (bnm n fa fb m v)) := by
  have cg := uf_cg (fa := fa) (fb := fb) (m := m) (u := u) (v := v)
  have hV' : Vd (uf fa m u) (uf fb m v) n (m + 1) := by
    intro l hl
    by_cases e : l = m
    · rw [e, uf_s, uf_s]; exact ⟨hu, hv⟩
    · rw [uf_n e, uf_n e]; exact hV l (by omega)
  have hc : ld (uf fa m u) (uf fb m v) m (uf fa m u m) = ld (uf fa m u) (uf fb m v) m (uf fb m v m) := by
    rw [← cg_ld cg, ← cg_ld cg, uf_s, uf_s]; exact hl
  have h1 := sB_rgS (b := j) hV' hc
  have h2 := rg_way (j := j) hV' hc
  rw [← h2] at h1
  unfold sB at h1
  rw [uf_s, uf_s, ← cg_pa cg, ← cg_bnm cg, ← cg_qb cg, ← cg_fw cg, ← cg_hB cg] at h1
  exact h1
theorem fw_bb (hV : Vd fa fb n m) (hu : u < n) (hv : v < n) (hl : ld fa fb m u = ld fa fb m v) : (fw fa fb (qb fa fb m) m (bnm n fa fb m u) (bnm n fa fb m v)).length = (fw fa fb (qb fa fb m) m u v).length := by
  have sv := bnm_same (k := m) (fa := fa) (fb := fb) hV hv
  have su := bnm_same (k := m) (fa := fa) (fb := fb) hV hu
  rw [fw_bnm hV hu (hl.trans sv.1.symm)]
  exact fw_len_same sv.1 sv.2 hl.symm
theorem pf_qb {L : List Nat} (h : ∀ t, t ∈ L → t < m) : pf (brg fa fb m) L = L.filter (qb fa fb m) := by
  unfold pf
  refine List.filter_congr (fun t ht => ?_)
  have h1 := qb_iff (fa := fa) (fb := fb) (h t ht)
  have h2 := bB_iff (p := brg fa fb m t)
  cases e1 : qb fa fb m t with
  | true => rw [e1] at h1; exact h2.mpr (h1.mp rfl)
  | false =>
    rw [e1] at h1
    refine Bool.eq_false_iff.mpr (fun z => ?_)
    exact absurd (h1.mpr (h2.mp z)) Bool.false_ne_true
theorem lks_lt {Z : Nat → Prop} (h : isW fa fb Z u L v) (hz : ∀ l, Z l → l < m) : ∀ t, t ∈ lks L → t < m := fun t ht => hz t (h.all t ht)
/-- the bridges of any way that is at no link twice -/
theorem brs_way (h : isW fa fb (fun l => l < m) u L v) (hn : (lks L).Nodup) : pf (brg fa fb m) (lks L) = lks (fw fa fb (qb fa fb m) m u v) := by
  rw [pf_qb (lks_lt h (fun l hl => hl))]
  exact brs_walk h (List.Sublist.nodup List.filter_sublist hn)
theorem brs_pa (hl : ld fa fb m u = ld fa fb m v) : pf (brg fa fb m) (lks (pa fa fb m u v)) = lks (fw fa fb (qb fa fb m) m u v) :=
  brs_way ((pa_W hl).mono (fun l _ hz => hz.1)) (pa_nodup hl)
theorem pa_nds (hV : Vd fa fb n m) (hu : u < n) (hl : ld fa fb m u = ld fa fb m v) : (nds u (pa fa fb m u v)).Nodup := by
  have h := nm_nodup (nm := idn) (q := fun _ => true) hV NmQ_id rfl hu hl
  rw [fw_true] at h
  exact h
/-- the nodes within a way -/
def inn (P : List (Nat × Nat)) : List Nat := (P.map Prod.snd).dropLast
theorem inn_len : (inn P).length = P.length - 1 := by unfold inn; rw [List.length_dropLast, List.length_map]
theorem inn_get {s : Nat × Nat} (h : P[j]? = some s) (hj : j + 1 < P.length) : (inn P)[j]? = some s.2 := by
  unfold inn
  rw [List.getElem?_dropLast, if_pos (by rw [List.length_map]; omega), List.getElem?_map, h]
  rfl
theorem nds_inn (h : isW fa fb (fun l => l < m) u P v) (hne : P ≠ []) : nds u P = u :: (inn P ++ [v]) := by
  unfold nds inn
  have h1 : P.map Prod.snd ≠ [] := fun e => hne (List.map_eq_nil_iff.mp e)
  have h2 : (P.map Prod.snd).getLast h1 = v := by
    have h3 := nds_end h
    clear h3
    revert u
    induction P with
    | nil => exact absurd rfl hne
    | cons s P ih =>
      intro u h
      by_cases e : P = []
      · subst e
        have : s.2 = v := h.2.2
        exact this
      · have h4 : P.map Prod.snd ≠ [] := fun z => e (List.map_eq_nil_iff.mp z)
        have h5 := ih e h4 h.2.2
        rw [← h5]
        show ((s.2) :: P.map Prod.snd).getLast _ = _
        exact List.getLast_cons h4
  rw [← h2, List.dropLast_concat_getLast h1]
theorem pf_inn (h : isW fa fb (fun l => l < m) u P v) (hne : P ≠ []) : pf (sep fa fb m u v) (nds u P) = pf (sep fa fb m u v) (inn P) := by
  rw [nds_inn h hne]
  have e : u :: (inn P ++ [v]) = [u] ++ (inn P ++ [v]) := rfl
  rw [e, pf_app, pf_app, pf_f (fun z => z.1 rfl), pf_f (fun z => z.2.1 rfl), List.nil_append, List.append_nil]
/-- since: the first time -/
noncomputable def sncE (T : Nat → Prop) (m : Nat) : Int := if lea T (m + 1) ≤ m then (lea T (m + 1) : Int) else -1
theorem sncE_some {T : Nat → Prop} {K : Nat} (hK : K ≤ m) (h : ∀ k, k ≤ m → (T k ↔ K ≤ k)) : sncE T m = (K : Int) := by
  have e : lea T (m + 1) = K := lea_uniq (by omega) (fun _ => (h K hK).mpr (Nat.le_refl K)) (fun i hi z => by have := (h i (by omega)).mp z; omega)
  unfold sncE
  rw [e, if_pos hK]
theorem sncE_none {T : Nat → Prop} (h : ∀ k, k ≤ m → ¬ T k) : sncE T m = -1 := by
  have e : lea T (m + 1) = m + 1 := lea_uniq (Nat.le_refl _) (fun z => absurd z (Nat.lt_irrefl _)) (fun i hi => h i (by omega))
  unfold sncE
  rw [e, if_neg (by omega)]
/-- one part with another link: both have come -/
theorem met_lt (hab : a ≠ b) (h : N_of (hP fa fb k) a = N_of (hP fa fb k) b) : a < k ∧ b < k := by
  obtain ⟨h1, h2⟩ := hP_fresh (fa := fa) (fb := fb) (k := k)
  by_cases ha : a < k
  · by_cases hb : b < k
    · exact ⟨ha, hb⟩
    · have h3 := (h2 b (by omega)).1
      have h4 := (h1.1 a ha).1
      omega
  · have h3 := (h2 a (by omega)).1
    by_cases hb : b < k
    · have h4 := (h1.1 b hb).1
      omega
    · have h4 := (h2 b (by omega)).1
      omega
/-- double-safe at a time, by neighbours on the way -/
theorem dsf_time (hne : ∀ l, l < m → fa l ≠ fb l) (hk : k ≤ m) (huv : u ≠ v) (hl : ld fa fb m u = ld fa fb m v) (h2 : 2 ≤ (pa fa fb m u v).length) :
    dsf fa fb k u v ↔ ∀ (i a b : Nat), (lks (pa fa fb m u v))[i]? = some a → (lks (pa fa fb m u v))[i + 1]? = some b → N_of (hP fa fb k) a = N_of (hP fa fb k) b := by
  have hnd := pa_nodup hl
  have hlen : (lks (pa fa fb m u v)).length = (pa fa fb m u v).length := lks_len
  constructor
  · intro h i a b ha hb
    obtain ⟨h3, h4⟩ := (dsf_iff (fun l hl2 => hne l (by omega)) huv).mp h
    have hp : pa fa fb m u v = pa fa fb k u v := pa_later h3 hk
    rw [hp] at ha hb
    have ha' := List.mem_of_getElem? ha
    have hb' := List.mem_of_getElem? hb
    exact (prt_same (pa_red.2 a ha') (pa_red.2 b hb')).mpr ((h4 a ha').2 b hb')
  · intro h
    -- all bear one name
    have get : ∀ i : Nat, i < (pa fa fb m u v).length → ∃ a, (lks (pa fa fb m u v))[i]? = some a := fun i hi => getE (by rw [hlen]; exact hi)
    obtain ⟨a0, ha0⟩ := get 0 (by omega)
    have all : ∀ (i a : Nat), (lks (pa fa fb m u v))[i]? = some a → N_of (hP fa fb k) a = N_of (hP fa fb k) a0 := by
      intro i
      induction i with
      | zero => intro a ha; rw [ha0] at ha; cases ha; rfl
      | succ i ih =>
        intro a ha
        have hi : i + 1 < (lks (pa fa fb m u v)).length := (List.getElem?_eq_some_iff.mp ha).1
        obtain ⟨c, hc⟩ := get i (by omega)
        rw [← h i c a hc ha]
        exact ih c hc
    have mem : ∀ t, t ∈ lks (pa fa fb m u v) → N_of (hP fa fb k) t = N_of (hP fa fb k) a0 := by
      intro t ht
      obtain ⟨i, hi⟩ := List.getElem?_of_mem ht
      exact all i t hi
    -- each has another beside it
    have other : ∀ t, t ∈ lks (pa fa fb m u v) → ∃ s, s ∈ lks (pa fa fb m u v) ∧ s ≠ t := by
      intro t ht
      obtain ⟨a1, ha1⟩ := get 1 (by omega)
      have hne2 : a0 ≠ a1 := by
        intro e
        rw [← e] at ha1
        have := (List.getElem?_inj (i := 0) (j := 1) (by rw [hlen]; omega) hnd).mp (ha0.trans ha1.symm)
        omega
      by_cases e : a0 = t
      · exact ⟨a1, List.mem_of_getElem? ha1, fun z => hne2 (e.trans z.symm)⟩
      · exact ⟨a0, List.mem_of_getElem? ha0, e⟩
    have hlt : ∀ t, t ∈ lks (pa fa fb m u v) → t < k := by
      intro t ht
      obtain ⟨s, hs, hst⟩ := other t ht
      exact (met_lt hst ((mem s hs).trans (mem t ht).symm)).2
    have hlk := (land_time hk hl).mpr hlt
    have hp : pa fa fb m u v = pa fa fb k u v := pa_later hlk hk
    rw [dsf_iff (fun l hl2 => hne l (by omega)) huv, ← hp]
    have hpe : ∀ t s, t ∈ lks (pa fa fb m u v) → s ∈ lks (pa fa fb m u v) → pe fa fb k t = pe fa fb k s := fun t s ht hs => (prt_same (hlt t ht) (hlt s hs)).mp ((mem t ht).trans (mem s hs).symm)
    refine ⟨hlk, fun t ht => ⟨fun hb => ?_, fun s hs => hpe t s ht hs⟩⟩
    obtain ⟨s, hs, hst⟩ := other t ht
    exact hst (brg_alone hb (hlt s hs) (hpe t s ht hs))
end W21
