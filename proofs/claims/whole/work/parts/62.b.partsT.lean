/-! THEORY 19: parts lie within blocks, within lands; bridges counted -/
section W19
variable {fa fb : Nat → Nat} {n k m u v w t r z a b f : Nat} {L M : List (Nat × Nat)}
/-- ends of a ring's links are safe together -/
theorem ring_safe (hf : f < m) (hT : ¬ TL fa fb f) (ht : t ∈ lks (pa fa fb f (fa f) (fb f))) : safe fa fb m (fa f) (fa t) ∧ safe fa fb m (fa f) (fb t) ∧ safe fa fb m (fa f) (fb f) := by
  have hl := nt_ld hT
  have hlm : ld fa fb m (fa f) = ld fa fb m (fb f) := ld_mono (Nat.le_of_lt hf) hl
  have hp : pa fa fb m (fa f) (fb f) = pa fa fb f (fa f) (fb f) := cov_pa hf hT
  have hnb : ∀ s, s ∈ lks (pa fa fb m (fa f) (fb f)) → ¬ brg fa fb m s := fun s hs hb => brg_ring hb hf hT hs
  have on : ∀ y, onW fa fb m (fa f) (fb f) y → safe fa fb m (fa f) y := by
    intro y hy
    refine ⟨hy.1, fun s hs => hnb s ?_⟩
    rw [hy.2, lks_app]
    exact List.mem_append_left _ hs
  have ht' : t ∈ lks (pa fa fb m (fa f) (fb f)) := by rw [hp]; exact ht
  have h2 := onW_lk hlm ht' (show isE fa fb t (fa t) (fb t) from Or.inl ⟨rfl, rfl⟩)
  exact ⟨on _ h2.1, on _ h2.2, on _ (onW_b hlm)⟩
theorem part_blk (hV : Vd fa fb n m) (ha : a < m) (hb : b < m) (h : pe fa fb m a = pe fa fb m b) {c : Nat} : (bnm n fa fb m (fa a) = c ∧ bnm n fa fb m (fb a) = c) ↔ (bnm n fa fb m (fa b) = c ∧ bnm n fa fb m (fb b) = c) := by
  refine pe_fine (C := fun l => bnm n fa fb m (fa l) = c ∧ bnm n fa fb m (fb l) = c) (k := m) (fun f hf hT t ht => ?_) ha hb h
  have hs := ring_safe (m := m) hf hT ht
  have htf := pa_red.2 t ht
  have hvf := hV f hf
  have hvt := hV t (by omega)
  have e1 : bnm n fa fb m (fa f) = bnm n fa fb m (fa t) := (blk_same hV hvf.1 hvt.1).mpr hs.1
  have e2 : bnm n fa fb m (fa f) = bnm n fa fb m (fb t) := (blk_same hV hvf.1 hvt.2).mpr hs.2.1
  have e3 : bnm n fa fb m (fa f) = bnm n fa fb m (fb f) := (blk_same hV hvf.1 hvf.2).mpr hs.2.2
  show _ ∧ _ ↔ _ ∧ _
  rw [← e1, ← e2, ← e3]
theorem lnm_link (hV : Vd fa fb n m) (ha : a < m) : lnm n fa fb m (fa a) = lnm n fa fb m (fb a) := (land_same hV (hV a ha).1 (hV a ha).2).mpr (ld_link ha)
theorem part_lnd (hV : Vd fa fb n m) (ha : a < m) (hb : b < m) (h : pe fa fb m a = pe fa fb m b) {c : Nat} : (lnm n fa fb m (fa a) = c ∧ lnm n fa fb m (fb a) = c) ↔ (lnm n fa fb m (fa b) = c ∧ lnm n fa fb m (fb b) = c) := by
  refine pe_fine (C := fun l => lnm n fa fb m (fa l) = c ∧ lnm n fa fb m (fb l) = c) (k := m) (fun f hf hT t ht => ?_) ha hb h
  have htf := pa_red.2 t ht
  have hvf := hV f hf
  have hvt := hV t (by omega)
  have hl := pa_land (nt_ld hT) ht
  have e1 : lnm n fa fb m (fa t) = lnm n fa fb m (fa f) := (land_same hV hvt.1 hvf.1).mpr (ld_mono (Nat.le_of_lt hf) hl)
  show _ ∧ _ ↔ _ ∧ _
  rw [← lnm_link hV hf, ← lnm_link hV (show t < m by omega), e1]
/-- within a block: no bridge -/
theorem blk_link (hV : Vd fa fb n m) (ha : a < m) : ¬ brg fa fb m a ↔ bnm n fa fb m (fa a) = bnm n fa fb m (fb a) := by
  rw [link_safe ha]
  exact (blk_same hV (hV a ha).1 (hV a ha).2).symm
/-- the bridges, one link on -/
theorem brgs_tree (hT : TL fa fb k) : cnt (brg fa fb (k + 1)) (k + 1) = cnt (brg fa fb k) k + 1 := by
  rw [cnt_t (brg_new hT)]
  exact congrArg (· + 1) (cnt_congr (fun t ht => brg_tree hT ht))
theorem brgs_ring (hT : ¬ TL fa fb k) : cnt (brg fa fb (k + 1)) (k + 1) + (fw fa fb (qb fa fb k) k (fa k) (fb k)).length = cnt (brg fa fb k) k := by
  have hl := nt_ld hT
  have hnk : ¬ brg fa fb (k + 1) k := fun z => hT z.2.1
  rw [cnt_f hnk, cnt_congr (fun t ht => brg_close hT ht)]
  have hnd : (lks (fw fa fb (qb fa fb k) k (fa k) (fb k))).Nodup := by
    have := pa_nodup hl
    unfold fw lks at *
    exact List.Sublist.nodup (List.Sublist.map _ List.filter_sublist) this
  have hlen : (fw fa fb (qb fa fb k) k (fa k) (fb k)).length = cnt (fun t => t ∈ lks (fw fa fb (qb fa fb k) k (fa k) (fb k))) k := by
    rw [← nodup_cnt2 hnd (fun t ht => pa_red.2 t (fw_lk.mp ht).1)]
    unfold lks
    rw [List.length_map]
  rw [hlen, cnt_sum, cnt_sum, cnt_sum, ← sumN_add]
  refine sumN_congr (fun t ht => ?_)
  have hq := qb_iff (fa := fa) (fb := fb) ht
  by_cases h1 : brg fa fb k t
  · by_cases h2 : t ∈ lks (pa fa fb k (fa k) (fb k))
    · rw [bb_f (fun z => z.2 h2), bb_t h1, bb_t (fw_lk.mpr ⟨h2, hq.mpr h1⟩)]
    · rw [bb_t ⟨h1, h2⟩, bb_t h1, bb_f (fun z => h2 (fw_lk.mp z).1)]
  · rw [bb_f (fun z => h1 z.1), bb_f h1, bb_f (fun z => h1 (hq.mp (fw_lk.mp z).2))]
end W19
