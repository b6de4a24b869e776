/-! THEORY 22: the links that are kept, as a history of their own -/
noncomputable def sel (K : Nat → Prop) (m i : Nat) : Nat := @dite _ (i < cnt K m) (Classical.propDecidable _) (fun h => (part_ex h).choose) (fun _ => 0)
noncomputable def sfa (f : Nat → Nat) (K : Nat → Prop) (m i : Nat) : Nat := f (sel K m i)
section W22
variable {fa fb : Nat → Nat} {n k m u v a b t l i j c : Nat} {K Z Z2 Q : Nat → Prop} {P : Nat → Nat}
theorem sel_ok (hi : i < cnt K m) : sel K m i < m ∧ K (sel K m i) ∧ cnt K (sel K m i) = i := by
  have e : sel K m i = (part_ex hi).choose := dif_pos hi
  rw [e]
  exact (part_ex hi).choose_spec
theorem cnt_in (hl : l < m) (hK : K l) : cnt K l < cnt K m := by
  have h1 := cnt_mono (P := K) (show l + 1 ≤ m from hl)
  rw [cnt_t hK] at h1
  omega
theorem sel_cnt (hl : l < m) (hK : K l) : sel K m (cnt K l) = l := by
  obtain ⟨h1, h2, h3⟩ := sel_ok (cnt_in hl hK)
  exact part_uq h2 hK h3
theorem cnt_sel (hj : j ≤ m) : cnt (fun l => K l ∧ Q l) j = cnt (fun i => Q (sel K m i)) (cnt K j) := by
  induction j with
  | zero => rfl
  | succ j ih =>
    have h1 := ih (by omega)
    by_cases hK : K j
    · rw [cnt_t hK, cnt_s, cnt_s, h1, sel_cnt (by omega) hK]
      exact congrArg (_ + ·) (bb_congr ⟨fun z => z.2, fun z => ⟨hK, z⟩⟩)
    · rw [cnt_f hK, cnt_f (fun z => hK z.1), h1]
theorem Rch_tr {ga gb : Nat → Nat} (h : ∀ l a b, Z l → isE fa fb l a b → ∃ i, Z2 i ∧ isE ga gb i a b) (hR : Rch fa fb Z u v) : Rch ga gb Z2 u v := by
  refine hR.ind (S := fun x => Rch ga gb Z2 u x) Rch.refl (fun l a b hz he hs => ?_)
  obtain ⟨i, h1, h2⟩ := h l a b hz he
  exact hs.trans (Rch.one h1 h2)
/-- reaching in the kept history -/
theorem Rch_sel (hZ : ∀ l, Z l → l < m ∧ K l) (hZ2 : ∀ i, i < cnt K m → (Z2 i ↔ Z (sel K m i))) (hZ3 : ∀ i, Z2 i → i < cnt K m) : Rch fa fb Z u v ↔ Rch (sfa fa K m) (sfa fb K m) Z2 u v := by
  constructor
  · intro h
    refine Rch_tr (fun l a b hz he => ?_) h
    obtain ⟨h1, h2⟩ := hZ l hz
    refine ⟨cnt K l, (hZ2 _ (cnt_in h1 h2)).mpr (by rw [sel_cnt h1 h2]; exact hz), ?_⟩
    unfold isE sfa
    rw [sel_cnt h1 h2]
    exact he
  · intro h
    refine Rch_tr (fun i a b hz he => ?_) h
    exact ⟨sel K m i, (hZ2 i (hZ3 i hz)).mp hz, he⟩
theorem brg_rch (ht : t < k) : brg fa fb k t ↔ ¬ Rch fa fb (fun l => l < k ∧ l ≠ t) (fa t) (fb t) := by
  constructor
  · intro hb h
    have h2 := ((side_iff hb).mp h).2
    refine h2 ?_
    have hp : [(t, fb t)] = pa fa fb k (fa t) (fb t) := pa_uniq (k := k) ⟨⟨ht, hb.2.1⟩, E_of t, rfl⟩ trivial
    rw [← hp]
    exact List.mem_singleton.mpr rfl
  · intro h
    exact Classical.byContradiction (fun z => h ((nobrg_iff ht z).mpr (ld_link ht)))
theorem Vd_sel (hV : Vd fa fb n m) : Vd (sfa fa K m) (sfa fb K m) n (cnt K m) := fun i hi => hV _ (sel_ok hi).1
theorem ne_sel (hne : ∀ l, l < m → fa l ≠ fb l) : ∀ i, i < cnt K m → sfa fa K m i ≠ sfa fb K m i := fun i hi => hne _ (sel_ok hi).1
/-- lands: as many as first nodes -/
theorem lands_first (hV : Vd fa fb n m) : cnt (liv (hL n fa fb m)) n = cnt (fun v => ∀ u, u < v → ¬ Rch fa fb (fun l => l < m) u v) n := by
  have hI := NI_L (n := n) (k := m) hV
  have h := rep_cnt (R := fun _ => True) (r := N_of (hL n fa fb m)) (m := n) (M := n) (E := fun u v => Rch fa fb (fun l => l < m) u v) (fun v hv => (hI.1 v hv).1) (fun a b ha hb => (land_same hV ha hb).trans ld_iff)
  have h1 : cnt (liv (hL n fa fb m)) n = cnt (fun c => ∃ l, l < n ∧ True ∧ N_of (hL n fa fb m) l = c) n := cnt_congr (fun c hc => ⟨fun z => ⟨c, hc, trivial, z⟩, fun ⟨l, hl, _, e⟩ => by
    show N_of (hL n fa fb m) c = c
    rw [← e]; exact (hI.1 l hl).2⟩)
  rw [h1, h]
  exact cnt_congr (fun v hv => ⟨fun z u hu => z.2 u hu trivial, fun z => ⟨trivial, fun u hu _ => z u hu⟩⟩)
/-- the least link of a part is where the laid row says -/
theorem lp_P {S : Nat → Nat → Prop} (hm : m ≤ 64) (hPI : PI P S) (hlp : ∀ a b, a < m → b < m → (P a = P b ↔ pe fa fb m a = pe fa fb m b)) (hl : l < m) : lp fa fb m l = P l := by
  have h1 := hPI.1 l (by omega)
  have hPl : P l < m := by omega
  refine lea_uniq (by omega) (fun _ => (hlp _ _ hPl hl).mp h1.2) (fun i hi e => ?_)
  have h2 := (hlp i l (by omega) hl).mpr e
  have h3 := (hPI.1 i (by omega)).1
  omega
/-- parts of the kept links -/
theorem parts_sel {O : Nat → Prop} (hV : Vd fa fb n m) (hm : m ≤ 64) (hne : ∀ l, l < m → fa l ≠ fb l) (hK : ∀ l, K l ↔ ¬ O l) (hPI : PI P (SS n fa fb m O)) (hS : ∀ a b, SS n fa fb m O a b → P a = P b) : cnt (fun l => ¬ O l ∧ P l = l) m = cnt (fun i => lp (sfa fa K m) (sfa fb K m) (cnt K m) i = i) (cnt K m) := by
  have hM : cnt K m ≤ m := cnt_le
  -- what a kept link is in one part with is kept
  have hPk : ∀ l, l < m → K l → P l < m ∧ K (P l) := by
    intro l hl hKl
    have h1 := hPI.1 l (by omega)
    have h2 := hPI.2 (fun l => l < m ∧ ¬ O l) (fun a b ⟨v, hv, h1, h2, h3, h4, _⟩ => ⟨fun _ => ⟨by omega, h4⟩, fun _ => ⟨h2, h3⟩⟩) l (P l) (by omega) (by omega) h1.2.symm
    have h3 := h2.mp ⟨hl, (hK l).mp hKl⟩
    exact ⟨h3.1, (hK _).mpr h3.2⟩
  -- the row of the kept
  let P2 : Nat → Nat := fun i => @ite _ (i < cnt K m) (Classical.propDecidable _) (cnt K (P (sel K m i))) i
  have p2 : ∀ i, i < cnt K m → P2 i = cnt K (P (sel K m i)) := fun i hi => if_pos hi
  have p3 : ∀ i, ¬ i < cnt K m → P2 i = i := fun i hi => if_neg hi
  have p4 : ∀ i, i < cnt K m → P2 i < cnt K m := fun i hi => by
    obtain ⟨s1, s2, s3⟩ := sel_ok hi
    obtain ⟨q1, q2⟩ := hPk _ s1 s2
    rw [p2 i hi]
    exact cnt_in q1 q2
  have peq : ∀ a b, a < cnt K m → b < cnt K m → (P2 a = P2 b ↔ P (sel K m a) = P (sel K m b)) := by
    intro a b ha hb
    obtain ⟨a1, a2, a3⟩ := sel_ok ha
    obtain ⟨b1, b2, b3⟩ := sel_ok hb
    rw [p2 a ha, p2 b hb]
    exact ⟨fun z => part_uq (hPk _ a1 a2).2 (hPk _ b1 b2).2 z, fun z => by rw [z]⟩
  have hSS1 : ∀ a b, SS n fa fb m O a b → SS n (sfa fa K m) (sfa fb K m) (cnt K m) (fun _ => False) (cnt K a) (cnt K b) := by
    intro a b ⟨v, hv, h1, h2, h3, h4, p, q, e1, e2, hR⟩
    have ka := (hK a).mpr h3
    have kb := (hK b).mpr h4
    have hab := cnt_in (m := a) h1 kb
    refine ⟨v, hv, hab, cnt_in h2 ka, fun z => z, fun z => z, p, q, ?_, ?_, ?_⟩
    · unfold isE sfa; rw [sel_cnt h2 ka]; exact e1
    · unfold isE sfa; rw [sel_cnt (by omega) kb]; exact e2
    · refine (Rch_sel (K := K) (fun l hl => ⟨hl.1, (hK l).mpr hl.2.1⟩) (fun i hi => ?_) (fun i hi => hi.1)).mp hR
      have hs := sel_ok hi
      exact ⟨fun z => ⟨hs.1, (hK _).mp hs.2.1, z.2.2⟩, fun z => ⟨hi, fun q => q, z.2.2⟩⟩
  have hSS2 : ∀ a b, SS n (sfa fa K m) (sfa fb K m) (cnt K m) (fun _ => False) a b → a < cnt K m ∧ b < cnt K m ∧ SS n fa fb m O (sel K m a) (sel K m b) := by
    intro a b ⟨v, hv, h1, h2, h3, h4, p, q, e1, e2, hR⟩
    obtain ⟨a1, a2, a3⟩ := sel_ok h2
    obtain ⟨b1, b2, b3⟩ := sel_ok (show b < cnt K m by omega)
    refine ⟨h2, by omega, v, hv, ?_, a1, (hK _).mp a2, (hK _).mp b2, p, q, e1, e2, ?_⟩
    · refine Classical.byContradiction (fun z => ?_)
      have := cnt_mono (P := K) (show sel K m a ≤ sel K m b by omega)
      omega
    · refine (Rch_sel (K := K) (fun l hl => ⟨hl.1, (hK l).mpr hl.2.1⟩) (fun i hi => ?_) (fun i hi => hi.1)).mpr hR
      have hs := sel_ok hi
      exact ⟨fun z => ⟨hs.1, (hK _).mp hs.2.1, z.2.2⟩, fun z => ⟨hi, fun q => q, z.2.2⟩⟩
  have hPI2 : PI P2 (SS n (sfa fa K m) (sfa fb K m) (cnt K m) (fun _ => False)) := by
    refine ⟨fun i hi64 => ?_, fun C hC a b ha64 hb64 e => ?_⟩
    · by_cases hi : i < cnt K m
      · obtain ⟨s1, s2, s3⟩ := sel_ok hi
        obtain ⟨q1, q2⟩ := hPk _ s1 s2
        have h1 := hPI.1 (sel K m i) (by omega)
        have h5 := p4 i hi
        refine ⟨?_, ?_⟩
        · rw [p2 i hi]
          have := cnt_mono (P := K) h1.1
          omega
        · rw [p2 _ h5, p2 i hi, sel_cnt q1 q2, h1.2]
      · rw [p3 i hi, p3 i hi]; exact ⟨Nat.le_refl _, rfl⟩
    · by_cases ha : a < cnt K m
      · by_cases hb : b < cnt K m
        · obtain ⟨a1, a2, a3⟩ := sel_ok ha
          obtain ⟨b1, b2, b3⟩ := sel_ok hb
          have h1 := hPI.2 (fun l => K l ∧ C (cnt K l)) (fun a b hs => by
            have h2 := hC _ _ (hSS1 a b hs)
            obtain ⟨v, hv, q1, q2, q3, q4, _⟩ := hs
            exact ⟨fun z => ⟨(hK b).mpr q4, h2.mp z.2⟩, fun z => ⟨(hK a).mpr q3, h2.mpr z.2⟩⟩) (sel K m a) (sel K m b) (by omega) (by omega) ((peq a b ha hb).mp e)
          rw [a3, b3] at h1
          exact ⟨fun z => (h1.mp ⟨a2, z⟩).2, fun z => (h1.mpr ⟨b2, z⟩).2⟩
        · have := p4 a ha
          rw [e, p3 b hb] at this
          exact absurd this hb
      · by_cases hb : b < cnt K m
        · have := p4 b hb
          rw [← e, p3 a ha] at this
          exact absurd this ha
        · rw [p3 a ha, p3 b hb] at e
          rw [e]
  have hS2 : ∀ a b, SS n (sfa fa K m) (sfa fb K m) (cnt K m) (fun _ => False) a b → P2 a = P2 b := by
    intro a b hs
    obtain ⟨h1, h2, h3⟩ := hSS2 a b hs
    exact (peq a b h1 h2).mpr (hS _ _ h3)
  have hlp : ∀ a b, a < cnt K m → b < cnt K m → (P2 a = P2 b ↔ pe (sfa fa K m) (sfa fb K m) (cnt K m) a = pe (sfa fa K m) (sfa fb K m) (cnt K m) b) := fun a b ha hb => laid_pe (Vd_sel hV) (by omega) (ne_sel hne) (fun _ z => z) hPI2 hS2 ha hb
  have h1 : cnt (fun l => ¬ O l ∧ P l = l) m = cnt (fun l => K l ∧ P l = l) m := cnt_congr (fun l _ => by rw [hK l])
  rw [h1, cnt_sel (Nat.le_refl m)]
  refine cnt_congr (fun i hi => ?_)
  rw [lp_P (by omega) hPI2 hlp hi, p2 i hi]
  obtain ⟨s1, s2, s3⟩ := sel_ok hi
  obtain ⟨q1, q2⟩ := hPk _ s1 s2
  exact ⟨fun z => by rw [z]; exact s3, fun z => part_uq q2 s2 (z.trans s3.symm)⟩
end W22
