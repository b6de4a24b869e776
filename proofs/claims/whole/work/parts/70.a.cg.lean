/-! CALLS 1: another link: the same from the same links; reading again -/
section K1
variable {fa fb ga gb : Nat → Nat} {n k m r u v b : Nat} {X Y : SBS} {M x y q : MdS}
theorem cg_bnm (h : ∀ l, l < k → fa l = ga l ∧ fb l = gb l) : bnm n fa fb k = bnm n ga gb k := by
  unfold bnm
  rw [cg_hB h]
theorem cg_qb (h : ∀ l, l < k → fa l = ga l ∧ fb l = gb l) : qb fa fb k = qb ga gb k := by
  funext t
  unfold qb
  rw [cg_hC h]
theorem cg_fw (h : ∀ l, l < k → fa l = ga l ∧ fb l = gb l) {q : Nat → Bool} : fw fa fb q k u v = fw ga gb q k u v := by
  unfold fw
  rw [cg_pa h]
theorem cg_bup (h : ∀ l, l < k → fa l = ga l ∧ fb l = gb l) : bup n fa fb k b = bup n ga gb k b := by
  unfold bup
  rw [cg_bnm h, cg_qb h, cg_fw h, cg_hR h]
theorem RefK_cg (h : ∀ l, l < k → fa l = ga l ∧ fb l = gb l) (hr : RefK n fa fb k x) : RefK n ga gb k x := by
  obtain ⟨h1, h2, h3, h4⟩ := hr
  rw [cg_hB h] at h1
  rw [cg_hL h] at h2
  refine ⟨h1, h2, fun b hb hl => ?_, fun l hl => ?_⟩
  · rw [← cg_hB h] at hl
    rw [← cg_bup h]
    exact h3 b hb hl
  · rw [← cg_hC h]
    exact h4 l hl
theorem LatR_cg (h : ∀ l, l < k + 1 → fa l = ga l ∧ fb l = gb l) (hr : LatR n k fa fb x) : LatR n k ga gb x := by
  have h' : ∀ l, l < k → fa l = ga l ∧ fb l = gb l := fun l hl => h l (by omega)
  have e1 := (h k (Nat.lt_succ_self k)).1
  have e2 := (h k (Nat.lt_succ_self k)).2
  have eT : TL fa fb k ↔ TL ga gb k := by
    unfold TL
    rw [cg_ld h', cg_ld h', e1, e2]
  have eE : tE n fa fb k = tE n ga gb k := by
    unfold tE
    rw [cg_hL h, cg_hL h', e1, e2]
  unfold LatR at hr ⊢
  rw [cg_bnm h', cg_qb h', cg_hR h', cg_fw h', cg_fw h', eE, eT, e1, e2] at hr
  exact hr
theorem RunAt_cg (h : ∀ l, l < r → fa l = ga l ∧ fb l = gb l) (hr : RunAt n fa fb r x) : RunAt n ga gb r x := by
  obtain ⟨h1, h2, h3⟩ := hr
  refine ⟨h1, RefK_cg h h2, fun k e => ?_⟩
  subst e
  exact LatR_cg h (h3 k rfl)
theorem PRI_cg (h : ∀ l, l < m → fa l = ga l ∧ fb l = gb l) (hr : PRI fa fb m x) : PRI ga gb m x := by
  rcases hr with z | ⟨r, hr, z1, z2⟩
  · exact Or.inl z
  · refine Or.inr ⟨r, hr, z1, fun b hb => ?_⟩
    rw [← cg_hP (fun l hl => h l (by omega))]
    exact z2 b hb
theorem PRI_le (h : PRI fa fb k x) (hk : k ≤ m) : PRI fa fb m x := by
  rcases h with z | ⟨r, hr, z⟩
  · exact Or.inl z
  · exact Or.inr ⟨r, by omega, z⟩
/-- reading again -/
theorem readAgain_ok (hv : HV n m fa fb) (hW : WbL n m fa fb (SB_now X)) : Ok (SB_m_readAgain X) (fun Y => CI n m fa fb Y ∧ SB_drawn Y = SB_drawn X ∧ SB_now Y = SB_now X) := by
  obtain ⟨v0, v1, v2, v3, v4⟩ := hv
  unfold SB_m_readAgain
  refine Ok_then (readF_ok v3 v1 v2 hW.1) (fun g hg => ?_)
  have e : SB_now (SB_set_forest X g) = SB_now X := rfl
  rw [e]
  refine Ok_then (readP_ok v3 v1 v2 v4 hW.1) (fun g2 hg2 => Ok_some ⟨⟨hW, hg, hg2⟩, rfl, rfl⟩)
/-- one link more -/
def uf (f : Nat → Nat) (k u : Nat) : Nat → Nat := fun l => if l = k then u else f l
theorem uf_s {f : Nat → Nat} : uf f k u k = u := if_pos rfl
theorem uf_n {f : Nat → Nat} {l : Nat} (h : l ≠ k) : uf f k u l = f l := if_neg h
theorem uf_cg : ∀ l, l < m → fa l = uf fa m u l ∧ fb l = uf fb m v l := fun l hl => ⟨(uf_n (by omega)).symm, (uf_n (by omega)).symm⟩
theorem HV_more (hv : HV n m fa fb) (hm : m < 64) (hu : u < n) (hw : v < n) (hne : u ≠ v) : HV n (m + 1) (uf fa m u) (uf fb m v) := by
  obtain ⟨v0, v1, v2, v3, v4⟩ := hv
  refine ⟨v0, v1, by omega, fun l hl => ?_, fun l hl => ?_⟩
  · by_cases e : l = m
    · rw [e, uf_s, uf_s]; exact ⟨hu, hw⟩
    · rw [uf_n e, uf_n e]; exact v3 l (by omega)
  · by_cases e : l = m
    · rw [e, uf_s, uf_s]; exact hne
    · rw [uf_n e, uf_n e]; exact v4 l (by omega)
/-- a link is laid in the reference -/
theorem laysR_ok (hm : m < 64) (h : RI n m fa fb x) {w1 w2 : Int32} (h1 : w1.toInt = (u : Int)) (h2 : w2.toInt = (v : Int)) : Ok (Md_m_lays x w1 w2) (fun q => RI n (m + 1) (uf fa m u) (uf fb m v) q ∧ Md_state q = Md_state x ∧ Md_n q = Md_n x) := by
  obtain ⟨r1, r2, r3, r4, r5⟩ := h
  unfold Md_m_lays
  have e1 : ∀ f, Md_m (Md_set_first x f) = Md_m x := fun _ => rfl
  have e2 : ∀ f, Md_second (Md_set_first x f) = Md_second x := fun _ => rfl
  refine Ok_wrb r2 hm ?_
  rw [e1, e2]
  refine Ok_wrb r2 hm ?_
  have hm2 : ∀ f g, Md_m (Md_set_second (Md_set_first x f) g) = Md_m x := fun _ _ => rfl
  rw [hm2]
  have hq : ∀ f g w, ∃ q, q = Md_set_m (Md_set_second (Md_set_first x f) g) w ∧ Md_n q = Md_n x ∧ Md_m q = w ∧ Md_state q = Md_state x ∧ Md_first q = f ∧ Md_second q = g ∧ (∀ r ga gb, RunAt n ga gb r x → RunAt n ga gb r q) ∧ Md_run q = Md_run x ∧ (∀ k, PRI (uf fa m u) (uf fb m v) k x → PRI (uf fa m u) (uf fb m v) k q) := fun f g w => ⟨_, rfl, rfl, rfl, rfl, rfl, rfl, fun r ga gb z => z, rfl, fun k z => z⟩
  obtain ⟨q, eq, q1, q2, q3, q4, q5, q6, q7, q8⟩ := hq (va_up (Md_first x) m w1) (va_up (Md_second x) m w2) (Md_m x + 1)
  rw [← eq]
  refine Ok_some ⟨⟨by rw [q1]; exact r1, by rw [q2]; exact nx_s r2 (by omega), fun l hl => ?_, ?_, q8 _ (PRI_le (PRI_cg uf_cg r5) (Nat.le_succ m))⟩, q3, q1⟩
  · rw [q4, q5]
    by_cases e : l = m
    · rw [e, vu_s, vu_s, uf_s, uf_s]; exact ⟨h1, h2⟩
    · rw [vu_n e, vu_n e, uf_n e, uf_n e]; exact r3 l (by omega)
  · rw [q7]
    rcases r4 with z | ⟨r, hr, z⟩
    · exact Or.inl z
    · exact Or.inr ⟨r, by omega, q6 r _ _ (RunAt_cg (fun l hl => uf_cg (m := m) l (by omega)) z)⟩
end K1
