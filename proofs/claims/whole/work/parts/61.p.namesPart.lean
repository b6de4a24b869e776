/-! REFERENCE 25: a link more is named; all links named -/
section R25
variable {fa fb : Nat → Nat} {n k m r : Nat} {x y z : MdS}
theorem lz_partRun_parts {w : Int32} : Md_partRun (Md_set_parts x w) = Md_partRun x := rfl
theorem lz_partRun_partOf {f : Nat → Int32} : Md_partRun (Md_set_partOf x f) = Md_partRun x := rfl
theorem lz_partName_parts {w : Int32} : Md_partName (Md_set_parts x w) = Md_partName x := rfl
theorem lz_partName_partOf {f : Nat → Int32} : Md_partName (Md_set_partOf x f) = Md_partName x := rfl
theorem lz_partEnded_parts {w : Int32} : Md_partEnded (Md_set_parts x w) = Md_partEnded x := rfl
theorem lz_partEnded_partOf {f : Nat → Int32} : Md_partEnded (Md_set_partOf x f) = Md_partEnded x := rfl
theorem lz_partInto_parts {w : Int32} : Md_partInto (Md_set_parts x w) = Md_partInto x := rfl
theorem lz_partInto_partOf {f : Nat → Int32} : Md_partInto (Md_set_partOf x f) = Md_partInto x := rfl
theorem lz_partMost_parts {w : Int32} : Md_partMost (Md_set_parts x w) = Md_partMost x := rfl
theorem lz_partMost_partOf {f : Nat → Int32} : Md_partMost (Md_set_partOf x f) = Md_partMost x := rfl
theorem lz_partEnded_partName {f : Nat → Int32} : Md_partEnded (Md_set_partName x f) = Md_partEnded x := rfl
theorem lz_partInto_partName {f : Nat → Int32} : Md_partInto (Md_set_partName x f) = Md_partInto x := rfl
theorem lz_partInto_partEnded {f : Nat → Int32} : Md_partInto (Md_set_partEnded x f) = Md_partInto x := rfl
theorem lz_partMost_partName {f : Nat → Int32} : Md_partMost (Md_set_partName x f) = Md_partMost x := rfl
theorem lz_partMost_partEnded {f : Nat → Int32} : Md_partMost (Md_set_partEnded x f) = Md_partMost x := rfl
theorem lz_partMost_partInto {f : Nat → Int32} : Md_partMost (Md_set_partInto x f) = Md_partMost x := rfl
theorem lz_partRun_partName {f : Nat → Int32} : Md_partRun (Md_set_partName x f) = Md_partRun x := rfl
theorem lz_partRun_partEnded {f : Nat → Int32} : Md_partRun (Md_set_partEnded x f) = Md_partRun x := rfl
theorem lz_partRun_partInto {f : Nat → Int32} : Md_partRun (Md_set_partInto x f) = Md_partRun x := rfl
theorem lz_partRun_partMost {f : Nat → Int32} : Md_partRun (Md_set_partMost x f) = Md_partRun x := rfl
theorem lz_N4_run {na en it mx : Nat → Int32} : Md_partRun (N4 x na en it mx) = Md_partRun x := by unfold N4; rw [lz_partRun_partMost, lz_partRun_partInto, lz_partRun_partEnded, lz_partRun_partName]
theorem namesPart_ok (hV : Vd fa fb n (k + 1)) (hn : n ≤ 32) (hk : k < 64) (hne : ∀ l, l < k + 1 → fa l ≠ fb l) (hf : ∀ l, l < k + 1 → (Md_first x l).toInt = (fa l : Int) ∧ (Md_second x l).toInt = (fb l : Int)) (hnn : (Md_n x).toInt = (n : Int)) (hp : PN fa fb k x) {v1 : Int32} (h1 : v1.toInt = (k : Int)) :
    Ok (Md_m_namesPart x v1) (fun y => PN fa fb (k + 1) y ∧ Fp x y ∧ Md_partRun y = Md_partRun x) := by
  unfold Md_m_namesPart
  refine Ok_then (laysParts_ok (lk := -1) (nd := -1) hV hn (by omega) hne hf hnn (nx_s h1 (by omega))) (fun g6 hg => ?_)
  obtain ⟨f, P, w, e, hPI, hS, hfP, hw⟩ := hg
  have hlp : ∀ a b, a < k + 1 → b < k + 1 → (P a = P b ↔ pe fa fb (k + 1) a = pe fa fb (k + 1) b) := fun a b ha hb => laid_pe hV (by omega) hne no_out hPI hS ha hb
  have hPo : ∀ l, l < k + 1 → (f l).toInt = (P l : Int) := fun l hl => (hfP l (by omega)).2 (fun z => no_out l z.2)
  obtain ⟨n0, n1, n2, n3⟩ := (hP_fresh (fa := fa) (fb := fb) (k := k)).2 k (Nat.le_refl k)
  have hFp : Fp x g6 := by rw [e]; exact Fp_lay
  have hpr : Md_partRun g6 = Md_partRun x := by rw [e, lz_partRun_parts, lz_partRun_partOf]
  have hxo : Md_partOf g6 = f := by rw [e, Pr_p, Pq_p]
  have y1 : Md_partName g6 = Md_partName x := by rw [e, lz_partName_parts, lz_partName_partOf]
  have y2 : Md_partEnded g6 = Md_partEnded x := by rw [e, lz_partEnded_parts, lz_partEnded_partOf]
  have y3 : Md_partInto g6 = Md_partInto x := by rw [e, lz_partInto_parts, lz_partInto_partOf]
  have y4 : Md_partMost g6 = Md_partMost x := by rw [e, lz_partMost_parts, lz_partMost_partOf]
  clear e
  refine Ok_wrb h1 hk ?_
  rw [y1, lz_partEnded_partName, y2]
  refine Ok_wrb h1 hk ?_
  rw [lz_partInto_partEnded, lz_partInto_partName, y3]
  refine Ok_wrb h1 hk ?_
  rw [lz_partMost_partInto, lz_partMost_partEnded, lz_partMost_partName, y4]
  refine Ok_wrb h1 hk ?_
  show Ok (iter (fun p : Int32 × Int32 => Md_m_namesPart_s41 (N4 g6 (va_up (Md_partName x) k v1) (va_up (Md_partEnded x) k (-1)) (va_up (Md_partInto x) k (-1)) (va_up (Md_partMost x) k 1)) v1 p.1 p.2) FU (v1, 0)) _
  have hN : ∀ l, l < k + 1 → (va_up (Md_partName x) k v1 l).toInt = (N_of (hP fa fb k) l : Int) := by
    intro l hl
    by_cases e : l = k
    · rw [e, vu_s, h1, n0]
    · rw [vu_n e]; exact (hp l (by omega)).1
  have hEn : ∀ l, l < k + 1 → (va_up (Md_partEnded x) k (-1) l).toInt = N_en (hP fa fb k) l := by
    intro l hl
    by_cases e : l = k
    · rw [e, vu_s, n1, i32_m1]
    · rw [vu_n e]; exact (hp l (by omega)).2.1
  have hIt : ∀ l, l < k + 1 → (va_up (Md_partInto x) k (-1) l).toInt = N_it (hP fa fb k) l := by
    intro l hl
    by_cases e : l = k
    · rw [e, vu_s, n2, i32_m1]
    · rw [vu_n e]; exact (hp l (by omega)).2.2.1
  have hMx : ∀ l, l < k + 1 → (va_up (Md_partMost x) k 1 l).toInt = (N_mx (hP fa fb k) l : Int) := by
    intro l hl
    by_cases e : l = k
    · rw [e, vu_s, n3, i32_1]; rfl
    · rw [vu_n e]; exact (hp l (by omega)).2.2.2
  have hNl : ∀ l, l < k + 1 → N_of (hP fa fb k) l < 64 := by
    intro l hl
    by_cases e : l = k
    · rw [e, n0]; exact hk
    · have := ((hP_fresh (fa := fa) (fb := fb) (k := k)).1.1 l (by omega)).1; omega
  generalize va_up (Md_partName x) k v1 = na at *
  generalize va_up (Md_partEnded x) k (-1) = en at *
  generalize va_up (Md_partInto x) k (-1) = it at *
  generalize va_up (Md_partMost x) k 1 = mx at *
  have hxo' : Md_partOf (N4 g6 na en it mx) = f := by rw [N4_po]; exact hxo
  refine names_best (N := N_of (hP fa fb k)) (P := P) hk (by rw [N4_na]; exact hN) (by rw [hxo']; exact hPo) h1 (fun w2 B hw2 hB => ?_)
  obtain ⟨c1, c2, c3, c4, c5, c6⟩ := names_hist (W := fun q => P q = P k) (fun q hq => hlp q k (by omega) (Nat.lt_succ_self k)) rfl hB
  refine names_ended (N := N_of (hP fa fb k)) (P := P) hk hN hNl (by rw [hxo]; exact hPo) h1 hw2 (fun en' it' hei => ?_)
  have hB64 : B < 64 := by omega
  refine Ok_mono (names_kept (N := N_of (hP fa fb k)) (P := P) (M := N_mx (hP fa fb k) B) hk hB64 hN (by rw [hxo]; exact hPo) (hMx B c1) h1 hw2) (fun y hy => ?_)
  obtain ⟨na', mx', e, k1, k2, k3, k4⟩ := hy
  subst e
  have hKq : ∀ l, l < k + 1 → KeptQ k P (N_of (hP fa fb k)) B l = N_of (hP fa fb (k + 1)) l := by
    intro l hl
    unfold KeptQ
    by_cases q : P l = P k
    · rw [if_pos q, (c2 l hl).1 q]
    · rw [if_neg q, (c2 l hl).2 q]
  have hc : cnt (fun l => KeptQ k P (N_of (hP fa fb k)) B l = B) (k + 1) = N_mx (hP fa fb (k + 1)) B := by
    rw [((hP_fresh (fa := fa) (fb := fb) (k := k + 1)).1.2.2.1 B c1 c5).1, cntN_cnt]
    exact cnt_congr (fun l hl => by rw [hKq l hl])
  have hle : N_mx (hP fa fb k) B ≤ N_mx (hP fa fb (k + 1)) B := by
    rw [← hc, ← szP c1 c6]
    refine cnt_imp (fun l hl e => ?_)
    unfold KeptQ
    by_cases q : P l = P k
    · rw [if_pos q]
    · rw [if_neg q]; exact e
  refine ⟨fun b hb => ?_, Fp_trans hFp Fp_N4, by rw [lz_N4_run]; exact hpr⟩
  rw [N4_na, N4_en, N4_it, N4_mx]
  refine ⟨by rw [k1 b hb, hKq b hb], ?_, ?_, ?_⟩
  · by_cases q : EndQ k (fun q => P q = P k) (N_of (hP fa fb k)) B (k + 1) b
    · rw [((hei b (by omega)).1 q).1, ((c3 b hb).1 q).1, h1]
    · rw [((hei b (by omega)).2 q).1, ((c3 b hb).2 q).1]; exact hEn b hb
  · by_cases q : EndQ k (fun q => P q = P k) (N_of (hP fa fb k)) B (k + 1) b
    · rw [((hei b (by omega)).1 q).2, ((c3 b hb).1 q).2, hw2]
    · rw [((hei b (by omega)).2 q).2, ((c3 b hb).2 q).2]; exact hIt b hb
  · by_cases q : b = B
    · rw [q, k3, hc, Nat.max_eq_right hle]
    · rw [k4 b q, c4 b hb q]; exact hMx b hb
/-- how far the naming is -/
def PRI (fa fb : Nat → Nat) (m : Nat) (x : MdS) : Prop := (Md_partRun x).toInt = -1 ∨ ∃ r, r ≤ m ∧ (Md_partRun x).toInt = (r : Int) ∧ PN fa fb r x
theorem runsParts_ok (hV : Vd fa fb n m) (hn : n ≤ 32) (hm : m ≤ 64) (hne : ∀ l, l < m → fa l ≠ fb l) (hf : ∀ l, l < m → (Md_first x l).toInt = (fa l : Int) ∧ (Md_second x l).toInt = (fb l : Int)) (hnn : (Md_n x).toInt = (n : Int)) (hmm : (Md_m x).toInt = (m : Int)) (hr : PRI fa fb m x) :
    Ok (Md_m_runsParts x) (fun y => (Md_partRun y).toInt = (m : Int) ∧ PN fa fb m y ∧ Fp x y) := by
  have loop : ∀ (y : MdS) (r : Nat), r ≤ m → (Md_partRun y).toInt = (r : Int) → PN fa fb r y → Fp x y → Ok (iter (fun p : MdS => Md_m_runsParts_s24 p) FU y) (fun y => (Md_partRun y).toInt = (m : Int) ∧ PN fa fb m y ∧ Fp x y) := by
    intro y r hrm hy hpn hF
    refine Ok_upto (fun j z => (Md_partRun z).toInt = ((r + j : Nat) : Int) ∧ PN fa fb (r + j) z ∧ Fp x z) (e := m - r) (by omega) ⟨hy, hpn, hF⟩ ?_ ?_
    · intro j z hj ⟨z1, z2, z3⟩
      dsimp only [Md_m_runsParts_s24]
      have zm : Md_m z = Md_m x := z3.1.2.1
      have zn : Md_n z = Md_n x := z3.1.1
      have zf : Md_first z = Md_first x := z3.1.2.2.2.1
      have zs : Md_second z = Md_second x := z3.1.2.2.2.2.1
      rw [zm]
      refine Ok_ite (fun q => by rw [i32_le] at q; omega) (fun _ => ?_)
      refine Ok_then (namesPart_ok (Vd_le hV (show r + j + 1 ≤ m by omega)) hn (by omega) (fun l hl => hne l (by omega)) (fun l hl => by rw [zf, zs]; exact hf l (by omega)) (by rw [zn]; exact hnn) z2 z1) (fun g hg => ?_)
      refine Ok_some ⟨?_, hg.1, Fp_trans z3 (Fp_trans hg.2.1 Fp_pr)⟩
      show (Md_partRun g + 1).toInt = _
      rw [hg.2.2]
      exact nx_s (k := r + j) z1 (by omega)
    · intro z ⟨z1, z2, z3⟩
      have e : r + (m - r) = m := by omega
      rw [e] at z1 z2
      dsimp only [Md_m_runsParts_s24]
      have zm : Md_m z = Md_m x := z3.1.2.1
      rw [zm]
      exact Ok_ite (fun _ => Ok_omap (Ok_some ⟨z1, z2, z3⟩)) (fun q => by rw [i32_le] at q; omega)
  have anew : Ok (Md_m_runsParts_j19 x) (fun y => (Md_partRun y).toInt = (m : Int) ∧ PN fa fb m y ∧ Fp x y) := by
    unfold Md_m_runsParts_j19
    exact loop _ 0 (Nat.zero_le m) i32_0 (fun b hb => absurd hb (Nat.not_lt_zero b)) Fp_pr
  unfold Md_m_runsParts
  rcases hr with h | ⟨r, hrm, h1, h2⟩
  · exact Ok_ite (fun _ => anew) (fun q => absurd (i32_ext (by rw [h, i32_m1])) q)
  · refine Ok_ite (fun _ => anew) (fun _ => Ok_ite (fun q => ?_) (fun _ => anew))
    exact loop x r hrm h1 h2 Fp_refl
end R25
