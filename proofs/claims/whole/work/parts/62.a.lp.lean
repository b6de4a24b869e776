/-! REFERENCE 26: the least link of a part; the parts laid, by it -/
noncomputable def lp (fa fb : Nat → Nat) (m l : Nat) : Nat := lea (fun j => pe fa fb m j = pe fa fb m l) m
/-- the parts lie -/
def PL (fa fb : Nat → Nat) (m : Nat) (x : MdS) : Prop := (∀ l, l < m → (Md_partOf x l).toInt = (lp fa fb m l : Int)) ∧ (Md_parts x).toInt = (cnt (fun l => lp fa fb m l = l) m : Int)
section R26
variable {fa fb : Nat → Nat} {n k m a b l : Nat} {x y z : MdS}
theorem lp_ok (hl : l < m) : lp fa fb m l ≤ l ∧ lp fa fb m l < m ∧ pe fa fb m (lp fa fb m l) = pe fa fb m l := lea_lt (P := fun j => pe fa fb m j = pe fa fb m l) hl rfl
theorem lp_iff (ha : a < m) (hb : b < m) : lp fa fb m a = lp fa fb m b ↔ pe fa fb m a = pe fa fb m b := by
  constructor
  · intro h
    rw [← (lp_ok (fa := fa) (fb := fb) ha).2.2, h, (lp_ok hb).2.2]
  · intro h
    unfold lp
    rw [h]
theorem lp_id (hl : l < m) : lp fa fb m (lp fa fb m l) = lp fa fb m l := (lp_iff (lp_ok hl).2.1 hl).mpr (lp_ok hl).2.2
theorem lp_first (hl : l < m) : lp fa fb m l = l ↔ ∀ j, j < l → pe fa fb m j ≠ pe fa fb m l := by
  constructor
  · intro h j hj e
    have := (lp_ok (fa := fa) (fb := fb) (l := j) (m := m) (by omega)).1
    rw [(lp_iff (by omega) hl).mpr e, h] at this
    omega
  · intro h
    have h1 := lp_ok (fa := fa) (fb := fb) hl
    by_cases e : lp fa fb m l = l
    · exact e
    · exact absurd h1.2.2 (h _ (by omega))
theorem Fst_lp (hl : l < m) : Fst fa fb m l ↔ lp fa fb m l = l := by
  rw [lp_first hl]
  unfold Fst pnm
  constructor
  · intro h j hj e
    exact h j hj ((prt_same (by omega) hl).mpr e)
  · intro h j hj e
    exact h j hj ((prt_same (by omega) hl).mp e)
theorem laysAll_ok (hV : Vd fa fb n m) (hn : n ≤ 32) (hm : m ≤ 64) (hne : ∀ l, l < m → fa l ≠ fb l) (hf : ∀ l, l < m → (Md_first x l).toInt = (fa l : Int) ∧ (Md_second x l).toInt = (fb l : Int)) (hnn : (Md_n x).toInt = (n : Int)) (hmm : (Md_m x).toInt = (m : Int)) :
    Ok (Md_m_laysAllParts x) (fun y => (∃ f w, y = Md_set_parts (Md_set_partOf x f) w) ∧ PL fa fb m y) := by
  unfold Md_m_laysAllParts
  refine Ok_then (laysParts_ok (lk := -1) (nd := -1) hV hn hm hne hf hnn hmm) (fun g6 hg => ?_)
  obtain ⟨f, P, w, e, hPI, hS, hfP, hw⟩ := hg
  subst e
  have hlp : ∀ a b, a < m → b < m → (P a = P b ↔ pe fa fb m a = pe fa fb m b) := fun a b ha hb => laid_pe hV hm hne no_out hPI hS ha hb
  have hP : ∀ l, l < m → lp fa fb m l = P l := by
    intro l hl
    have h1 := hPI.1 l (by omega)
    have hPl : P l < m := by omega
    refine lea_uniq (by omega) (fun _ => (hlp _ _ hPl hl).mp h1.2) (fun i hi e => ?_)
    have h2 := (hlp i l (by omega) hl).mpr e
    have h3 := (hPI.1 i (by omega)).1
    omega
  refine Ok_some ⟨⟨f, w, rfl⟩, fun l hl => ?_, ?_⟩
  · show (f l).toInt = _
    rw [(hfP l (by omega)).2 (fun z => no_out l z.2), hP l hl]
  · show w.toInt = _
    rw [hw]
    exact congrArg (fun c : Nat => (c : Int)) (cnt_congr (fun l hl => by
      rw [hP l hl]
      exact ⟨fun z => z.2, fun z => ⟨no_out l, z⟩⟩))
end R26
