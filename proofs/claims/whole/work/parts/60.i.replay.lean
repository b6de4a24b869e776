/-! REFERENCE 9: a link comes; the replay, all -/
section R9
variable {fa fb : Nat → Nat} {n k m u v b c t y r a d e o T K : Nat} {x z : MdS} {L M : List (Nat × Nat)}
theorem comes_ok (hV : Vd fa fb n (k + 1)) (hn : n ≤ 32) (hk : k < 64) (hnm : (Md_n x).toInt = (n : Int)) (hRf : RefK n fa fb k x) (hf1 : (Md_first x k).toInt = (fa k : Int)) (hf2 : (Md_second x k).toInt = (fb k : Int)) {v1 : Int32} (h1 : v1.toInt = (k : Int)) : Ok (Md_m_comes x v1) (CQ n k fa fb x) := by
  have hV' : Vd fa fb n k := Vd_le hV (Nat.le_succ k)
  have hvk := hV k (Nat.lt_succ_self k)
  obtain ⟨r0, r1, r2, r3⟩ := hRf
  have hf : ∀ j, j < n → (Md_nameOf x (32 * 0 + j)).toInt = (bnm n fa fb k j : Int) := fun j hj => (r0 j hj).1
  rw [comes_eq]
  refine Ok_rdb h1 hk (Ok_rdb h1 hk ?_)
  refine Ok_then (blockAt_ok (x := Md_set_became (Md_set_turned x 0) 1) hf1 hvk.1 hn hf) (fun g27 h27 => Ok_then (blockAt_ok (x := Md_set_firstName (Md_set_became (Md_set_turned x 0) 1) g27) hf2 hvk.2 hn hf) (fun g36 h36 => ?_))
  refine Ok_wrb h1 hk ?_
  rw [qs_closedBy_secondName, qs_closedBy_firstName, qs_closedBy_became, qs_closedBy_turned]
  have key : ∀ X : MdS, X = X2 x g27 g36 (va_up (Md_closedBy x) k v1) → Ok (comesR X v1 (Md_first x k) (Md_second x k)) (CQ n k fa fb x) := by
    intro X hX
    have hFr : Fr x X := by rw [hX]; exact Fr_X2
    have hLq : Lq X = (0, 1, g27, g36) := by rw [hX]; exact X2_Lq
    have hRX : RefK n fa fb k X := by
      rw [hX]
      refine ⟨?_, ?_, fun b hb hl => ?_, fun l hl => ?_⟩
      · rw [X2_nameOf, X2_endedBy, X2_into, X2_most]; exact r0
      · rw [X2_nameOf, X2_endedBy, X2_into, X2_most]; exact r1
      · rw [X2_parent, X2_up]; exact r2 b hb hl
      · rw [X2_closedBy, vu_n (Nat.ne_of_lt hl)]; exact r3 l hl
    have hCX : (Md_closedBy X k).toInt = (k : Int) := by rw [hX, X2_closedBy, vu_s]; exact h1
    have hnX : (Md_n X).toInt = (n : Int) := by rw [hFr.1]; exact hnm
    have e3 : Md_firstName X = g27 := congrArg (fun p : Int32 × Int32 × Int32 × Int32 => p.2.2.1) hLq
    have e4 : Md_secondName X = g36 := congrArg (fun p : Int32 × Int32 × Int32 × Int32 => p.2.2.2) hLq
    have hLq2 : Lq X = (0, 1, Md_firstName X, Md_secondName X) := by rw [e3, e4]; exact hLq
    have hfX1 : (Md_firstName X).toInt = (bnm n fa fb k (fa k) : Int) := by rw [e3]; exact h27
    have hfX2 : (Md_secondName X).toInt = (bnm n fa fb k (fb k) : Int) := by rw [e4]; exact h36
    clear hX
    unfold comesR
    have hfl : ∀ j, j < n → (Md_nameOf X (32 * 1 + j)).toInt = (lnm n fa fb k j : Int) := fun j hj => (hRX.2.1 j hj).1
    refine Ok_then (landOf_ok hf1 hvk.1 hn hfl) (fun g51 h51 => Ok_then (landOf_ok hf2 hvk.2 hn hfl) (fun g56 h56 => ?_))
    have hsame := land_same (n := n) (k := k) hV' hvk.1 hvk.2
    have up : ∀ q, CQ n k fa fb X q → CQ n k fa fb x q := fun q hq => ⟨hq.1, Fr_trans hFr hq.2.1, hq.2.2⟩
    refine Ok_ite (fun q => ?_) (fun q => ?_)
    · rw [i32_eq, h51, h56] at q
      have hl : lnm n fa fb k (fa k) = lnm n fa fb k (fb k) := by omega
      exact Ok_mono (comes_ring2 hV hn hk (fun z => z (hsame.mp hl)) hnX hRX hCX hLq2 hfX1 hfX2 h1 hf1 hf2) up
    · have hT : TL fa fb k := fun z => q (i32_ext (by rw [h51, h56]; exact congrArg (fun p : Nat => (p : Int)) (hsame.mpr z)))
      exact Ok_mono (comes_tree2 hV hn hk hT hnX hRX hLq2 hfX1 hfX2 h1 hf1 hf2) up
  exact key _ rfl
/-- how far the replay is, and what it holds -/
def RunAt (n : Nat) (fa fb : Nat → Nat) (r : Nat) (x : MdS) : Prop := (Md_run x).toInt = (r : Int) ∧ RefK n fa fb r x ∧ ∀ k, r = k + 1 → LatR n k fa fb x
theorem RefK_run {f : Int32} (h : RefK n fa fb k x) : RefK n fa fb k (Md_set_run x f) := h
theorem LatR_run {f : Int32} (h : LatR n k fa fb x) : LatR n k fa fb (Md_set_run x f) := h
theorem Md_run_run {f : Int32} : Md_run (Md_set_run x f) = f := rfl
theorem runs_ok (hV : Vd fa fb n m) (hn : n ≤ 32) (hm : m ≤ 64) (hkm : k ≤ m) (hnm : (Md_n x).toInt = (n : Int)) (hfir : ∀ l, l < m → (Md_first x l).toInt = (fa l : Int) ∧ (Md_second x l).toInt = (fb l : Int)) (hr : (Md_run x).toInt = -1 ∨ ∃ r, r ≤ 64 ∧ RunAt n fa fb r x) {v1 : Int32} (h1 : v1.toInt = (k : Int)) :
    Ok (Md_m_runs x v1) (fun q => RunAt n fa fb k q ∧ Fr0 x q) := by
  -- from a place on
  have loop : ∀ (y : MdS) (r : Nat), r ≤ k → RunAt n fa fb r y → Fr0 x y → Ok (iter (fun p : MdS => Md_m_runs_s20 v1 p) FU y) (fun q => RunAt n fa fb k q ∧ Fr0 x q) := by
    intro y r hrk hy hFr
    refine Ok_upto (fun j z => RunAt n fa fb (r + j) z ∧ Fr0 x z) (e := k - r) (by omega) ⟨hy, hFr⟩ ?_ ?_
    · intro j z hj ⟨hz, hFz⟩
      obtain ⟨z1, z2, z3⟩ := hz
      dsimp only [Md_m_runs_s20]
      refine Ok_ite (fun q => by rw [i32_le] at q; omega) (fun _ => ?_)
      have hrj : r + j < m := by omega
      have hf := hfir (r + j) hrj
      rw [← hFz.2.2.2.1, ← hFz.2.2.2.2.1] at hf
      refine Ok_then (comes_ok (Vd_le hV (show r + j + 1 ≤ m by omega)) hn (by omega) (by rw [hFz.1]; exact hnm) z2 hf.1 hf.2 z1) (fun g hg => ?_)
      refine Ok_some ⟨⟨?_, RefK_run hg.1, fun k2 e => ?_⟩, Fr0_trans hFz (Fr0_trans (Fr0_of hg.2.1) Fr0_run)⟩
      · rw [Md_run_run, hg.2.1.2.2.2.2.2.2.2.2.2.2]
        exact nx_s (k := r + j) z1 (by omega)
      · have : k2 = r + j := by omega
        rw [this]; exact LatR_run hg.2.2
    · intro z ⟨hz, hFz⟩
      have e : r + (k - r) = k := by omega
      rw [e] at hz
      dsimp only [Md_m_runs_s20]
      refine Ok_ite (fun _ => Ok_omap (Ok_some ⟨hz, hFz⟩)) (fun q => ?_)
      have := hz.1
      rw [i32_le] at q
      omega
  have anew : Ok (Md_m_runs_j16 x v1) (fun q => RunAt n fa fb k q ∧ Fr0 x q) := by
    unfold Md_m_runs_j16
    refine Ok_then (begins_ok (n := n) (fa := fa) (fb := fb) hn) (fun g hg => ?_)
    exact loop g 0 (Nat.zero_le k) ⟨hg.2.2, hg.1, fun k e => by omega⟩ hg.2.1
  unfold Md_m_runs
  rcases hr with h | ⟨r, hr64, h⟩
  · exact Ok_ite (fun _ => anew) (fun q => absurd (i32_ext (by rw [h, i32_m1])) q)
  · have hr1 := h.1
    refine Ok_ite (fun _ => anew) (fun _ => Ok_ite (fun q => ?_) (fun _ => anew))
    rw [i32_le] at q
    exact loop x r (by omega) h Fr0_refl
end R9
