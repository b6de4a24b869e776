/-! REFERENCE 24: a link more: the names of parts, whole -/
def PN (fa fb : Nat → Nat) (k : Nat) (x : MdS) : Prop := ∀ b, b < k → (Md_partName x b).toInt = (N_of (hP fa fb k) b : Int) ∧ (Md_partEnded x b).toInt = N_en (hP fa fb k) b ∧ (Md_partInto x b).toInt = N_it (hP fa fb k) b ∧ (Md_partMost x b).toInt = (N_mx (hP fa fb k) b : Int)
/-- what naming parts leaves as it is -/
def Fp (x y : MdS) : Prop := (Md_n y = Md_n x ∧ Md_m y = Md_m x ∧ Md_state y = Md_state x ∧ Md_first y = Md_first x ∧ Md_second y = Md_second x ∧ Md_run y = Md_run x) ∧ (Md_nameOf y = Md_nameOf x ∧ Md_parent y = Md_parent x ∧ Md_up y = Md_up x ∧ Md_endedBy y = Md_endedBy x ∧ Md_into y = Md_into x ∧ Md_most y = Md_most x ∧ Md_closedBy y = Md_closedBy x) ∧ (Md_turned y = Md_turned x ∧ Md_became y = Md_became x ∧ Md_firstName y = Md_firstName x ∧ Md_secondName y = Md_secondName x)
section R24
variable {fa fb : Nat → Nat} {n k m B M : Nat} {x y z : MdS} {W : Nat → Prop} {P : Nat → Nat}
theorem Fp_refl : Fp x x := ⟨⟨rfl, rfl, rfl, rfl, rfl, rfl⟩, ⟨rfl, rfl, rfl, rfl, rfl, rfl, rfl⟩, ⟨rfl, rfl, rfl, rfl⟩⟩
theorem Fp_trans (h1 : Fp x y) (h2 : Fp y z) : Fp x z := by
  obtain ⟨⟨a1, a2, a3, a4, a5, a6⟩, ⟨b1, b2, b3, b4, b5, b6, b7⟩, ⟨c1, c2, c3, c4⟩⟩ := h1
  obtain ⟨⟨d1, d2, d3, d4, d5, d6⟩, ⟨e1, e2, e3, e4, e5, e6, e7⟩, ⟨f1, f2, f3, f4⟩⟩ := h2
  exact ⟨⟨d1.trans a1, d2.trans a2, d3.trans a3, d4.trans a4, d5.trans a5, d6.trans a6⟩, ⟨e1.trans b1, e2.trans b2, e3.trans b3, e4.trans b4, e5.trans b5, e6.trans b6, e7.trans b7⟩, ⟨f1.trans c1, f2.trans c2, f3.trans c3, f4.trans c4⟩⟩
theorem Fp_po {f : Nat → Int32} : Fp x (Md_set_partOf x f) := ⟨⟨rfl, rfl, rfl, rfl, rfl, rfl⟩, ⟨rfl, rfl, rfl, rfl, rfl, rfl, rfl⟩, ⟨rfl, rfl, rfl, rfl⟩⟩
theorem Fp_ps {f : Int32} : Fp x (Md_set_parts x f) := ⟨⟨rfl, rfl, rfl, rfl, rfl, rfl⟩, ⟨rfl, rfl, rfl, rfl, rfl, rfl, rfl⟩, ⟨rfl, rfl, rfl, rfl⟩⟩
theorem Fp_lay {f : Nat → Int32} {w : Int32} : Fp x (Md_set_parts (Md_set_partOf x f) w) := Fp_trans Fp_po Fp_ps
theorem Fp_q1 {f : Nat → Int32} : Fp x (Md_set_partName x f) := ⟨⟨rfl, rfl, rfl, rfl, rfl, rfl⟩, ⟨rfl, rfl, rfl, rfl, rfl, rfl, rfl⟩, ⟨rfl, rfl, rfl, rfl⟩⟩
theorem Fp_q2 {f : Nat → Int32} : Fp x (Md_set_partEnded x f) := ⟨⟨rfl, rfl, rfl, rfl, rfl, rfl⟩, ⟨rfl, rfl, rfl, rfl, rfl, rfl, rfl⟩, ⟨rfl, rfl, rfl, rfl⟩⟩
theorem Fp_q3 {f : Nat → Int32} : Fp x (Md_set_partInto x f) := ⟨⟨rfl, rfl, rfl, rfl, rfl, rfl⟩, ⟨rfl, rfl, rfl, rfl, rfl, rfl, rfl⟩, ⟨rfl, rfl, rfl, rfl⟩⟩
theorem Fp_q4 {f : Nat → Int32} : Fp x (Md_set_partMost x f) := ⟨⟨rfl, rfl, rfl, rfl, rfl, rfl⟩, ⟨rfl, rfl, rfl, rfl, rfl, rfl, rfl⟩, ⟨rfl, rfl, rfl, rfl⟩⟩
theorem Fp_N4 {na en it mx : Nat → Int32} : Fp x (N4 x na en it mx) := Fp_trans Fp_q1 (Fp_trans Fp_q2 (Fp_trans Fp_q3 Fp_q4))
theorem Fp_pr {w : Int32} : Fp x (Md_set_partRun x w) := ⟨⟨rfl, rfl, rfl, rfl, rfl, rfl⟩, ⟨rfl, rfl, rfl, rfl, rfl, rfl, rfl⟩, ⟨rfl, rfl, rfl, rfl⟩⟩
theorem Fp_run {r : Nat} (h : Fp x y) (hr : RunAt n fa fb r x) : RunAt n fa fb r y := by
  obtain ⟨⟨a1, a2, a3, a4, a5, a6⟩, ⟨b1, b2, b3, b4, b5, b6, b7⟩, ⟨c1, c2, c3, c4⟩⟩ := h
  obtain ⟨r1, ⟨r2, r3, r4, r5⟩, r6⟩ := hr
  refine ⟨by rw [a6]; exact r1, ⟨by rw [b1, b4, b5, b6]; exact r2, by rw [b1, b4, b5, b6]; exact r3, fun b hb hl => by rw [b2, b3]; exact r4 b hb hl, fun l hl => by rw [b7]; exact r5 l hl⟩, fun k e => ?_⟩
  have := r6 k e
  unfold LatR at this ⊢
  rw [c1, c2, c3, c4]
  exact this
theorem no_out (l : Nat) : ¬ Out fa fb (-1 : Int32).toInt (-1 : Int32).toInt l := by
  unfold Out
  rw [i32_m1]
  omega
/-- the new names are the history's, one link on -/
theorem names_hist (hW : ∀ q, q < k → (W q ↔ pe fa fb (k + 1) q = pe fa fb (k + 1) k)) (hWk : W k) (h : BestP k W (N_of (hP fa fb k)) (fun b => cnt (fun l => N_of (hP fa fb k) l = b) (k + 1)) k B) :
    B < k + 1 ∧ (∀ l, l < k + 1 → (W l → N_of (hP fa fb (k + 1)) l = B) ∧ (¬ W l → N_of (hP fa fb (k + 1)) l = N_of (hP fa fb k) l)) ∧
    (∀ b, b < k + 1 → (EndQ k W (N_of (hP fa fb k)) B (k + 1) b → N_en (hP fa fb (k + 1)) b = (k : Int) ∧ N_it (hP fa fb (k + 1)) b = (B : Int)) ∧ (¬ EndQ k W (N_of (hP fa fb k)) B (k + 1) b → N_en (hP fa fb (k + 1)) b = N_en (hP fa fb k) b ∧ N_it (hP fa fb (k + 1)) b = N_it (hP fa fb k) b)) ∧
    (∀ b, b < k + 1 → b ≠ B → N_mx (hP fa fb (k + 1)) b = N_mx (hP fa fb k) b) ∧ N_of (hP fa fb (k + 1)) B = B ∧ N_of (hP fa fb k) B = B := by
  have f0 := ((hP_fresh (fa := fa) (fb := fb) (k := k)).2 k (Nat.le_refl k)).1
  by_cases hT : TL fa fb k
  · have hB := best_tree hW h hT
    subst hB
    have hs : hP fa fb (B + 1) = hP fa fb B := by rw [hP_s, if_neg hT]
    rw [hs]
    have hWn : ∀ q, q < B → ¬ W q := fun q hq z => sP_no hq hT ((hW q hq).mp z)
    refine ⟨Nat.lt_succ_self B, fun l hl => ⟨fun z => ?_, fun _ => rfl⟩, fun b hb => ⟨fun ⟨q, hq, hw, e, hne⟩ => ?_, fun _ => ⟨rfl, rfl⟩⟩, fun b _ _ => rfl, f0, f0⟩
    · by_cases e : l = B
      · rw [e]; exact f0
      · exact absurd z (hWn l (by omega))
    · by_cases e2 : q = B
      · rw [e2, f0] at e; exact absurd e.symm hne
      · exact absurd hw (hWn q (by omega))
  · obtain ⟨hS, hJ⟩ := best_ring hW h hT
    have hr := sP_root hS
    have hWS : ∀ l, l < k + 1 → (W l ↔ sP fa fb (hP fa fb k) k (N_of (hP fa fb k) l) = true) := by
      intro l hl
      by_cases e : l = k
      · rw [e, f0]
        exact ⟨fun _ => by simp [sP], fun _ => hWk⟩
      · rw [hW l (by omega)]; exact sP_iff (by omega) hT
    have hE : ∀ b, EndQ k W (N_of (hP fa fb k)) B (k + 1) b ↔ sP fa fb (hP fa fb k) k b = true ∧ b ≠ B := by
      intro b
      constructor
      · intro ⟨q, hq, hw, e, hne⟩
        exact ⟨by rw [← e]; exact (hWS q hq).mp hw, hne⟩
      · intro ⟨h1, hne⟩
        have h1' := h1
        simp only [sP, Bool.or_eq_true, List.any_eq_true, beq_iff_eq] at h1
        rcases h1 with e | ⟨t, ht, e⟩
        · exact ⟨k, Nat.lt_succ_self k, hWk, by rw [e]; exact f0, hne⟩
        · have htk := pa_red.2 t ht
          exact ⟨t, by omega, (hWS t (by omega)).mpr (by rw [e]; exact h1'), e, hne⟩
    rw [hJ]
    refine ⟨hr.1, fun l hl => ?_, fun b hb => ?_, fun b _ hne => ?_, ?_, hr.2⟩
    · show (W l → (if sP fa fb (hP fa fb k) k (N_of (hP fa fb k) l) = true then B else N_of (hP fa fb k) l) = B) ∧ (¬ W l → (if sP fa fb (hP fa fb k) k (N_of (hP fa fb k) l) = true then B else N_of (hP fa fb k) l) = N_of (hP fa fb k) l)
      rw [hWS l hl]
      exact ⟨fun q => if_pos q, fun q => if_neg q⟩
    · show (_ → (if sP fa fb (hP fa fb k) k b = true ∧ b ≠ B then (k : Int) else N_en (hP fa fb k) b) = (k : Int) ∧ (if sP fa fb (hP fa fb k) k b = true ∧ b ≠ B then (B : Int) else N_it (hP fa fb k) b) = (B : Int)) ∧ (_ → (if sP fa fb (hP fa fb k) k b = true ∧ b ≠ B then (k : Int) else N_en (hP fa fb k) b) = N_en (hP fa fb k) b ∧ (if sP fa fb (hP fa fb k) k b = true ∧ b ≠ B then (B : Int) else N_it (hP fa fb k) b) = N_it (hP fa fb k) b)
      rw [hE b]
      exact ⟨fun q => ⟨if_pos q, if_pos q⟩, fun q => ⟨if_neg q, if_neg q⟩⟩
    · exact if_neg hne
    · show (if sP fa fb (hP fa fb k) k (N_of (hP fa fb k) B) = true then B else N_of (hP fa fb k) B) = B
      rw [hr.2, if_pos hS]
end R24
