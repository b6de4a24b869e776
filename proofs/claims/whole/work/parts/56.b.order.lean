/-! CLASS 8: Forest: the row of all blocks -/
section W56b
variable {fa fb : Nat → Nat} {n k u v b t y r : Nat} {x : FoS} {w : WbS} {L : List (Nat × Nat)}
def fPP (n : Nat) (fa fb : Nat → Nat) (k b : Nat) : Int := (fP n fa fb k b).1
theorem fP_liv (h : liv (hB n fa fb k) b) : fP n fa fb k b = bup n fa fb k b := if_pos h
theorem FH_f (hV : Vd fa fb n k) (hn : n ≤ 32) : FH n (liv (hB n fa fb k)) (fPP n fa fb k) (chn n fa fb k) := by
  intro b hb hl
  have := FH_blk hV hn b hb hl
  have e : fPP n fa fb k b = (bup n fa fb k b).1 := by unfold fPP; rw [fP_liv hl]
  rw [e]
  exact this
/-- a child is a living block -/
theorem fPP_liv {b c : Nat} (h : fPP n fa fb k c = (b : Int)) : liv (hB n fa fb k) c := by
  unfold fPP fP at h
  by_cases e : bnm n fa fb k c = c
  · exact e
  · rw [if_neg e] at h
    have h : (-1 : Int) = (b : Int) := h
    omega
theorem cl_chl : cl n fa fb k (b : Int) n = chl n (liv (hB n fa fb k)) (fPP n fa fb k) b := by
  unfold cl chl
  refine fl_congr (fun c _ => ⟨fun h => ⟨fPP_liv h, h⟩, fun h => h.2⟩) (fun _ _ _ => rfl)
noncomputable def ord (n : Nat) (fa fb : Nat → Nat) (k : Nat) : List Nat := TOT n (liv (hB n fa fb k)) (fPP n fa fb k)
noncomputable def pB (n : Nat) (fa fb : Nat → Nat) (k : Nat) : Nat → List Nat := prB n (liv (hB n fa fb k)) (fPP n fa fb k)
/-- what stays of a forest while the row is laid -/
def F3 (n : Nat) (fa fb : Nat → Nat) (k : Nat) (x : FoS) : Prop := F2 n fa fb k x ∧ (Fo_count x).toInt = ((ord n fa fb k).length : Int) ∧ (∀ (j b : Nat), (ord n fa fb k)[j]? = some b → (Fo_order x j).toInt = (b : Int)) ∧ ∀ b, b < n → liv (hB n fa fb k) b → (Fo_deep x b).toInt = ((chn n fa fb k b).length : Int) - 1
theorem ord_mem (hV : Vd fa fb n k) (hn : n ≤ 32) {c : Nat} : c ∈ ord n fa fb k ↔ c < n ∧ liv (hB n fa fb k) c := TOT_mem (FH_f hV hn)
theorem ord_len (hV : Vd fa fb n k) (hn : n ≤ 32) : (ord n fa fb k).length ≤ n := by
  unfold ord
  rw [TOT_len (FH_f hV hn)]
  exact cnt_le
theorem pB_len (hV : Vd fa fb n k) (hn : n ≤ 32) {c : Nat} (hc : c < n) (hl : liv (hB n fa fb k) c) : 1 ≤ (pB n fa fb k c).length := by
  unfold pB
  rw [prB_s (FH_f hV hn) hc hl, List.length_cons]
  omega
theorem flat_len (hV : Vd fa fb n k) (hn : n ≤ 32) {M : List Nat} (h : ∀ c, c ∈ M → c < n ∧ liv (hB n fa fb k) c) : M.length ≤ (M.flatMap (pB n fa fb k)).length := by
  induction M with
  | nil => exact Nat.zero_le _
  | cons c M ih =>
    rw [List.flatMap_cons, List.length_append, List.length_cons]
    have h1 := pB_len hV hn (h c List.mem_cons_self).1 (h c List.mem_cons_self).2
    have h2 := ih (fun d hd => h d (List.mem_cons_of_mem _ hd))
    omega
/-- a row of waiting ones in an array -/
def Wt (M : List Nat) (f : Nat → Int32) : Prop := ∀ (i c : Nat), M[i]? = some c → (f i).toInt = (c : Int)
theorem Wt_app {M : List Nat} {f : Nat → Int32} {v : Int32} {c : Nat} (h : Wt M f) (hv : v.toInt = (c : Int)) : Wt (M ++ [c]) (va_up f M.length v) := by
  intro i d hi
  by_cases e : i = M.length
  · subst e
    rw [List.getElem?_append_right (Nat.le_refl _), Nat.sub_self] at hi
    have : c = d := by simpa using hi
    rw [vu_s, ← this]; exact hv
  · rw [vu_n e]
    refine h i d ?_
    have hlt : i < (M ++ [c]).length := (List.getElem?_eq_some_iff.mp hi).1
    rw [List.length_append] at hlt
    have hlt : i < M.length + 1 := hlt
    rw [List.getElem?_append_left (by omega)] at hi
    exact hi
theorem Wt_drop {M : List Nat} {f : Nat → Int32} {c : Nat} (h : Wt (M ++ [c]) f) : Wt M f := fun i d hi => h i d (by
  rw [List.getElem?_append_left (List.getElem?_eq_some_iff.mp hi).1]; exact hi)
theorem Wt_last {M : List Nat} {f : Nat → Int32} {c : Nat} (h : Wt (M ++ [c]) f) : (f M.length).toInt = (c : Int) := h M.length c (by rw [List.getElem?_append_right (Nat.le_refl _), Nat.sub_self]; rfl)
/-- the roots from the greatest on -/
noncomputable def rdn (n : Nat) (fa fb : Nat → Nat) (k : Nat) : Nat → List Nat
  | 0 => []
  | j + 1 => rdn n fa fb k j ++ (@ite _ (liv (hB n fa fb k) (n - 1 - j) ∧ fPP n fa fb k (n - 1 - j) = -1) (Classical.propDecidable _) [n - 1 - j] [])
theorem rdn_t {j : Nat} (h : liv (hB n fa fb k) (n - 1 - j) ∧ fPP n fa fb k (n - 1 - j) = -1) : rdn n fa fb k (j + 1) = rdn n fa fb k j ++ [n - 1 - j] := by
  show rdn n fa fb k j ++ _ = _
  rw [if_pos h]
theorem rdn_f {j : Nat} (h : ¬ (liv (hB n fa fb k) (n - 1 - j) ∧ fPP n fa fb k (n - 1 - j) = -1)) : rdn n fa fb k (j + 1) = rdn n fa fb k j := by
  show rdn n fa fb k j ++ _ = _
  rw [if_neg h, List.append_nil]
theorem rdn_rts : (rdn n fa fb k n).reverse = rts n (liv (hB n fa fb k)) (fPP n fa fb k) := by
  have : ∀ j, j ≤ n → rts n (liv (hB n fa fb k)) (fPP n fa fb k) = fl (fun c => liv (hB n fa fb k) c ∧ fPP n fa fb k c = -1) (fun c => c) (n - j) ++ (rdn n fa fb k j).reverse := by
    intro j
    induction j with
    | zero => intro _; unfold rts rdn; simp
    | succ j ih =>
      intro hj
      rw [ih (by omega)]
      have e : n - j = (n - 1 - j) + 1 := by omega
      have e2 : n - (j + 1) = n - 1 - j := by omega
      rw [e, e2]
      by_cases c : liv (hB n fa fb k) (n - 1 - j) ∧ fPP n fa fb k (n - 1 - j) = -1
      · rw [fl_t (P := fun c => liv (hB n fa fb k) c ∧ fPP n fa fb k c = -1) c, rdn_t c, List.reverse_append]
        simp
      · rw [fl_f (P := fun c => liv (hB n fa fb k) c ∧ fPP n fa fb k c = -1) c, rdn_f c]
  have h := this n (Nat.le_refl n)
  rw [Nat.sub_self] at h
  exact h.symm
theorem rdn_len {j : Nat} : (rdn n fa fb k j).length ≤ j := by
  induction j with
  | zero => exact Nat.le_refl 0
  | succ j ih =>
    by_cases c : liv (hB n fa fb k) (n - 1 - j) ∧ fPP n fa fb k (n - 1 - j) = -1
    · rw [rdn_t c, List.length_append]
      show _ + 1 ≤ _
      omega
    · rw [rdn_f c]; omega
/-- the children of one, pushed -/
theorem push_ok (hV : Vd fa fb n k) (hn : n ≤ 32) {B : Nat} (hB : B < n) {W0 : List Nat} (hsp : W0.length + (cl n fa fb k (B : Int) n).length ≤ 32) {x0 : FoS} {held first v3 : Int32} {M : Nat} {nm : NmS} (h2 : F2 n fa fb k x0) (hw : Wt W0 (Fo_waiting x0)) (hh : held.toInt = (W0.length : Int)) (hf : first.toInt = lst (cl n fa fb k (B : Int) n))
    {P : (FoS × Int32 × Int32) ⊕ FoS → Prop} (hP : ∀ (f : Nat → Int32) (h : Int32), Wt (W0 ++ (cl n fa fb k (B : Int) n).reverse) f → h.toInt = ((W0 ++ (cl n fa fb k (B : Int) n).reverse).length : Int) → P (.inl (Fo_set_waiting x0 f, h, v3 + 1))) :
    Ok (iter (fun p : FoS × Int32 × Int32 × Int32 => Fo_m_putInOrder_s146 M nm v3 p.1 p.2.1 p.2.2.1 p.2.2.2) FU (x0, held, first, 0)) P := by
  refine Ok_upto (fun (j : Nat) (p : FoS × Int32 × Int32 × Int32) => p.2.2.2.toInt = (j : Int) ∧ ∃ (f : Nat → Int32) (i : Nat) (R : List Nat), p.1 = Fo_set_waiting x0 f ∧ i ≤ n ∧ cl n fa fb k (B : Int) n = cl n fa fb k (B : Int) i ++ R ∧ R.length = j ∧ p.2.2.1.toInt = lst (cl n fa fb k (B : Int) i) ∧ p.2.1.toInt = ((W0 ++ R.reverse).length : Int) ∧ Wt (W0 ++ R.reverse) f) (e := (cl n fa fb k (B : Int) n).length) (by omega) ⟨i32_0, Fo_waiting x0, n, [], rfl, Nat.le_refl n, by rw [List.append_nil], rfl, hf, by simpa using hh, by simpa using hw⟩ ?_ ?_
  · intro j p hj ⟨hi, f, i, R, hp0, hin, hcat, hR, hc, hhd, hwt⟩
    obtain ⟨y, v2, v5, v6⟩ := p
    dsimp only at hi hp0 hc hhd
    subst hp0
    dsimp only [Fo_m_putInOrder_s146]
    have hlen := congrArg List.length hcat
    rw [List.length_append] at hlen
    have hcn : (cl n fa fb k (B : Int) n).length ≤ n := by unfold cl; rw [fl_len]; exact cnt_le
    refine Ok_ite (fun q => by have h0 := h2.1.1; rw [i32_le] at q; have q2 : (Fo_names x0).toInt ≤ v6.toInt := q; omega) (fun _ => ?_)
    -- the last child that is left
    have hne : cl n fa fb k (B : Int) i ≠ [] := fun z => by rw [z] at hlen; simp at hlen; omega
    have hex : ∀ i, i ≤ n → cl n fa fb k (B : Int) i ≠ [] → ∃ c, c < i ∧ fPP n fa fb k c = (B : Int) ∧ cl n fa fb k (B : Int) i = cl n fa fb k (B : Int) c ++ [c] := by
      intro i
      induction i with
      | zero => intro _ z; exact absurd rfl z
      | succ i ih =>
        intro hi z
        by_cases d : fPP n fa fb k i = (B : Int)
        · exact ⟨i, by omega, d, fl_t (P := fun c => (fP n fa fb k c).1 = (B : Int)) d⟩
        · have e : cl n fa fb k (B : Int) (i + 1) = cl n fa fb k (B : Int) i := fl_f (P := fun c => (fP n fa fb k c).1 = (B : Int)) d
          rw [e] at z ⊢
          obtain ⟨c, g1, g2, g3⟩ := ih (by omega) z
          exact ⟨c, by omega, g2, g3⟩
    obtain ⟨c, hci, hcP, hce⟩ := hex i hin hne
    have hcv : v5.toInt = (c : Int) := by rw [hc, hce, lst_app]
    refine Ok_ite (fun q => by rw [i32_eq, hcv, i32_m1] at q; omega) (fun _ => ?_)
    have hlt32 : (W0 ++ R.reverse).length < 32 := by rw [List.length_append, List.length_reverse]; omega
    have hc32 : c < 32 := by omega
    have hcn2 : c < n := by omega
    have hcb := (h2.2 c hcn2).2.2.2 (by show fPP n fa fb k c ≠ -1; rw [hcP]; omega)
    have hcb2 : (Fo_childBefore x0 c).toInt = lst (cl n fa fb k (B : Int) c) := by
      have e : (fP n fa fb k c).1 = (B : Int) := hcP
      rw [hcb, e]
    refine Ok_wrb hhd hlt32 (Ok_rdb hcv hc32 (Ok_some ⟨nx_s hi (by omega), va_up f (W0 ++ R.reverse).length v5, c, c :: R, rfl, by omega, ?_, ?_, hcb2, ?_, ?_⟩))
    · rw [hcat, hce]; simp
    · rw [List.length_cons, hR]
    · have e : (W0 ++ (c :: R).reverse).length = (W0 ++ R.reverse).length + 1 := by simp; omega
      rw [e]
      exact nx_s hhd (mil hlt32)
    · have e : W0 ++ (c :: R).reverse = (W0 ++ R.reverse) ++ [c] := by simp
      rw [e]
      exact Wt_app hwt hcv
  · intro p ⟨hi, f, i, R, hp0, hin, hcat, hR, hc, hhd, hwt⟩
    obtain ⟨y, v2, v5, v6⟩ := p
    dsimp only at hi hp0 hc hhd
    subst hp0
    dsimp only [Fo_m_putInOrder_s146]
    have hlen := congrArg List.length hcat
    rw [List.length_append] at hlen
    have h0 : cl n fa fb k (B : Int) i = [] := List.length_eq_zero_iff.mp (by omega)
    rw [h0, List.nil_append] at hcat
    rw [← hcat] at hhd hwt
    have done : Ok (omap (some (Sum.inl (Fo_set_waiting x0 f, v2, v3 + 1))) : Option ((FoS × Int32 × Int32 × Int32) ⊕ ((FoS × Int32 × Int32) ⊕ FoS))) (LR (fun _ => False) P) := Ok_omap (Ok_some (hP f v2 hwt hhd))
    refine Ok_ite (fun _ => done) (fun _ => Ok_ite (fun _ => done) (fun q => ?_))
    exact absurd (i32_ext (by rw [hc, h0, i32_m1]; rfl)) q
end W56b
