/-! REFERENCE 31: the way that is first -/
/-- what laying a way leaves as it is -/
def Fz (x y : MdS) : Prop := Fp x y ∧ Md_partRun y = Md_partRun x ∧ Md_partName y = Md_partName x ∧ Md_partEnded y = Md_partEnded x ∧ Md_partInto y = Md_partInto x ∧ Md_partMost y = Md_partMost x
/-- a way in rows -/
def Wy (u : Nat) (P : List (Nat × Nat)) (y : MdS) : Prop := (Md_wayLong y).toInt = (P.length : Int) ∧ (Md_wayNode y 0).toInt = (u : Int) ∧ ∀ (i : Nat) (s : Nat × Nat), P[i]? = some s → (Md_wayLink y i).toInt = (s.1 : Int) ∧ (Md_wayNode y (i + 1)).toInt = (s.2 : Int)
section R31
variable {fa fb : Nat → Nat} {n k m u v b c l t p : Nat} {x y z : MdS} {wo : Int32}
theorem Fz_refl : Fz x x := ⟨Fp_refl, rfl, rfl, rfl, rfl, rfl⟩
theorem Fz_trans (h1 : Fz x y) (h2 : Fz y z) : Fz x z := ⟨Fp_trans h1.1 h2.1, h2.2.1.trans h1.2.1, h2.2.2.1.trans h1.2.2.1, h2.2.2.2.1.trans h1.2.2.2.1, h2.2.2.2.2.1.trans h1.2.2.2.2.1, h2.2.2.2.2.2.trans h1.2.2.2.2.2⟩
theorem Fp_wn {f : Nat → Int32} : Fp x (Md_set_wayNode x f) := ⟨⟨rfl, rfl, rfl, rfl, rfl, rfl⟩, ⟨rfl, rfl, rfl, rfl, rfl, rfl, rfl⟩, ⟨rfl, rfl, rfl, rfl⟩⟩
theorem Fp_wk {f : Nat → Int32} : Fp x (Md_set_wayLink x f) := ⟨⟨rfl, rfl, rfl, rfl, rfl, rfl⟩, ⟨rfl, rfl, rfl, rfl, rfl, rfl, rfl⟩, ⟨rfl, rfl, rfl, rfl⟩⟩
theorem Fp_wl {f : Int32} : Fp x (Md_set_wayLong x f) := ⟨⟨rfl, rfl, rfl, rfl, rfl, rfl⟩, ⟨rfl, rfl, rfl, rfl, rfl, rfl, rfl⟩, ⟨rfl, rfl, rfl, rfl⟩⟩
theorem Fz_wn {f : Nat → Int32} : Fz x (Md_set_wayNode x f) := ⟨Fp_wn, rfl, rfl, rfl, rfl, rfl⟩
theorem Fz_wk {f : Nat → Int32} : Fz x (Md_set_wayLink x f) := ⟨Fp_wk, rfl, rfl, rfl, rfl, rfl⟩
theorem Fz_wl {f : Int32} : Fz x (Md_set_wayLong x f) := ⟨Fp_wl, rfl, rfl, rfl, rfl, rfl⟩
theorem Fz_ro {f : Nat → Int32} : Fz x (Md_set_row x f) := ⟨⟨⟨rfl, rfl, rfl, rfl, rfl, rfl⟩, ⟨rfl, rfl, rfl, rfl, rfl, rfl, rfl⟩, ⟨rfl, rfl, rfl, rfl⟩⟩, rfl, rfl, rfl, rfl, rfl⟩
theorem Fz_rl {f : Int32} : Fz x (Md_set_rowLong x f) := ⟨⟨⟨rfl, rfl, rfl, rfl, rfl, rfl⟩, ⟨rfl, rfl, rfl, rfl, rfl, rfl, rfl⟩, ⟨rfl, rfl, rfl, rfl⟩⟩, rfl, rfl, rfl, rfl, rfl⟩
theorem Fz_to {f : Int32} : Fz x (Md_set_told x f) := ⟨⟨⟨rfl, rfl, rfl, rfl, rfl, rfl⟩, ⟨rfl, rfl, rfl, rfl, rfl, rfl, rfl⟩, ⟨rfl, rfl, rfl, rfl⟩⟩, rfl, rfl, rfl, rfl, rfl⟩
theorem Fz_po {f : Nat → Int32} : Fz x (Md_set_partOf x f) := ⟨Fp_po, rfl, rfl, rfl, rfl, rfl⟩
theorem Fz_ps {f : Int32} : Fz x (Md_set_parts x f) := ⟨Fp_ps, rfl, rfl, rfl, rfl, rfl⟩
theorem Fz_lay {f : Nat → Int32} {w : Int32} : Fz x (Md_set_parts (Md_set_partOf x f) w) := Fz_trans Fz_po Fz_ps
theorem wn_n {f : Nat → Int32} : Md_wayNode (Md_set_wayNode x f) = f := rfl
theorem wk_k {f : Nat → Int32} : Md_wayLink (Md_set_wayLink x f) = f := rfl
theorem wl_l {f : Int32} : Md_wayLong (Md_set_wayLong x f) = f := rfl
theorem wn_k {f : Nat → Int32} : Md_wayLink (Md_set_wayNode x f) = Md_wayLink x := rfl
theorem wn_l {f : Nat → Int32} : Md_wayLong (Md_set_wayNode x f) = Md_wayLong x := rfl
theorem wk_n {f : Nat → Int32} : Md_wayNode (Md_set_wayLink x f) = Md_wayNode x := rfl
theorem wk_l {f : Nat → Int32} : Md_wayLong (Md_set_wayLink x f) = Md_wayLong x := rfl
theorem wl_n {f : Int32} : Md_wayNode (Md_set_wayLong x f) = Md_wayNode x := rfl
theorem wl_k {f : Int32} : Md_wayLink (Md_set_wayLong x f) = Md_wayLink x := rfl
theorem ZW_out {l : Nat} : (l < m ∧ ¬ Out fa fb wo.toInt (-1 : Int32).toInt l) ↔ ZW m wo.toInt l := by
  unfold Out ZW
  rw [i32_m1]
  omega
/-- the next node -/
theorem next_ok (hV : Vd fa fb n m) (hn : n ≤ 32) (hm : m ≤ 64) (hmm : (Md_m y).toInt = (m : Int)) (hf : ∀ l, l < m → (Md_first y l).toInt = (fa l : Int) ∧ (Md_second y l).toInt = (fb l : Int)) {w2 w4 : Int32} (h2 : w2.toInt = (v : Int)) (h4 : w4.toInt = (c : Int)) (hc : c < n) (hv : v < n) (hne : c ≠ v) (hd : dsn fa fb (ZW m wo.toInt) c v < 33)
    {fin : Int32 → Int32 → Option ((Int32 × Int32 × Int32) ⊕ ((MdS × Int32) ⊕ (Bool × MdS)))} {P : (MdS × Int32) ⊕ (Bool × MdS) → Prop}
    (hfin : ∀ (nx byy : Int32) (t l : Nat), nx.toInt = (t : Int) → byy.toInt = (l : Int) → ZW m wo.toInt l → isE fa fb l c t → dsn fa fb (ZW m wo.toInt) t v + 1 = dsn fa fb (ZW m wo.toInt) c v → t = nxn fa fb (ZW m wo.toInt) n v c → Ok (Md_m_laysWay_s51 y w2 wo w4 nx byy (Int32.ofNat m)) (LR (fun _ => False) P)) :
    Ok (iter (fun p : Int32 × Int32 × Int32 => Md_m_laysWay_s51 y w2 wo w4 p.1 p.2.1 p.2.2) FU ((-1), (-1), 0)) P := by
  have hcand : ∀ {l t : Nat}, ZW m wo.toInt l → isE fa fb l c t → t < n := fun hz he => (isE_lt hV hz.1 he).2
  refine Ok_for3 m (fun j nx byy => (nx.toInt = -1 ∧ ∀ l t, l < j → ZW m wo.toInt l → isE fa fb l c t → dsn fa fb (ZW m wo.toInt) t v + 1 ≠ dsn fa fb (ZW m wo.toInt) c v) ∨ (∃ t l : Nat, nx.toInt = (t : Int) ∧ byy.toInt = (l : Int) ∧ ZW m wo.toInt l ∧ isE fa fb l c t ∧ dsn fa fb (ZW m wo.toInt) t v + 1 = dsn fa fb (ZW m wo.toInt) c v ∧ ∀ l2 t2, l2 < j → ZW m wo.toInt l2 → isE fa fb l2 c t2 → dsn fa fb (ZW m wo.toInt) t2 v + 1 = dsn fa fb (ZW m wo.toInt) c v → t ≤ t2)) (by omega) i32_0 (Or.inl ⟨i32_m1, fun l t hl => absurd hl (Nat.not_lt_zero l)⟩) ?_ ?_
  · intro j nx byy i hj hi hI
    dsimp only [Md_m_laysWay_s51]
    have hfj := hf j hj
    have hvj := hV j hj
    -- what j brings
    have skip : (∀ t, ZW m wo.toInt j → isE fa fb j c t → dsn fa fb (ZW m wo.toInt) t v + 1 = dsn fa fb (ZW m wo.toInt) c v → ∃ t0 : Nat, nx.toInt = (t0 : Int) ∧ t0 ≤ t) → Ok (some (Sum.inl (nx, byy, i + 1)) : Option ((Int32 × Int32 × Int32) ⊕ ((MdS × Int32) ⊕ (Bool × MdS)))) (LR (fun p => p.2.2.toInt = ((j + 1 : Nat) : Int) ∧ ((p.1.toInt = -1 ∧ ∀ l t, l < j + 1 → ZW m wo.toInt l → isE fa fb l c t → dsn fa fb (ZW m wo.toInt) t v + 1 ≠ dsn fa fb (ZW m wo.toInt) c v) ∨ (∃ t l : Nat, p.1.toInt = (t : Int) ∧ p.2.1.toInt = (l : Int) ∧ ZW m wo.toInt l ∧ isE fa fb l c t ∧ dsn fa fb (ZW m wo.toInt) t v + 1 = dsn fa fb (ZW m wo.toInt) c v ∧ ∀ l2 t2, l2 < j + 1 → ZW m wo.toInt l2 → isE fa fb l2 c t2 → dsn fa fb (ZW m wo.toInt) t2 v + 1 = dsn fa fb (ZW m wo.toInt) c v → t ≤ t2))) P) := by
      intro hs
      refine Ok_some ⟨nx_s hi (by omega), ?_⟩
      rcases hI with ⟨e, hI⟩ | ⟨t, l, e1, e2, e3, e4, e5, hI⟩
      · refine Or.inl ⟨e, fun l t hl hz he hd2 => ?_⟩
        by_cases q : l = j
        · rw [q] at hz he
          obtain ⟨t0, ht0, _⟩ := hs t hz he hd2
          have e' : nx.toInt = -1 := e
          omega
        · exact hI l t (by omega) hz he hd2
      · refine Or.inr ⟨t, l, e1, e2, e3, e4, e5, fun l2 t2 hl hz he hd2 => ?_⟩
        by_cases q : l2 = j
        · rw [q] at hz he
          obtain ⟨t0, ht0, ht1⟩ := hs t2 hz he hd2
          have e' : nx.toInt = (t : Int) := e1
          omega
        · exact hI l2 t2 (by omega) hz he hd2
    refine Ok_ite (fun q => by rw [i32_le] at q; omega) (fun _ => Ok_ieq hi rfl (fun e => skip (fun t hz => absurd e hz.2)) (fun e => ?_))
    have hzj : ZW m wo.toInt j := ⟨hj, e⟩
    have key : ∀ t, isE fa fb j c t → (∀ t2, isE fa fb j c t2 → t2 = t) → Ok (Md_m_laysWay_j93 y w2 wo w4 nx byy i) (LR (fun p => p.2.2.toInt = ((j + 1 : Nat) : Int) ∧ ((p.1.toInt = -1 ∧ ∀ l t, l < j + 1 → ZW m wo.toInt l → isE fa fb l c t → dsn fa fb (ZW m wo.toInt) t v + 1 ≠ dsn fa fb (ZW m wo.toInt) c v) ∨ (∃ t l : Nat, p.1.toInt = (t : Int) ∧ p.2.1.toInt = (l : Int) ∧ ZW m wo.toInt l ∧ isE fa fb l c t ∧ dsn fa fb (ZW m wo.toInt) t v + 1 = dsn fa fb (ZW m wo.toInt) c v ∧ ∀ l2 t2, l2 < j + 1 → ZW m wo.toInt l2 → isE fa fb l2 c t2 → dsn fa fb (ZW m wo.toInt) t2 v + 1 = dsn fa fb (ZW m wo.toInt) c v → t ≤ t2))) P) := by
      intro t hE huq
      unfold Md_m_laysWay_j93
      have htn := hcand hzj hE
      refine Ok_then (other_ok (fa := fa) (fb := fb) hi (by omega) hfj h4 hE (by omega)) (fun g98 h98 => Ok_then (steps_ok hV hn hm hmm hf h98 h2 htn hv) (fun g108 h108 => Ok_then (steps_ok hV hn hm hmm hf h4 h2 hc hv) (fun g116 h116 => ?_)))
      have hd1 : dsn fa fb (ZW m wo.toInt) t v ≤ 33 := (lea_spec (P := fun j => Rk fa fb (ZW m wo.toInt) j t v) (n := 33)).1
      have hsub : (g116 - 1).toInt = (dsn fa fb (ZW m wo.toInt) c v : Int) - 1 := by rw [i32_sub (by rw [h116, i32_1]; omega) (by rw [h116, i32_1]; omega), h116, i32_1]
      have take : dsn fa fb (ZW m wo.toInt) t v + 1 = dsn fa fb (ZW m wo.toInt) c v → (∀ t0 : Nat, nx.toInt = (t0 : Int) → t ≤ t0) → Ok (Md_m_laysWay_j140 y w2 wo w4 i g98) (LR (fun p => p.2.2.toInt = ((j + 1 : Nat) : Int) ∧ ((p.1.toInt = -1 ∧ ∀ l t, l < j + 1 → ZW m wo.toInt l → isE fa fb l c t → dsn fa fb (ZW m wo.toInt) t v + 1 ≠ dsn fa fb (ZW m wo.toInt) c v) ∨ (∃ t l : Nat, p.1.toInt = (t : Int) ∧ p.2.1.toInt = (l : Int) ∧ ZW m wo.toInt l ∧ isE fa fb l c t ∧ dsn fa fb (ZW m wo.toInt) t v + 1 = dsn fa fb (ZW m wo.toInt) c v ∧ ∀ l2 t2, l2 < j + 1 → ZW m wo.toInt l2 → isE fa fb l2 c t2 → dsn fa fb (ZW m wo.toInt) t2 v + 1 = dsn fa fb (ZW m wo.toInt) c v → t ≤ t2))) P) := by
        intro hdd hle
        unfold Md_m_laysWay_j140
        refine Ok_some ⟨nx_s hi (by omega), Or.inr ⟨t, j, h98, hi, hzj, hE, hdd, fun l2 t2 hl hz he hd2 => ?_⟩⟩
        by_cases q : l2 = j
        · rw [q] at he; rw [huq t2 he]; exact Nat.le_refl _
        · rcases hI with ⟨e, hI⟩ | ⟨t0, l, e1, e2, e3, e4, e5, hI⟩
          · exact absurd hd2 (hI l2 t2 (by omega) hz he)
          · exact Nat.le_trans (hle t0 e1) (hI l2 t2 (by omega) hz he hd2)
      refine Ok_ieq h108 hsub (fun q => ?_) (fun q => skip (fun t2 _ he hd2 => ?_))
      · have hdd : dsn fa fb (ZW m wo.toInt) t v + 1 = dsn fa fb (ZW m wo.toInt) c v := by omega
        refine Ok_ieq rfl i32_m1 (fun q2 => take hdd (fun t0 z => by omega)) (fun q2 => Ok_ilt h98 rfl (fun q3 => take hdd (fun t0 z => by omega)) (fun q3 => skip (fun t2 _ he _ => ?_)))
        rw [huq t2 he]
        rcases hI with ⟨e, _⟩ | ⟨t0, l, e1, _⟩
        · exact absurd e q2
        · exact ⟨t0, e1, by omega⟩
      · rw [huq t2 he] at hd2
        omega
    refine Ok_eqr hi (by omega) hfj.1 h4 (fun e1 => ?_) (fun e1 => Ok_eqr hi (by omega) hfj.2 h4 (fun e2 => ?_) (fun e2 => skip (fun t _ he => ?_)))
    · have e1' : fa j = c := Int.natCast_inj.mp e1
      by_cases hs : fb j = c
      · refine key c (Or.inl ⟨e1', hs⟩) (fun t2 he => ?_)
        rcases he with ⟨_, z⟩ | ⟨z, _⟩
        · omega
        · omega
      · refine key (fb j) (Or.inl ⟨e1', rfl⟩) (fun t2 he => ?_)
        rcases he with ⟨_, z⟩ | ⟨z, z2⟩
        · omega
        · omega
    · have e2' : fb j = c := Int.natCast_inj.mp e2
      refine key (fa j) (Or.inr ⟨rfl, e2'⟩) (fun t2 he => ?_)
      rcases he with ⟨z, _⟩ | ⟨z, z2⟩
      · exact absurd (by rw [z]) e1
      · omega
    · rcases he with ⟨z, _⟩ | ⟨_, z⟩
      · exact absurd (by rw [z]) e1
      · exact absurd (by rw [z]) e2
  · intro nx byy i hi hI
    have him : i = Int32.ofNat m := i32_ext (by rw [hi]; exact (nI_i (k := m) (by omega)).symm)
    obtain ⟨l0, t0, hz0, he0, hd0⟩ := dsn_step hne hd
    rcases hI with ⟨e, hI⟩ | ⟨t, l, e1, e2, e3, e4, e5, hI⟩
    · exact absurd hd0 (hI l0 t0 hz0.1 hz0 he0)
    · rw [him]
      refine hfin nx byy t l e1 e2 e3 e4 e5 ?_
      refine (lea_uniq (Nat.le_of_lt (hcand e3 e4)) (fun _ => ⟨⟨l, e3, e4⟩, e5⟩) (fun i hi ⟨⟨l2, hz2, he2⟩, hd2⟩ => ?_)).symm
      have := hI l2 i hz2.1 hz2 he2 hd2
      omega
theorem laysWay_ok (hV : Vd fa fb n m) (hn : n ≤ 32) (hm : m ≤ 64) (hmm : (Md_m x).toInt = (m : Int)) (hf : ∀ l, l < m → (Md_first x l).toInt = (fa l : Int) ∧ (Md_second x l).toInt = (fb l : Int)) {w1 w2 : Int32} (h1 : w1.toInt = (u : Int)) (h2 : w2.toInt = (v : Int)) (hu : u < n) (hv : v < n) :
    Ok (Md_m_laysWay x w1 w2 wo) (fun q => Fz x q.2 ∧ ((q.1 = false ∧ ¬ Rch fa fb (ZW m wo.toInt) u v) ∨ (q.1 = true ∧ ∃ P, dwn fa fb (ZW m wo.toInt) n v u P ∧ Wy u P q.2))) := by
  unfold Md_m_laysWay
  refine Ok_wrb (k := 0) i32_0 (by omega) ?_
  have hF0 : Fz x (Md_set_wayNode (Md_set_wayLong x 0) (va_up (Md_wayNode (Md_set_wayLong x 0)) 0 w1)) := Fz_trans Fz_wl Fz_wn
  have hl0 : Md_wayLong (Md_set_wayNode (Md_set_wayLong x 0) (va_up (Md_wayNode (Md_set_wayLong x 0)) 0 w1)) = 0 := rfl
  have hn0 : Md_wayNode (Md_set_wayNode (Md_set_wayLong x 0) (va_up (Md_wayNode (Md_set_wayLong x 0)) 0 w1)) 0 = w1 := by rw [wn_n, vu_s]
  generalize Md_set_wayNode (Md_set_wayLong x 0) (va_up (Md_wayNode (Md_set_wayLong x 0)) 0 w1) = X at *
  have hmX : Md_m X = Md_m x := hF0.1.1.2.1
  have hfX : Md_first X = Md_first x := hF0.1.1.2.2.2.1
  have hsX : Md_second X = Md_second x := hF0.1.1.2.2.2.2.1
  rw [hmX]
  refine Ok_then (reached_ok (x := X) hV hn hm hu (by rw [hfX, hsX]; exact hf) h1 hmm) (fun g21 h21 => ?_)
  have hR : bt g21 v = true ↔ Rch fa fb (ZW m wo.toInt) u v := by
    rw [h21 v (by omega)]
    exact ⟨fun z => z.mono (fun l hl => ZW_out.mp hl), fun z => z.mono (fun l hl => ZW_out.mpr hl)⟩
  refine Ok_eqb (has_ok h2 (by omega)) (Ok_ite (fun q => ?_) (fun q => Ok_some ⟨hF0, Or.inl ⟨rfl, fun z => q (hR.mpr z)⟩⟩))
  have hZn : ∀ l, ZW m wo.toInt l → fa l < n ∧ fb l < n := fun l hl => hV l hl.1
  have hdu := dsn_reach hn (hR.mp q) hZn hu
  refine Ok_upto (fun j p => ∃ (a : Nat) (A : List (Nat × Nat)), p.2.toInt = (a : Int) ∧ a < n ∧ A.length = j ∧ dsn fa fb (ZW m wo.toInt) a v + j = dsn fa fb (ZW m wo.toInt) u v ∧ Fz x p.1 ∧ Wy u A p.1 ∧ ∀ P2, dwn fa fb (ZW m wo.toInt) n v a P2 → dwn fa fb (ZW m wo.toInt) n v u (A ++ P2)) (e := dsn fa fb (ZW m wo.toInt) u v) (by omega) ⟨u, [], h1, hu, rfl, rfl, hF0, ⟨by rw [hl0]; exact i32_0, by rw [hn0]; exact h1, fun i s z => by simp at z⟩, fun P2 h => h⟩ ?_ ?_
  · intro j ⟨y, w4⟩ hj ⟨a, A, ha, han, hAl, hda, hF, hWy, hP2⟩
    dsimp only [Md_m_laysWay_s36] at *
    have hav : a ≠ v := by
      intro z
      rw [z, dsn_0.mpr rfl] at hda
      omega
    have hmY : Md_m y = Md_m x := hF.1.1.2.1
    have hfY : Md_first y = Md_first x := hF.1.1.2.2.2.1
    have hsY : Md_second y = Md_second x := hF.1.1.2.2.2.2.1
    refine Ok_ieq ha h2 (fun z => absurd (Int.natCast_inj.mp z) hav) (fun _ => ?_)
    refine next_ok (fin := fun _ _ => none) hV hn hm (by rw [hmY]; exact hmm) (by rw [hfY, hsY]; exact hf) h2 ha han hv hav (by omega) (fun nx byy t l ht hl hz hE hdd hnx => ?_)
    dsimp only [Md_m_laysWay_s51]
    have hmi : (Int32.ofNat m).toInt = (m : Int) := nI_i (by omega)
    rw [hmY]
    refine Ok_ite (fun _ => Ok_omap ?_) (fun q => by rw [i32_le] at q; omega)
    have hlong := hWy.1
    have hAlen : A.length < 33 := by omega
    refine Ok_wrb hlong hAlen ?_
    have hlong2 : (Md_wayLong y + 1).toInt = ((A.length + 1 : Nat) : Int) := nx_s hlong (by omega)
    rw [wk_l, wl_l, wl_n, wk_n]
    refine Ok_wrb hlong2 (by omega) (Ok_some ⟨t, A ++ [(l, t)], ht, (isE_lt hV hz.1 hE).2, by rw [List.length_append, hAl]; rfl, by omega, Fz_trans hF (Fz_trans Fz_wk (Fz_trans Fz_wl Fz_wn)), ⟨?_, ?_, ?_⟩, fun P2 h => ?_⟩)
    · rw [wn_l, wl_l, hlong2, List.length_append]; rfl
    · rw [wn_n, vu_n (by omega)]; exact hWy.2.1
    · intro i s hs
      rw [wn_n, wn_k, wl_k, wk_k]
      by_cases e : i = A.length
      · rw [e, List.getElem?_append_right (Nat.le_refl _), Nat.sub_self] at hs
        have hs' : s = (l, t) := by simpa using hs.symm
        rw [e, hs', vu_s, vu_s]
        exact ⟨hl, ht⟩
      · have hi : i < A.length := by
          have := (List.getElem?_eq_some_iff.mp hs).1
          rw [List.length_append] at this
          have e2 : [(l, t)].length = 1 := rfl
          omega
        rw [List.getElem?_append_left hi] at hs
        rw [vu_n e, vu_n (by omega)]
        exact hWy.2.2 i s hs
    · have h' : dwn fa fb (ZW m wo.toInt) n v a ((l, t) :: P2) := ⟨hz, hE, hdd, hnx, h⟩
      have := hP2 _ h'
      rw [List.append_assoc]
      exact this
  · intro ⟨y, w4⟩ ⟨a, A, ha, han, hAl, hda, hF, hWy, hP2⟩
    dsimp only [Md_m_laysWay_s36] at *
    have hav : a = v := dsn_0.mp (show dsn fa fb (ZW m wo.toInt) a v = 0 by omega)
    refine Ok_ieq ha h2 (fun _ => Ok_omap (Ok_some ⟨hF, Or.inr ⟨rfl, A, ?_, hWy⟩⟩)) (fun z => absurd (by rw [hav]) z)
    have := hP2 [] hav
    rw [List.append_nil] at this
    exact this
end R31
