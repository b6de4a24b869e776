/-! REFERENCE 2: ways in the forest -/
def ParOK (n : Nat) (fa fb : Nat → Nat) (k : Nat) (x : MdS) : Prop := ∀ b, b < n → liv (hB n fa fb k) b → (Md_parent x b).toInt = (bup n fa fb k b).1 ∧ (Md_up x b).toInt = (bup n fa fb k b).2
section R2
variable {fa fb : Nat → Nat} {n k u v b c t y r a d : Nat} {x : MdS} {L M : List (Nat × Nat)}
theorem deepR_ok (hV : Vd fa fb n k) (hn : n ≤ 32) (hP : ParOK n fa fb k x) {w : Int32} (hw : w.toInt = (b : Int)) (hb : b < n) (hl : liv (hB n fa fb k) b) : Ok (Md_m_deep x w) (fun r => r.toInt = ((chn n fa fb k b).length : Int) - 1) := by
  have hF := FH_blk (k := k) (fa := fa) (fb := fb) hV hn
  have hlen : ∀ c, 1 ≤ (chn n fa fb k c).length := fun c => by unfold chn; rw [List.length_cons]; omega
  have hb32 := (hF b hb hl).2
  unfold Md_m_deep
  refine Ok_rdb hw (by omega) ?_
  refine Ok_upto (fun (j : Nat) (p : Int32 × Int32) => p.1.toInt = (j : Int) ∧ ∃ c, c < n ∧ liv (hB n fa fb k) c ∧ p.2 = Md_parent x c ∧ j + (chn n fa fb k c).length = (chn n fa fb k b).length) (e := (chn n fa fb k b).length - 1) (by omega) ⟨i32_0, b, hb, hl, rfl, by omega⟩ ?_ ?_
  · intro j p hj ⟨hi, c, hc, hcl, hp, hjl⟩
    obtain ⟨v2, v3⟩ := p
    dsimp only at hi hp
    subst hp
    dsimp only [Md_m_deep_s9]
    have hpc := (hP c hc hcl).1
    rcases (hF c hc hcl).1 with ⟨e1, e2⟩ | ⟨a, ha, hal, e1, e2⟩
    · rw [e2] at hjl
      have : j + 1 = (chn n fa fb k b).length := hjl
      omega
    · have hpa : (Md_parent x c).toInt = (a : Int) := hpc.trans e1
      refine Ok_ite (fun q => by rw [i32_eq, hpa, i32_m1] at q; omega) (fun _ => ?_)
      refine Ok_rdb hpa (by omega) (Ok_some ⟨nx_s hi (by omega), a, ha, hal, rfl, ?_⟩)
      rw [e2, List.length_cons] at hjl
      omega
  · intro p ⟨hi, c, hc, hcl, hp, hjl⟩
    obtain ⟨v2, v3⟩ := p
    dsimp only at hi hp
    subst hp
    dsimp only [Md_m_deep_s9]
    have hpc := (hP c hc hcl).1
    have h1 := hlen b
    rcases (hF c hc hcl).1 with ⟨e1, e2⟩ | ⟨a, ha, hal, e1, e2⟩
    · have hpa : (Md_parent x c).toInt = -1 := hpc.trans e1
      refine Ok_ite (fun _ => Ok_omap (Ok_some ?_)) (fun q => absurd (i32_ext (by rw [hpa, i32_m1])) q)
      show v2.toInt = _
      omega
    · have h2 := hlen a
      rw [e2, List.length_cons] at hjl
      omega
theorem rvW_app {Z : Nat → Prop} {A B : List (Nat × Nat)} {u x : Nat} (h : isW fa fb Z u A x) : rvW u (A ++ B) = rvW x B ++ rvW u A := by
  induction A generalizing u with
  | nil => cases h; simp [rvW]
  | cons s A ih =>
    show rvW s.2 (A ++ B) ++ [(s.1, u)] = rvW x B ++ (rvW s.2 A ++ [(s.1, u)])
    rw [ih h.2.2, List.append_assoc]
theorem onW_symm {a b x : Nat} (hab : ld fa fb k a = ld fa fb k b) (h : onW fa fb k a b x) : onW fa fb k b a x := by
  have hxb : ld fa fb k x = ld fa fb k b := h.1.symm.trans hab
  refine ⟨hxb.symm, ?_⟩
  rw [pa_rev hab, h.2, rvW_app (pa_W h.1), ← pa_rev hxb, ← pa_rev h.1]
theorem nm_symm (hV : Vd fa fb n k) (ha : a < n) (hd : d < n) (hl : ld fa fb k a = ld fa fb k d) {j : Nat} : j ∈ bnm n fa fb k a :: nmL (bnm n fa fb k) (fw fa fb (qb fa fb k) k a d) ↔ j ∈ bnm n fa fb k d :: nmL (bnm n fa fb k) (fw fa fb (qb fa fb k) k d a) := by
  constructor
  · intro h
    obtain ⟨x, hx, ho, he⟩ := nm_onW hV ha hl h
    rw [← he]
    exact onW_nm hV (NmQ_b hV) hd hx (onW_symm hl ho)
  · intro h
    obtain ⟨x, hx, ho, he⟩ := nm_onW hV hd hl.symm h
    rw [← he]
    exact onW_nm hV (NmQ_b hV) ha hx (onW_symm hl.symm ho)
/-- from a block that is not shallower: its parent is next on the way -/
theorem climbB (hV : Vd fa fb n k) (ha : a < n) (hal : liv (hB n fa fb k) a) (hd : d < n) (hdl : liv (hB n fa fb k) d) (hl : ld fa fb k a = ld fa fb k d) (hne : a ≠ d) (hle : (chn n fa fb k d).length ≤ (chn n fa fb k a).length) :
    ∃ c, c < n ∧ liv (hB n fa fb k) c ∧ (bup n fa fb k a).1 = (c : Int) ∧ ld fa fb k c = ld fa fb k d ∧ (fw fa fb (qb fa fb k) k a d).length = (fw fa fb (qb fa fb k) k c d).length + 1 ∧ (∀ j, j ∈ a :: nmL (bnm n fa fb k) (fw fa fb (qb fa fb k) k a d) ↔ j = a ∨ j ∈ c :: nmL (bnm n fa fb k) (fw fa fb (qb fa fb k) k c d)) := by
  obtain ⟨hR1, hR2⟩ := hR_ok hV
  have har := (hR1 a ha).2.symm
  have hrr : hR n fa fb k d = hR n fa fb k a := hR2 d a hl.symm
  have hdr : ld fa fb k d = ld fa fb k (hR n fa fb k a) := hl.symm.trans har
  have h1 : (fw fa fb (qb fa fb k) k d (hR n fa fb k a)).length ≤ (fw fa fb (qb fa fb k) k a (hR n fa fb k a)).length := by
    unfold chn at hle
    rw [hrr] at hle
    simp only [List.length_cons, nmL, List.length_map] at hle
    omega
  have h2 : ¬ fw fa fb (qb fa fb k) k a d = [] := fun z => by
    have := (NmQ_b (n := n) hV a d ha hd).mpr ⟨hl, z⟩
    rw [liv_bnm hal, liv_bnm hdl] at this
    exact hne this
  obtain ⟨t, y, e1, e2, e3⟩ := fw_climb har hdr h1 h2
  have hs := fw_hd_lt hV har e1
  have hyl := bnm_lt (k := k) (fa := fa) (fb := fb) hV hs.1
  have hyd : ld fa fb k y = ld fa fb k d := e3.trans hdr.symm
  have hby := bnm_same (k := k) (fa := fa) (fb := fb) hV hs.1
  refine ⟨bnm n fa fb k y, hyl.1, hyl.2, ?_, hby.1.trans hyd, ?_, fun j => ?_⟩
  · unfold bup; rw [e1]; rfl
  · rw [e2, List.length_cons, fw_bnm hV hs.1 hyd]
  · rw [e2, fw_bnm hV hs.1 hyd, List.mem_cons]
    rfl
theorem bt_or2 {s v w : Int32} {p q j : Nat} (hv : v.toInt = (p : Int)) (hp : p < 32) (hw : w.toInt = (q : Int)) (hq : q < 32) (hj : j < 32) : bt ((s ||| (1 <<< (v &&& 31))) ||| (1 <<< (w &&& 31))) j = true ↔ bt s j = true ∨ j = p ∨ j = q := by
  have e1 : v.toInt.toNat = p := by omega
  have e2 : w.toInt.toNat = q := by omega
  rw [b_or, b_or, bt_bit (by omega) (by omega) hj, bt_bit (by omega) (by omega) hj, e1, e2]
  simp only [Bool.or_eq_true, decide_eq_true_iff]
  constructor
  · intro z
    rcases z with (z | z) | z
    · exact Or.inl z
    · exact Or.inr (Or.inl z)
    · exact Or.inr (Or.inr z)
  · intro z
    rcases z with z | z | z
    · exact Or.inl (Or.inl z)
    · exact Or.inl (Or.inr z)
    · exact Or.inr z
theorem bt_two {v w : Int32} {p q j : Nat} (hv : v.toInt = (p : Int)) (hp : p < 32) (hw : w.toInt = (q : Int)) (hq : q < 32) (hj : j < 32) : bt ((1 <<< (v &&& 31)) ||| (1 <<< (w &&& 31))) j = true ↔ j = p ∨ j = q := by
  have e1 : v.toInt.toNat = p := by omega
  have e2 : w.toInt.toNat = q := by omega
  rw [b_or, bt_bit (by omega) (by omega) hj, bt_bit (by omega) (by omega) hj, e1, e2]
  simp only [Bool.or_eq_true, decide_eq_true_iff]
theorem onWay_ok (hV : Vd fa fb n k) (hn : n ≤ 32) (hP : ParOK n fa fb k x) {w1 w2 : Int32} (h1 : w1.toInt = (a : Int)) (h2 : w2.toInt = (d : Int)) (ha : a < n) (hal : liv (hB n fa fb k) a) (hd : d < n) (hdl : liv (hB n fa fb k) d) (hl : ld fa fb k a = ld fa fb k d) :
    Ok (Md_m_onWay x w1 w2) (fun r => ∀ j, j < 32 → (bt r j = true ↔ j ∈ a :: nmL (bnm n fa fb k) (fw fa fb (qb fa fb k) k a d))) := by
  have hlen32 : (fw fa fb (qb fa fb k) k a d).length < 32 := by
    have h5 := fw_le (fa := fa) (fb := fb) (k := k) (u := a) (v := d)
    have h6 := pa_len (v := d) hV ha hl
    omega
  have hlenC : ∀ c, 1 ≤ (chn n fa fb k c).length := fun c => by unfold chn; rw [List.length_cons]; omega
  unfold Md_m_onWay
  refine Ok_upto (fun (i : Nat) (p : Int32 × Int32 × Int32) => ∃ c e : Nat, c < n ∧ liv (hB n fa fb k) c ∧ e < n ∧ liv (hB n fa fb k) e ∧ ld fa fb k c = ld fa fb k e ∧ p.2.1.toInt = (c : Int) ∧ p.2.2.toInt = (e : Int) ∧ i + (fw fa fb (qb fa fb k) k c e).length = (fw fa fb (qb fa fb k) k a d).length ∧
      bt p.1 c = true ∧ bt p.1 e = true ∧ ∀ j, j < 32 → (j ∈ a :: nmL (bnm n fa fb k) (fw fa fb (qb fa fb k) k a d) ↔ bt p.1 j = true ∨ j ∈ c :: nmL (bnm n fa fb k) (fw fa fb (qb fa fb k) k c e))) (e := (fw fa fb (qb fa fb k) k a d).length) (by omega) ?_ ?_ ?_
  · refine ⟨a, d, ha, hal, hd, hdl, hl, h1, h2, by omega, ?_, ?_, fun j hj => ?_⟩
    · exact (bt_two h1 (by omega) h2 (by omega) (by omega)).mpr (Or.inl rfl)
    · exact (bt_two h1 (by omega) h2 (by omega) (by omega)).mpr (Or.inr rfl)
    · rw [bt_two h1 (by omega) h2 (by omega) hj]
      constructor
      · intro z; exact Or.inr z
      · intro z
        rcases z with (z | z) | z
        · rw [z]; exact List.mem_cons_self
        · rw [z]
          have := nm_end hV (NmQ_b (n := n) hV) rfl ha hd hl
          rw [liv_bnm hal, liv_bnm hdl] at this
          exact this
        · exact z
  · intro i p hi ⟨c, e, hc, hcl, he, hel, hce, hpc, hpe, hil, hbc, hbe, hset⟩
    obtain ⟨v3, v4, v5⟩ := p
    dsimp only at hpc hpe hbc hbe hset
    dsimp only [Md_m_onWay_s14]
    have hne : c ≠ e := fun z => by rw [z, fw_self] at hil; have : i + 0 = (fw fa fb (qb fa fb k) k a d).length := hil; omega
    refine Ok_ite (fun q => by rw [i32_eq, hpc, hpe] at q; omega) (fun _ => ?_)
    refine Ok_then (deepR_ok hV hn hP hpc hc hcl) (fun g24 h24 => Ok_then (deepR_ok hV hn hP hpe he hel) (fun g30 h30 => ?_))
    refine Ok_ite (fun q => ?_) (fun q => ?_)
    · rw [i32_lt, h24, h30] at q
      obtain ⟨c2, g1, g2, g3, g4, g5, g6⟩ := climbB hV he hel hc hcl hce.symm (fun z => hne z.symm) (by omega)
      have hpar := (hP e he hel).1.trans g3
      refine Ok_rdb hpe (by omega) ?_
      unfold Md_m_onWay_j57
      have l1 := fw_rev_len (q := qb fa fb k) hce
      have l2 := fw_rev_len (q := qb fa fb k) g4
      refine Ok_some ⟨c, c2, hc, hcl, g1, g2, g4.symm, hpc, hpar, by omega, ?_, ?_, fun j hj => ?_⟩
      · exact (bt_or2 hpc (by omega) hpar (by omega) (by omega)).mpr (Or.inl hbc)
      · exact (bt_or2 hpc (by omega) hpar (by omega) (by omega)).mpr (Or.inr (Or.inr rfl))
      · rw [bt_or2 hpc (by omega) hpar (by omega) hj, hset j hj]
        have s1 := nm_symm (j := j) hV hc he hce
        have s2 := nm_symm (j := j) hV hc g1 g4.symm
        rw [liv_bnm hcl, liv_bnm hel] at s1
        rw [liv_bnm hcl, liv_bnm g2] at s2
        rw [s1, s2, g6 j]
        constructor
        · intro z
          rcases z with z | z | z
          · exact Or.inl (Or.inl z)
          · rw [z]; exact Or.inl (Or.inl hbe)
          · exact Or.inr z
        · intro z
          rcases z with (z | z | z) | z
          · exact Or.inl z
          · rw [z]; exact Or.inl hbc
          · rw [z]; exact Or.inr (Or.inr List.mem_cons_self)
          · exact Or.inr (Or.inr z)
    · rw [i32_lt, h24, h30] at q
      obtain ⟨c2, g1, g2, g3, g4, g5, g6⟩ := climbB hV hc hcl he hel hce hne (by omega)
      have hpar := (hP c hc hcl).1.trans g3
      refine Ok_rdb hpc (by omega) ?_
      unfold Md_m_onWay_j57
      refine Ok_some ⟨c2, e, g1, g2, he, hel, g4, hpar, hpe, by omega, ?_, ?_, fun j hj => ?_⟩
      · exact (bt_or2 hpar (by omega) hpe (by omega) (by omega)).mpr (Or.inr (Or.inl rfl))
      · exact (bt_or2 hpar (by omega) hpe (by omega) (by omega)).mpr (Or.inl hbe)
      · rw [bt_or2 hpar (by omega) hpe (by omega) hj, hset j hj, g6 j]
        constructor
        · intro z
          rcases z with z | z | z
          · exact Or.inl (Or.inl z)
          · rw [z]; exact Or.inl (Or.inl hbc)
          · exact Or.inr z
        · intro z
          rcases z with (z | z | z) | z
          · exact Or.inl z
          · rw [z]; exact Or.inr (Or.inr List.mem_cons_self)
          · rw [z]; exact Or.inl hbe
          · exact Or.inr (Or.inr z)
  · intro p ⟨c, e, hc, hcl, he, hel, hce, hpc, hpe, hil, hbc, hbe, hset⟩
    obtain ⟨v3, v4, v5⟩ := p
    dsimp only at hpc hpe hbc hbe hset
    dsimp only [Md_m_onWay_s14]
    have h0 : fw fa fb (qb fa fb k) k c e = [] := List.length_eq_zero_iff.mp (by omega)
    have hcee : c = e := by
      have := (NmQ_b (n := n) hV c e hc he).mpr ⟨hce, h0⟩
      rw [liv_bnm hcl, liv_bnm hel] at this
      exact this
    refine Ok_ite (fun _ => Ok_omap (Ok_some (fun j hj => ?_))) (fun q => absurd (i32_ext (by rw [hpc, hpe, hcee])) q)
    show bt v3 j = true ↔ _
    rw [hset j hj, h0]
    constructor
    · intro z; exact Or.inl z
    · intro z
      rcases z with z | z
      · exact z
      · have : j = c := by simpa [nmL] using z
        rw [this]; exact hbc
theorem count_ok {s : Int32} : Ok (Md_m_count x s) (fun r => r.toInt = (cnt (fun j => bt s j = true) 32 : Int)) := by
  unfold Md_m_count
  refine Ok_cnt 32 (fun j => bt s j = true) (by omega) i32_0 i32_0 ?_ ?_
  · intro j c i hj hi
    dsimp only [Md_m_count_s4]
    refine Ok_ite (fun q => by rw [i32_le, i32_32] at q; omega) (fun _ => Ok_eqb (has_ok hi hj) (Ok_ite (fun q => Ok_some (Or.inl ⟨q, rfl⟩)) (fun q => Ok_some (Or.inr ⟨q, rfl⟩))))
  · intro c i hi hc
    dsimp only [Md_m_count_s4]
    exact Ok_ite (fun _ => Ok_omap (Ok_some hc)) (fun q => by rw [i32_le, i32_32] at q; omega)
theorem count_set {s : Int32} {L : List Nat} (hnd : L.Nodup) (hlt : ∀ j, j ∈ L → j < 32) (hs : ∀ j, j < 32 → (bt s j = true ↔ j ∈ L)) : cnt (fun j => bt s j = true) 32 = L.length := by
  rw [nodup_cnt2 hnd hlt]
  exact cnt_congr hs
theorem way_nodup (hV : Vd fa fb n k) (ha : a < n) (hal : liv (hB n fa fb k) a) (hd : d < n) (hl : ld fa fb k a = ld fa fb k d) : (a :: nmL (bnm n fa fb k) (fw fa fb (qb fa fb k) k a d)).Nodup ∧ ∀ j, j ∈ a :: nmL (bnm n fa fb k) (fw fa fb (qb fa fb k) k a d) → j < n ∧ liv (hB n fa fb k) j := by
  have h := nm_nodup (nm := bnm n fa fb k) hV (NmQ_b hV) rfl ha hl
  rw [liv_bnm hal] at h
  refine ⟨h, fun j hj => ?_⟩
  have hj' : j ∈ bnm n fa fb k a :: nmL (bnm n fa fb k) (fw fa fb (qb fa fb k) k a d) := by rw [liv_bnm hal]; exact hj
  obtain ⟨y, hy, _, he⟩ := nm_onW hV ha hl hj'
  rw [← he]
  exact bnm_lt hV hy
theorem apart_ok' (hV : Vd fa fb n k) (hn : n ≤ 32) (hP : ParOK n fa fb k x) {w1 w2 : Int32} (h1 : w1.toInt = (a : Int)) (h2 : w2.toInt = (d : Int)) (ha : a < n) (hal : liv (hB n fa fb k) a) (hd : d < n) (hdl : liv (hB n fa fb k) d) (hl : ld fa fb k a = ld fa fb k d) :
    Ok (Md_m_apart x w1 w2) (fun r => r.toInt = ((fw fa fb (qb fa fb k) k a d).length : Int)) := by
  unfold Md_m_apart
  refine Ok_then (onWay_ok hV hn hP h1 h2 ha hal hd hdl hl) (fun g4 h4 => Ok_then (count_ok (x := x)) (fun g7 h7 => Ok_some ?_))
  obtain ⟨w1, w2⟩ := way_nodup hV ha hal hd hl
  rw [count_set w1 (fun j hj => Nat.lt_of_lt_of_le (w2 j hj).1 hn) h4, List.length_cons, nmL, List.length_map] at h7
  have hlen32 : (fw fa fb (qb fa fb k) k a d).length < 32 := by
    have h5 := fw_le (fa := fa) (fb := fb) (k := k) (u := a) (v := d)
    have h6 := pa_len (v := d) hV ha hl
    omega
  exact nx_d h7 (mil hlen32)
end R2
