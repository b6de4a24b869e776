/-! REFERENCE 1: names that become one -/
def lnm (n : Nat) (fa fb : Nat → Nat) (k v : Nat) : Nat := N_of (hL n fa fb k) v
/-- the names of one kind, from a place on -/
def RN (n off : Nat) (s : NSt) (no en it mx : Nat → Int32) : Prop := ∀ j, j < n → (no (off + j)).toInt = (N_of s j : Int) ∧ (en (off + j)).toInt = N_en s j ∧ (it (off + j)).toInt = N_it s j ∧ (mx (off + j)).toInt = (N_mx s j : Int)
section R1
variable {fa fb : Nat → Nat} {n k u v b c t y r off kd : Nat} {x : MdS} {s : NSt}
theorem off_ok {v1 v4 : Int32} {j : Nat} (h1 : v1.toInt = (kd : Int)) (hkd : kd ≤ 1) (h4 : v4.toInt = (j : Int)) (hj : j < 1000) : (32 * v1 + v4).toInt = ((32 * kd + j : Nat) : Int) := by
  have hm : (32 * v1).toInt = 32 * (kd : Int) := by rw [i32_mul (by rw [i32_32]; omega) (by rw [i32_32]; omega), i32_32, h1]
  rw [i32_add (by omega) (by omega), hm, h4]
  omega
theorem landAt {v4 : Int32} {j : Nat} (h4 : v4.toInt = (j : Int)) (hj : j < 1000) : (32 + v4).toInt = ((32 + j : Nat) : Int) := by
  rw [i32_add (by rw [i32_32]; omega) (by rw [i32_32]; omega), i32_32, h4]
  omega
theorem sizeOfR_ok {v1 v2 : Int32} {b : Nat} (hn : (Md_n x).toInt = (n : Int)) (hn32 : n ≤ 32) (h1 : v1.toInt = (kd : Int)) (hkd : kd ≤ 1) (h2 : v2.toInt = (b : Int)) {f : Nat → Nat} (hf : ∀ j, j < n → (Md_nameOf x (32 * kd + j)).toInt = (f j : Int)) :
    Ok (Md_m_sizeOf x v1 v2) (fun r => r.toInt = (cnt (fun v => f v = b) n : Int)) := by
  unfold Md_m_sizeOf
  refine Ok_cnt n (fun v => f v = b) (by omega) i32_0 i32_0 ?_ ?_
  · intro j c i hj hi
    dsimp only [Md_m_sizeOf_s5]
    refine Ok_ite (fun q => by rw [i32_le] at q; omega) (fun _ => ?_)
    refine Ok_rdb (off_ok h1 hkd hi (by omega)) (by omega) (Ok_ite (fun q => ?_) (fun q => ?_))
    · rw [i32_eq, hf j hj, h2] at q
      exact Ok_some (Or.inl ⟨by omega, rfl⟩)
    · rw [i32_eq, hf j hj, h2] at q
      exact Ok_some (Or.inr ⟨fun z => q (by rw [z]), rfl⟩)
  · intro c i hi hc
    dsimp only [Md_m_sizeOf_s5]
    exact Ok_ite (fun _ => Ok_omap (Ok_some hc)) (fun q => by rw [i32_le] at q; omega)
theorem kpr_congr {sz sz2 : Nat → Nat} {S : Nat → Bool} {j : Nat} (h : ∀ b, b < j → S b = true → sz b = sz2 b) : kpr sz S j = kpr sz2 S j := by
  induction j with
  | zero => rfl
  | succ j ih =>
    rw [kpr_s, kpr_s, ih (fun b hb => h b (by omega))]
    cases hk : kpr sz2 S j with
    | none => rfl
    | some b =>
      dsimp only
      obtain ⟨h1, h2⟩ := kpr_mem hk
      by_cases c : S j = true
      · rw [h b (by omega) h2, h j (by omega) c]
      · rw [if_neg (fun z => c z.1), if_neg (fun z => c z.1)]
theorem has_ok {x : MdS} {m v : Int32} {j : Nat} (hv : v.toInt = (j : Int)) (hj : j < 32) : Md_m_has x m v = some (bt m j) := by
  rw [Md_has_ok (by omega) (by omega)]
  have : v.toInt.toNat = j := by omega
  rw [this]
def U4 (x : MdS) (no en it mx : Nat → Int32) : MdS := Md_set_most (Md_set_into (Md_set_endedBy (Md_set_nameOf x no) en) it) mx
theorem U4_0 : U4 x (Md_nameOf x) (Md_endedBy x) (Md_into x) (Md_most x) = x := rfl
theorem U4_1 {no en it mx f : Nat → Int32} : Md_set_nameOf (U4 x no en it mx) f = U4 x f en it mx := rfl
theorem U4_2 {no en it mx f g : Nat → Int32} : Md_set_into (Md_set_endedBy (U4 x no en it mx) f) g = U4 x no f g mx := rfl
theorem U4_3 {no en it mx f : Nat → Int32} : Md_set_most (U4 x no en it mx) f = U4 x no en it f := rfl
theorem U4_n {no en it mx : Nat → Int32} : Md_n (U4 x no en it mx) = Md_n x := rfl
theorem U4_no {no en it mx : Nat → Int32} : Md_nameOf (U4 x no en it mx) = no := rfl
theorem U4_mx {no en it mx : Nat → Int32} : Md_most (U4 x no en it mx) = mx := rfl
theorem U4_en {no en it mx : Nat → Int32} : Md_endedBy (U4 x no en it mx) = en := rfl
theorem U4_it {no en it mx : Nat → Int32} : Md_into (U4 x no en it mx) = it := rfl
def UQ (n kd : Nat) (s : NSt) (S : Nat → Bool) (l K : Nat) (x : MdS) (r : Int32 × MdS) : Prop := r.1.toInt = (K : Int) ∧ ∃ no en it mx, r.2 = U4 x no en it mx ∧ RN n (32 * kd) (jnK n s S l K) no en it mx ∧ ∀ i, (i < 32 * kd ∨ 32 * kd + n ≤ i) → no i = Md_nameOf x i ∧ en i = Md_endedBy x i ∧ it i = Md_into x i ∧ mx i = Md_most x i
theorem unites3 {v1 v2 v4 : Int32} {l l0 K : Nat} {S : Nat → Bool} (hn : (Md_n x).toInt = (n : Int)) (hn32 : n ≤ 32) (h1 : v1.toInt = (kd : Int)) (hkd : kd ≤ 1) (h4 : v4.toInt = (K : Int)) (hR : RN n (32 * kd) s (Md_nameOf x) (Md_endedBy x) (Md_into x) (Md_most x))
    (hI : NI n s l0) (hm : ∀ j, j < n → bt v2 j = S j) (hSl : ∀ b, b < n → S b = true → N_of s b = b) (hKn : K < n) (hSK : S K = true) {en it : Nat → Int32}
    (hei : ∀ i, i < n → (en (32 * kd + i)).toInt = (if i < n ∧ S i = true ∧ i ≠ K then (l : Int) else N_en s i) ∧ (it (32 * kd + i)).toInt = (if i < n ∧ S i = true ∧ i ≠ K then (K : Int) else N_it s i)) (hfar : ∀ i, (i < 32 * kd ∨ 32 * kd + n ≤ i) → en i = Md_endedBy x i ∧ it i = Md_into x i) :
    Ok (iter (fun p : MdS × Int32 => Md_m_unites_s126 v1 v2 v4 p.1 p.2) FU (U4 x (Md_nameOf x) en it (Md_most x), 0)) (UQ n kd s S l K x) := by
  have hsz : ∀ b, b < n → S b = true → cnt (fun v => N_of s v = b) n = N_mx s b := fun b hb hS => by
    rw [(hI.2.2.1 b hb (hSl b hb hS)).1, cntN_cnt]
  have hno : ∀ j, j < n → (Md_nameOf x (32 * kd + j)).toInt = (N_of s j : Int) := fun j hj => (hR j hj).1
  refine Ok_for n (fun j y => ∃ no, y = U4 x no en it (Md_most x) ∧ (∀ i, i < n → (no (32 * kd + i)).toInt = ((if i < j ∧ S (N_of s i) = true then K else N_of s i : Nat) : Int)) ∧ ∀ i, (i < 32 * kd ∨ 32 * kd + n ≤ i) → no i = Md_nameOf x i) (by omega) i32_0 ⟨Md_nameOf x, rfl, fun i hi => ?_, fun i _ => rfl⟩ ?_ ?_
  · rw [if_neg (by omega)]; exact hno i hi
  · intro j y i hj hi ⟨no, hy, hnn, hfn⟩
    subst hy
    dsimp only [Md_m_unites_s126]
    rw [U4_n, U4_no]
    refine Ok_ite (fun q => by rw [i32_le] at q; omega) (fun _ => ?_)
    have hoff := off_ok h1 hkd hi (show j < 1000 by omega)
    have hnj := hnn j hj
    rw [if_neg (by omega)] at hnj
    have hlt := (hI.1 j hj).1
    refine Ok_rdb hoff (by omega) (Ok_eqb (has_ok hnj (by omega)) ?_)
    rw [hm _ hlt]
    refine Ok_ite (fun hS => ?_) (fun hS => ?_)
    · refine Ok_wrb hoff (by omega) ?_
      rw [U4_1]
      refine Ok_some ⟨nx_s hi (by omega), va_up no (32 * kd + j) v4, rfl, fun i2 hi2 => ?_, fun i2 hi2 => ?_⟩
      · by_cases e : i2 = j
        · rw [e, vu_s, if_pos ⟨by omega, hS⟩]; exact h4
        · rw [vu_n (by omega), hnn i2 hi2]
          have e2 : (i2 < j + 1 ∧ S (N_of s i2) = true) ↔ (i2 < j ∧ S (N_of s i2) = true) := ⟨fun z => ⟨by omega, z.2⟩, fun z => ⟨by omega, z.2⟩⟩
          simp only [e2]
      · rw [vu_n (by omega)]; exact hfn i2 hi2
    · refine Ok_some ⟨nx_s hi (by omega), no, rfl, fun i2 hi2 => ?_, hfn⟩
      rw [hnn i2 hi2]
      have e2 : (i2 < j + 1 ∧ S (N_of s i2) = true) ↔ (i2 < j ∧ S (N_of s i2) = true) := ⟨fun z => ⟨by
        have : i2 ≠ j := fun q => hS (q ▸ z.2)
        omega, z.2⟩, fun z => ⟨by omega, z.2⟩⟩
      simp only [e2]
  · intro y i hi ⟨no, hy, hnn, hfn⟩
    subst hy
    dsimp only [Md_m_unites_s126]
    rw [U4_n, U4_mx]
    refine Ok_ite (fun _ => ?_) (fun q => by rw [i32_le] at q; omega)
    refine Ok_omap ?_
    have hoff := off_ok h1 hkd h4 (show K < 1000 by omega)
    have hnn' : ∀ j, j < n → (no (32 * kd + j)).toInt = ((if S (N_of s j) = true then K else N_of s j : Nat) : Int) := fun j hj => by
      rw [hnn j hj]
      have : (j < n ∧ S (N_of s j) = true) ↔ S (N_of s j) = true := ⟨fun z => z.2, fun z => ⟨hj, z⟩⟩
      simp only [this]
    have hmK := (hR K hKn).2.2.2
    have hsum : cnt (fun v => (if S (N_of s v) = true then K else N_of s v) = K) n = sumS n S (N_mx s) := by
      have e := cnt_join (N := n) (m := n) (f := N_of s) (S := S) (K := K) (fun v hv => (hI.1 v hv).1) hSK
      rw [cntN_cnt] at e
      rw [e]
      exact sumS_congr (fun b hb hSb => by rw [cntN_cnt]; exact hsz b hb hSb)
    have hge : N_mx s K ≤ sumS n S (N_mx s) := by
      have := sumS_split (g := N_mx s) hKn hSK
      omega
    refine Ok_rdb hoff (by omega) (Ok_then (sizeOfR_ok (x := U4 x no en it (Md_most x)) (f := fun j => if S (N_of s j) = true then K else N_of s j) hn hn32 h1 hkd h4 hnn') (fun g202 hg => Ok_wrb hoff (by omega) ?_))
    rw [hsum] at hg
    rw [U4_3]
    refine Ok_some ⟨h4, no, en, it, va_up (Md_most x) (32 * kd + K) (if (Md_most x (32 * kd + K)) < g202 then g202 else Md_most x (32 * kd + K)), rfl, fun j hj => ?_, fun i2 hi2 => ?_⟩
    · refine ⟨hnn' j hj, ?_, ?_, ?_⟩
      · rw [(hei j hj).1]
        show _ = if S j = true ∧ j ≠ K then (l : Int) else N_en s j
        have : (j < n ∧ S j = true ∧ j ≠ K) ↔ (S j = true ∧ j ≠ K) := ⟨fun z => z.2, fun z => ⟨hj, z⟩⟩
        simp only [this]
      · rw [(hei j hj).2]
        show _ = if S j = true ∧ j ≠ K then (K : Int) else N_it s j
        have : (j < n ∧ S j = true ∧ j ≠ K) ↔ (S j = true ∧ j ≠ K) := ⟨fun z => z.2, fun z => ⟨hj, z⟩⟩
        simp only [this]
      · show _ = ((if j = K then sumS n S (N_mx s) else N_mx s j : Nat) : Int)
        by_cases e : j = K
        · rw [e, vu_s, if_pos rfl]
          by_cases q : Md_most x (32 * kd + K) < g202
          · rw [if_pos q]; exact hg
          · rw [if_neg q]
            rw [i32_lt] at q
            omega
        · rw [vu_n (by omega), if_neg e]
          exact (hR j hj).2.2.2
    · rw [vu_n (by omega)]
      exact ⟨hfn i2 hi2, (hfar i2 hi2).1, (hfar i2 hi2).2, rfl⟩
theorem unites2 {v1 v2 v3 v4 : Int32} {l l0 K : Nat} {S : Nat → Bool} (hn : (Md_n x).toInt = (n : Int)) (hn32 : n ≤ 32) (h1 : v1.toInt = (kd : Int)) (hkd : kd ≤ 1) (h3 : v3.toInt = (l : Int)) (h4 : v4.toInt = (K : Int)) (hR : RN n (32 * kd) s (Md_nameOf x) (Md_endedBy x) (Md_into x) (Md_most x))
    (hI : NI n s l0) (hm : ∀ j, j < n → bt v2 j = S j) (hSl : ∀ b, b < n → S b = true → N_of s b = b) (hKn : K < n) (hSK : S K = true) :
    Ok (iter (fun p : MdS × Int32 => Md_m_unites_s61 v1 v2 v3 v4 p.1 p.2) FU (x, 0)) (UQ n kd s S l K x) := by
  refine Ok_for n (fun j y => ∃ en it, y = U4 x (Md_nameOf x) en it (Md_most x) ∧ (∀ i, i < n → (en (32 * kd + i)).toInt = (if i < j ∧ S i = true ∧ i ≠ K then (l : Int) else N_en s i) ∧ (it (32 * kd + i)).toInt = (if i < j ∧ S i = true ∧ i ≠ K then (K : Int) else N_it s i)) ∧
        ∀ i, (i < 32 * kd ∨ 32 * kd + n ≤ i) → en i = Md_endedBy x i ∧ it i = Md_into x i) (by omega) i32_0 ⟨Md_endedBy x, Md_into x, U4_0.symm, fun i hi => ?_, fun i _ => ⟨rfl, rfl⟩⟩ ?_ ?_
  · rw [if_neg (by omega), if_neg (by omega)]
    exact ⟨(hR i hi).2.1, (hR i hi).2.2.1⟩
  · intro j y i hj hi ⟨en, it, hy, hei, hfar⟩
    subst hy
    dsimp only [Md_m_unites_s61]
    rw [U4_n, U4_en]
    refine Ok_ite (fun q => by rw [i32_le] at q; omega) (fun _ => ?_)
    refine Ok_eqb (has_ok hi (by omega)) ?_
    rw [hm j hj]
    have skip : ¬ (S j = true ∧ j ≠ K) → Ok (some (Sum.inl (U4 x (Md_nameOf x) en it (Md_most x), i + 1)) : Option ((MdS × Int32) ⊕ (Int32 × MdS))) (LR (fun p => p.2.toInt = ((j + 1 : Nat) : Int) ∧ ∃ en it, p.1 = U4 x (Md_nameOf x) en it (Md_most x) ∧ (∀ i, i < n → (en (32 * kd + i)).toInt = (if i < j + 1 ∧ S i = true ∧ i ≠ K then (l : Int) else N_en s i) ∧ (it (32 * kd + i)).toInt = (if i < j + 1 ∧ S i = true ∧ i ≠ K then (K : Int) else N_it s i)) ∧
        ∀ i, (i < 32 * kd ∨ 32 * kd + n ≤ i) → en i = Md_endedBy x i ∧ it i = Md_into x i) (UQ n kd s S l K x)) := by
      intro hno
      refine Ok_some ⟨nx_s hi (by omega), en, it, rfl, fun i2 hi2 => ?_, hfar⟩
      have e : (i2 < j + 1 ∧ S i2 = true ∧ i2 ≠ K) ↔ (i2 < j ∧ S i2 = true ∧ i2 ≠ K) := ⟨fun z => ⟨by
        have : i2 ≠ j := fun q => hno (q ▸ z.2)
        omega, z.2⟩, fun z => ⟨by omega, z.2⟩⟩
      simp only [e]
      exact hei i2 hi2
    refine Ok_ite (fun hS => Ok_ite (fun q => ?_) (fun q => ?_)) (fun hS => skip (fun z => hS z.1))
    · rw [i32_eq] at q
      exact skip (fun z => z.2 (by omega))
    · have hjK : j ≠ K := fun z => q (i32_ext (by omega))
      have hoff := off_ok h1 hkd hi (show j < 1000 by omega)
      refine Ok_wrb hoff (by omega) (Ok_wrb hoff (by omega) ?_)
      refine Ok_some ⟨nx_s hi (by omega), va_up en (32 * kd + j) v3, va_up it (32 * kd + j) v4, U4_2, fun i2 hi2 => ?_, fun i2 hi2 => ?_⟩
      · by_cases e : i2 = j
        · rw [e, vu_s, vu_s, if_pos ⟨by omega, hS, hjK⟩, if_pos ⟨by omega, hS, hjK⟩]; exact ⟨h3, h4⟩
        · rw [vu_n (by omega), vu_n (by omega)]
          have e2 : (i2 < j + 1 ∧ S i2 = true ∧ i2 ≠ K) ↔ (i2 < j ∧ S i2 = true ∧ i2 ≠ K) := ⟨fun z => ⟨by omega, z.2⟩, fun z => ⟨by omega, z.2⟩⟩
          simp only [e2]
          exact hei i2 hi2
      · rw [vu_n (by omega), vu_n (by omega)]
        exact hfar i2 hi2
  · intro y i hi ⟨en, it, hy, hei, hfar⟩
    subst hy
    dsimp only [Md_m_unites_s61]
    rw [U4_n]
    refine Ok_ite (fun _ => ?_) (fun q => by rw [i32_le] at q; omega)
    exact Ok_omap (unites3 hn hn32 h1 hkd h4 hR hI hm hSl hKn hSK hei hfar)
theorem unites_ok {v1 v2 v3 : Int32} {l l0 K : Nat} {S : Nat → Bool} (hn : (Md_n x).toInt = (n : Int)) (hn32 : n ≤ 32) (h1 : v1.toInt = (kd : Int)) (hkd : kd ≤ 1) (h3 : v3.toInt = (l : Int)) (hR : RN n (32 * kd) s (Md_nameOf x) (Md_endedBy x) (Md_into x) (Md_most x))
    (hI : NI n s l0) (hm : ∀ j, j < n → bt v2 j = S j) (hSl : ∀ b, b < n → S b = true → N_of s b = b) (hK : kpr (N_mx s) S n = some K) :
    Ok (Md_m_unites x v1 v2 v3) (UQ n kd s S l K x) := by
  obtain ⟨hKn, hSK⟩ := kpr_mem hK
  have hsz : ∀ b, b < n → S b = true → cnt (fun v => N_of s v = b) n = N_mx s b := fun b hb hS => by
    rw [(hI.2.2.1 b hb (hSl b hb hS)).1, cntN_cnt]
  have hK2 : kpr (fun b => cnt (fun v => N_of s v = b) n) S n = some K := by rw [← hK]; exact kpr_congr hsz
  have hno : ∀ j, j < n → (Md_nameOf x (32 * kd + j)).toInt = (N_of s j : Int) := fun j hj => (hR j hj).1
  unfold Md_m_unites
  refine Ok_for n (fun j (c : Int32) => c.toInt = kv (kpr (fun b => cnt (fun v => N_of s v = b) n) S j)) (by omega) i32_0 i32_m1 ?_ ?_
  · intro j v4 v5 hj h5 h4
    dsimp only [Md_m_unites_s6]
    refine Ok_ite (fun q => by rw [i32_le] at q; omega) (fun _ => ?_)
    refine Ok_eqb (has_ok h5 (by omega)) ?_
    rw [hm j hj]
    refine Ok_ite (fun hS => ?_) (fun hS => ?_)
    · refine Ok_ite (fun c3 => ?_) (fun c3 => ?_)
      · refine Ok_some ⟨nx_s h5 (by omega), ?_⟩
        rw [i32_eq, h4, i32_m1] at c3
        cases hk2 : kpr (fun b => cnt (fun v => N_of s v = b) n) S j with
        | none => rw [kpr_s, hk2]; dsimp only; rw [if_pos hS]; exact h5
        | some b => rw [hk2] at c3; simp only [kv] at c3; omega
      · cases hk2 : kpr (fun b => cnt (fun v => N_of s v = b) n) S j with
        | none => exact absurd (by rw [i32_eq, h4, hk2, i32_m1]; rfl) c3
        | some b =>
          rw [hk2] at h4
          have hb := (kpr_mem hk2).1
          have h4' : v4.toInt = (b : Int) := h4
          refine Ok_then (sizeOfR_ok hn hn32 h1 hkd h5 hno) (fun g35 e1 => Ok_then (sizeOfR_ok hn hn32 h1 hkd h4' hno) (fun g42 e2 => ?_))
          refine Ok_ite (fun c5 => ?_) (fun c5 => ?_)
          · rw [i32_le] at c5
            refine Ok_some ⟨nx_s h5 (by omega), ?_⟩
            rw [kpr_s, hk2]; dsimp only
            rw [if_neg (by omega)]
            exact h4
          · rw [i32_le] at c5
            refine Ok_some ⟨nx_s h5 (by omega), ?_⟩
            rw [kpr_s, hk2]; dsimp only
            rw [if_pos ⟨hS, by omega⟩]
            exact h5
    · refine Ok_some ⟨nx_s h5 (by omega), ?_⟩
      rw [kpr_s]
      cases hk2 : kpr (fun b => cnt (fun v => N_of s v = b) n) S j with
      | none => dsimp only; rw [if_neg hS, ← hk2]; exact h4
      | some b => dsimp only; rw [if_neg (fun q => hS q.1), ← hk2]; exact h4
  · intro v4 v5 h5 h4
    dsimp only [Md_m_unites_s6]
    refine Ok_ite (fun _ => ?_) (fun q => by rw [i32_le] at q; omega)
    rw [hK2] at h4
    have h4 : v4.toInt = (K : Int) := h4
    exact Ok_omap (unites2 hn hn32 h1 hkd h3 h4 hR hI hm hSl hKn hSK)
end R1
