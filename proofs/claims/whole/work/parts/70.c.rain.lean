/-! CALLS 3: rain -/
def nxS (s : Int32) : Int32 := s * 1664525 + 1013904223
def hiS (s : Int32) : Int32 := ((s.toUInt32 >>> ((8 : Int32).toUInt32 &&& Int32.toUInt32 31)).toInt32)
def drV (s y : Int32) : Int32 := hiS s - hiS s / y * y
/-- what rain draws -/
def rnU (n : Nat) (s : Int32) : Nat := (drV (nxS s) (Int32.ofNat n)).toInt.toNat
def rnW (n : Nat) (s : Int32) : Nat := (drV (nxS (nxS s)) (Int32.ofNat (n - 1))).toInt.toNat
def rnV (n : Nat) (s : Int32) : Nat := if rnW n s < rnU n s then rnW n s else rnW n s + 1
def rnS (n m : Nat) (s : Int32) (fa fb : Nat → Nat) : Nat → Int32 × (Nat → Nat) × (Nat → Nat)
  | 0 => (s, fa, fb)
  | i + 1 => (nxS (nxS (rnS n m s fa fb i).1), uf (rnS n m s fa fb i).2.1 (m + i) (rnU n (rnS n m s fa fb i).1), uf (rnS n m s fa fb i).2.2 (m + i) (rnV n (rnS n m s fa fb i).1))
section K3
variable {fa fb ga gb : Nat → Nat} {n k m r u v b : Nat} {X Y : SBS} {M x y q : MdS} {s : Int32}
theorem sst_n {w : Int32} : Md_n (Md_set_state y w) = Md_n y := rfl
theorem sst_s {w : Int32} : Md_state (Md_set_state y w) = w := rfl
theorem drn_now {w : Int32} : SB_now (SB_set_drawn Y w) = SB_now Y := rfl
theorem drn_d {w : Int32} : SB_drawn (SB_set_drawn Y w) = w := rfl
theorem hiS_rng (s : Int32) : 0 ≤ (hiS s).toInt ∧ (hiS s).toInt < 16777216 := by
  have e : ((8 : Int32).toUInt32 &&& Int32.toUInt32 31) = 8 := by decide
  have h1 : (hiS s).toBitVec.toNat < 16777216 := by
    show ((s.toUInt32 >>> ((8 : Int32).toUInt32 &&& Int32.toUInt32 31)).toInt32).toBitVec.toNat < 16777216
    rw [e]
    show (s.toUInt32 >>> (8 : UInt32)).toNat < 16777216
    rw [UInt32.toNat_shiftRight]
    have h2 : ((8 : UInt32).toNat % 32) = 8 := by decide
    rw [h2, Nat.shiftRight_eq_div_pow]
    have h3 := s.toUInt32.toNat_lt
    omega
  have h2 : (hiS s).toInt = (hiS s).toBitVec.toInt := rfl
  rw [h2, BitVec.toInt_eq_toNat_of_lt (by omega)]
  omega
theorem drV_rng {y : Int32} (hy : 0 < y.toInt) : 0 ≤ (drV s y).toInt ∧ (drV s y).toInt < y.toInt := by
  have h1 := hiS_rng s
  have hy2 := i32_rng y
  unfold drV
  generalize hiS s = x at *
  have hd : (x / y).toInt = x.toInt.tdiv y.toInt := by
    rw [Int32.toInt_div]
    have h2 : x.toInt.tdiv y.toInt = x.toInt / y.toInt := Int.tdiv_eq_ediv_of_nonneg h1.1
    have h3 : 0 ≤ x.toInt / y.toInt := Int.ediv_nonneg h1.1 (by omega)
    have h4 : x.toInt / y.toInt ≤ x.toInt := Int.ediv_le_self _ h1.1
    rw [h2]
    exact Int.bmod_eq_of_le (by omega) (by omega)
  have h2 : x.toInt.tdiv y.toInt = x.toInt / y.toInt := Int.tdiv_eq_ediv_of_nonneg h1.1
  rw [h2] at hd
  have h3 : x.toInt / y.toInt * y.toInt + x.toInt % y.toInt = x.toInt := Int.ediv_mul_add_emod _ _
  have h4 := Int.emod_nonneg x.toInt (show y.toInt ≠ 0 by omega)
  have h5 := Int.emod_lt_of_pos x.toInt hy
  have h6 : 0 ≤ x.toInt / y.toInt := Int.ediv_nonneg h1.1 (by omega)
  have h7 : 0 ≤ x.toInt / y.toInt * y.toInt := Int.mul_nonneg h6 (by omega)
  have hm : (x / y * y).toInt = x.toInt / y.toInt * y.toInt := by
    rw [i32_mul (by rw [hd]; omega) (by rw [hd]; omega), hd]
  rw [i32_sub (by rw [hm]; omega) (by rw [hm]; omega), hm]
  omega
theorem rn_rng (h2 : 2 ≤ n) (hn : n ≤ 32) : (drV (nxS s) (Int32.ofNat n)).toInt = (rnU n s : Int) ∧ rnU n s < n ∧ (drV (nxS (nxS s)) (Int32.ofNat (n - 1))).toInt = (rnW n s : Int) ∧ rnW n s < n - 1 ∧ rnV n s < n ∧ rnU n s ≠ rnV n s := by
  have e1 : (Int32.ofNat n).toInt = (n : Int) := nI_i (k := n) (by omega)
  have e2 : (Int32.ofNat (n - 1)).toInt = ((n - 1 : Nat) : Int) := nI_i (k := n - 1) (by omega)
  have d1 := drV_rng (s := nxS s) (y := Int32.ofNat n) (by omega)
  have d2 := drV_rng (s := nxS (nxS s)) (y := Int32.ofNat (n - 1)) (by omega)
  have f1 : (drV (nxS s) (Int32.ofNat n)).toInt = (rnU n s : Int) := by unfold rnU; omega
  have f2 : (drV (nxS (nxS s)) (Int32.ofNat (n - 1))).toInt = (rnW n s : Int) := by unfold rnW; omega
  refine ⟨f1, by omega, f2, by omega, ?_, ?_⟩
  · unfold rnV
    by_cases q : rnW n s < rnU n s
    · rw [if_pos q]; omega
    · rw [if_neg q]; omega
  · unfold rnV
    by_cases q : rnW n s < rnU n s
    · rw [if_pos q]; omega
    · rw [if_neg q]; omega
theorem rm_ok {s y : Int32} (hy : y.toInt ≠ 0) : rm (hiS s) y = some (drV s y) := by
  unfold rm
  rw [if_neg (fun z => hy (by rw [z]; rfl))]
  rfl
theorem drawC_ok {y : Int32} (hy : 0 < y.toInt) : SB_m_draw X y = some (drV (nxS (SB_drawn X)) y, SB_set_drawn X (nxS (SB_drawn X))) := by
  unfold SB_m_draw
  rw [if_pos (by rw [i32_le, i32_1]; omega)]
  have e : SB_drawn (SB_set_drawn X (((SB_drawn X) * 1664525) + 1013904223)) = nxS (SB_drawn X) := drn_d
  rw [e]
  show (rm (hiS (nxS (SB_drawn X))) y).bind _ = _
  rw [rm_ok (by omega)]
  rfl
theorem drawR_ok {y : Int32} (hy : 0 < y.toInt) : Md_m_draw x y = some (drV (nxS (Md_state x)) y, Md_set_state x (nxS (Md_state x))) := by
  unfold Md_m_draw
  have e0 : (1664525 * (Md_state x)) + 1013904223 = nxS (Md_state x) := by unfold nxS; rw [Int32.mul_comm]
  rw [e0]
  have e : Md_state (Md_set_state x (nxS (Md_state x))) = nxS (Md_state x) := sst_s
  rw [e]
  show (rm (hiS (nxS (Md_state x))) y).bind _ = _
  rw [rm_ok (by omega)]
  rfl
theorem rn_HV (hv : HV n m fa fb) {i : Nat} (hi : m + i ≤ 64) : HV n (m + i) (rnS n m s fa fb i).2.1 (rnS n m s fa fb i).2.2 := by
  induction i with
  | zero => exact hv
  | succ i ih =>
    have h := rn_rng (s := (rnS n m s fa fb i).1) hv.1 hv.2.1
    exact HV_more (m := m + i) (ih (by omega)) (by omega) h.2.1 h.2.2.2.2.1 h.2.2.2.2.2
theorem rainR_ok (hv : HV n m fa fb) (hr : RI n m fa fb x) (hs : Md_state x = s) {v1 : Int32} (h1 : v1.toInt = (k : Int)) (hk : m + k ≤ 64) : Ok (iter (fun p : MdS × Int32 => Md_m_rain_s33 v1 p.1 p.2) FU (x, 0)) (fun q => q.1.toInt = ((m + k : Nat) : Int) ∧ RI n (m + k) (rnS n m s fa fb k).2.1 (rnS n m s fa fb k).2.2 q.2 ∧ Md_state q.2 = (rnS n m s fa fb k).1) := by
  refine Ok_for k (fun i y => RI n (m + i) (rnS n m s fa fb i).2.1 (rnS n m s fa fb i).2.2 y ∧ Md_state y = (rnS n m s fa fb i).1) (by omega) i32_0 ⟨hr, hs⟩ ?_ ?_
  · intro i y c hi hc ⟨hy, hst⟩
    dsimp only [Md_m_rain_s33]
    have hR := rn_rng (s := (rnS n m s fa fb i).1) hv.1 hv.2.1
    have hn0 := hv.1
    have hn32 := hv.2.1
    have hny : Md_n y = Int32.ofNat n := i32_ext (by rw [hy.1]; exact (nI_i (k := n) (by omega)).symm)
    have hnm1 : Md_n y - 1 = Int32.ofNat (n - 1) := i32_ext (by rw [nx_d (k := n - 1) (by rw [hy.1]; omega) (by omega)]; exact (nI_i (k := n - 1) (by omega)).symm)
    have e1 : (Int32.ofNat n).toInt = (n : Int) := nI_i (k := n) (by omega)
    have e2 : (Int32.ofNat (n - 1)).toInt = ((n - 1 : Nat) : Int) := nI_i (k := n - 1) (by omega)
    refine Ok_ite (fun q => by rw [i32_le] at q; omega) (fun _ => ?_)
    have hn2 : Md_n (Md_set_state y (nxS (Md_state y))) = Md_n y := sst_n
    have hs2 : Md_state (Md_set_state y (nxS (Md_state y))) = nxS (Md_state y) := sst_s
    refine Ok_eqb (drawR_ok (by rw [hny, e1]; omega)) ?_
    rw [hn2]
    refine Ok_eqb (drawR_ok (by rw [hnm1, e2]; omega)) ?_
    rw [hs2, hst, hny]
    have hnm1' : Int32.ofNat n - 1 = Int32.ofNat (n - 1) := by rw [← hny]; exact hnm1
    rw [hnm1']
    have hq : ∀ a b : Int32, ∃ z, z = Md_set_state (Md_set_state y a) b ∧ (∀ mm ga gb, RI n mm ga gb y → RI n mm ga gb z) ∧ Md_state z = b := fun a b => ⟨_, rfl, fun mm ga gb z => z, rfl⟩
    obtain ⟨z, ez, z1, z2⟩ := hq (nxS (rnS n m s fa fb i).1) (nxS (nxS (rnS n m s fa fb i).1))
    dsimp only
    rw [← ez]
    have fin : ∀ w2 : Int32, w2.toInt = (rnV n (rnS n m s fa fb i).1 : Int) → Ok (Md_m_rain_j76 z v1 c (drV (nxS (rnS n m s fa fb i).1) (Int32.ofNat n)) w2) (LR (fun p => p.2.toInt = ((i + 1 : Nat) : Int) ∧ RI n (m + (i + 1)) (rnS n m s fa fb (i + 1)).2.1 (rnS n m s fa fb (i + 1)).2.2 p.1 ∧ Md_state p.1 = (rnS n m s fa fb (i + 1)).1) (fun q : Int32 × MdS => q.1.toInt = ((m + k : Nat) : Int) ∧ RI n (m + k) (rnS n m s fa fb k).2.1 (rnS n m s fa fb k).2.2 q.2 ∧ Md_state q.2 = (rnS n m s fa fb k).1)) := by
      intro w2 hw2
      unfold Md_m_rain_j76
      refine Ok_then (laysR_ok (by omega) (z1 _ _ _ hy) hR.1 hw2) (fun g hg => Ok_some ⟨nx_s hc (by omega), hg.1, hg.2.1.trans z2⟩)
    refine Ok_ile hR.1 hR.2.2.1 (fun q => fin _ ?_) (fun q => fin _ ?_)
    · rw [nx_s hR.2.2.1 (by omega)]
      unfold rnV
      rw [if_neg (by omega)]
    · rw [hR.2.2.1]
      unfold rnV
      rw [if_pos (by omega)]
  · intro y c hc ⟨hy, hst⟩
    dsimp only [Md_m_rain_s33]
    exact Ok_ite (fun _ => Ok_omap (Ok_some ⟨hy.2.1, hy, hst⟩)) (fun q => by rw [i32_le] at q; omega)
theorem rainC_ok (hv : HV n m fa fb) (hc : WbL n m fa fb (SB_now X)) (hs : SB_drawn X = s) {v1 : Int32} (h1 : v1.toInt = (k : Int)) (hk : m + k ≤ 64) : Ok (iter (fun p : SBS × Int32 => SB_m_rain_s23 v1 p.1 p.2) FU (X, 0)) (fun q => q.1.toInt = ((m + k : Nat) : Int) ∧ CI n (m + k) (rnS n m s fa fb k).2.1 (rnS n m s fa fb k).2.2 q.2 ∧ SB_drawn q.2 = (rnS n m s fa fb k).1) := by
  refine Ok_for k (fun i Y => WbL n (m + i) (rnS n m s fa fb i).2.1 (rnS n m s fa fb i).2.2 (SB_now Y) ∧ SB_drawn Y = (rnS n m s fa fb i).1) (by omega) i32_0 ⟨hc, hs⟩ ?_ ?_
  · intro i Y c hi hc ⟨hy, hst⟩
    dsimp only [SB_m_rain_s23]
    have hR := rn_rng (s := (rnS n m s fa fb i).1) hv.1 hv.2.1
    have hn0 := hv.1
    have hn32 := hv.2.1
    have hyn := hy.1.2.2.2.1.1
    have hny : Wb_nodes (SB_now Y) = Int32.ofNat n := i32_ext (by rw [hyn]; exact (nI_i (k := n) (by omega)).symm)
    have hnm1 : Int32.ofNat n - 1 = Int32.ofNat (n - 1) := i32_ext (by rw [nx_d (k := n - 1) (by rw [show (Int32.ofNat n).toInt = (n : Int) from nI_i (k := n) (by omega)]; omega) (by omega)]; exact (nI_i (k := n - 1) (by omega)).symm)
    have e1 : (Int32.ofNat n).toInt = (n : Int) := nI_i (k := n) (by omega)
    have e2 : (Int32.ofNat (n - 1)).toInt = ((n - 1 : Nat) : Int) := nI_i (k := n - 1) (by omega)
    refine Ok_ite (fun q => by rw [i32_le] at q; omega) (fun _ => ?_)
    have hn2 : SB_now (SB_set_drawn Y (nxS (SB_drawn Y))) = SB_now Y := drn_now
    have hs2 : SB_drawn (SB_set_drawn Y (nxS (SB_drawn Y))) = nxS (SB_drawn Y) := drn_d
    refine Ok_eqb (drawC_ok (by rw [hny, e1]; omega)) ?_
    rw [hn2, hny, hnm1]
    refine Ok_eqb (drawC_ok (by rw [e2]; omega)) ?_
    rw [hs2, hst]
    have hq : ∀ a b : Int32, ∃ z, z = SB_set_drawn (SB_set_drawn Y a) b ∧ SB_now z = SB_now Y ∧ SB_drawn z = b := fun a b => ⟨_, rfl, rfl, rfl⟩
    obtain ⟨z, ez, z1, z2⟩ := hq (nxS (rnS n m s fa fb i).1) (nxS (nxS (rnS n m s fa fb i).1))
    dsimp only
    rw [← ez]
    have hv' := rn_HV (s := s) (i := i + 1) hv (by omega)
    have fin : ∀ w2 : Int32, w2.toInt = (rnV n (rnS n m s fa fb i).1 : Int) → Ok (SB_m_rain_j75 z v1 c (drV (nxS (rnS n m s fa fb i).1) (Int32.ofNat n)) w2) (LR (fun p => p.2.toInt = ((i + 1 : Nat) : Int) ∧ WbL n (m + (i + 1)) (rnS n m s fa fb (i + 1)).2.1 (rnS n m s fa fb (i + 1)).2.2 (SB_now p.1) ∧ SB_drawn p.1 = (rnS n m s fa fb (i + 1)).1) (fun q : Int32 × SBS => q.1.toInt = ((m + k : Nat) : Int) ∧ CI n (m + k) (rnS n m s fa fb k).2.1 (rnS n m s fa fb k).2.2 q.2 ∧ SB_drawn q.2 = (rnS n m s fa fb k).1)) := by
      intro w2 hw2
      unfold SB_m_rain_j75
      rw [z1]
      refine Ok_then (add_ok (fa := (rnS n m s fa fb (i + 1)).2.1) (fb := (rnS n m s fa fb (i + 1)).2.2) (k := m + i) hv'.2.2.2.1 hv'.2.1 (by omega) (WbOK_cg uf_cg hy.1) (hR.1.trans (congrArg (fun z : Nat => (z : Int)) uf_s.symm)) (hw2.trans (congrArg (fun z : Nat => (z : Int)) uf_s.symm))) (fun g hg => Ok_some ⟨nx_s hc (by omega), ⟨hg.1, fun k2 e => ?_⟩, z2⟩)
      have : k2 = m + i := by omega
      rw [this]
      exact hg.2.1
    refine Ok_ile hR.1 hR.2.2.1 (fun q => fin _ ?_) (fun q => fin _ ?_)
    · rw [nx_s hR.2.2.1 (by omega)]
      unfold rnV
      rw [if_neg (by omega)]
    · rw [hR.2.2.1]
      unfold rnV
      rw [if_pos (by omega)]
  · intro Y c hc ⟨hy, hst⟩
    dsimp only [SB_m_rain_s23]
    refine Ok_ite (fun _ => Ok_omap (Ok_then (readAgain_ok (rn_HV hv hk) hy) (fun g hg => Ok_some ⟨hg.1.1.1.1, hg.1, hg.2.1.trans hst⟩))) (fun q => by rw [i32_le] at q; omega)
theorem pc_rain : PC_rain Inv := by
  intro X M ⟨n, m, fa, fb, hv, hc, hr, hd⟩ v1
  apply pcX
  unfold SB_m_rain Md_m_rain
  have hT : Rd n m fa fb M (Md_set_told M 0) := Rd_told hr
  have e0 : Md_m (Md_set_told M 0) = Md_m M := rfl
  have hlk := hc.1.1.1
  have hmm := hr.2.1
  have hm64 := hv.2.2.1
  have hin := isInt_ok (x := Md_set_told M 0) (w := v1) i64_1 (show (64 : Int64).toInt = 64 by decide)
  have hno : T2 (fun (r : Int32 × SBS) (q : Int32 × MdS) => q.1 = r.1 ∧ Inv r.2 q.2) (some (-1, X)) (some (-1, Md_set_told M 0)) := T2_some ⟨rfl, Inv_of hv hc hd hT⟩
  have hsub : (64 - Wb_links (SB_now X)).toInt = 64 - (m : Int) := by rw [i32_sub (by rw [i32_64, hlk]; omega) (by rw [i32_64, hlk]; omega), i32_64, hlk]
  by_cases h1 : v1.toInt < 1
  · exact T2_p1 (by rw [i32_lt, i32_1]; exact h1) (T2_f2 hin (by omega) hno)
  · refine T2_n1 (by rw [i32_lt, i32_1]; exact h1) ?_
    by_cases h2 : v1.toInt ≤ 64 - (m : Int)
    · refine T2_p1 (by rw [i32_le, hsub]; exact h2) (T2_t2 hin ⟨by omega, by omega⟩ ?_)
      have hadd : (Md_m M + v1).toInt = (m : Int) + v1.toInt := by rw [i32_add (by rw [hmm]; omega) (by rw [hmm]; omega), hmm]
      have hk : v1.toInt = (v1.toInt.toNat : Int) := by omega
      rw [e0]
      refine T2_p2 (by rw [i32_le, hadd, i32_64]; omega) ?_
      refine T2_fin (rainC_ok hv hc.1 hd hk (by omega)) (rainR_ok (x := Md_set_told M 0) hv (RI_Fz Fz_to hr) (s := Md_state M) rfl hk (by omega)) (fun a b ha hb => ⟨i32_ext (by rw [ha.1, hb.1]), n, _, _, _, rn_HV hv (by omega), ha.2.1, hb.2.1, ha.2.2.trans hb.2.2.symm⟩)
    · refine T2_n1 (by rw [i32_le, hsub]; exact h2) ?_
      by_cases h3 : v1.toInt ≤ 64
      · have hadd : (Md_m M + v1).toInt = (m : Int) + v1.toInt := by rw [i32_add (by rw [hmm]; omega) (by rw [hmm]; omega), hmm]
        refine T2_t2 hin ⟨by omega, h3⟩ ?_
        rw [e0]
        exact T2_n2 (by rw [i32_le, hadd, i32_64]; omega) hno
      · exact T2_f2 hin (by omega) hno
end K3
