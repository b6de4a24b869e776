/-! PURE LAYER: sets of names as bits of an int or a long -/
def bt64 (x : Int64) (j : Nat) : Bool := x.toBitVec.getLsbD j
theorem i32_nI {v : Int32} (h0 : 0 ≤ v.toInt) : v = nI v.toInt.toNat := by
  apply Int32.toInt_inj.mp
  have := Int32.toInt_lt v
  rw [nI_toInt (by omega)]
  omega
theorem b_one (i : Nat) : bt 1 i = decide (i = 0) := by
  rcases Nat.lt_or_ge i 32 with h | h
  · exact (by decide +kernel : ∀ i, i < 32 → bt 1 i = decide (i = 0)) i h
  · rw [b_big h, decide_eq_false (by omega)]
theorem b_low (y : Int32) : y &&& 1 = 1 ↔ bt y 0 = true := by
  constructor
  · intro h
    have := congrArg (fun z => bt z 0) h
    simpa [b_and, b_one] using this
  · intro h
    refine b_ext (fun i hi => ?_)
    rw [b_and, b_one]
    by_cases c : i = 0
    · subst c; simp [h]
    · simp [c]
theorem has_bt {s v : Int32} (h0 : 0 ≤ v.toInt) (h1 : v.toInt < 32) : ((s >>> (v &&& 31)) &&& 1) = 1 ↔ bt s v.toInt.toNat = true := by
  rw [b_low, i32_nI h0, b_sshr _ (by omega) s (by omega : 0 < 32), ← i32_nI h0, if_pos (by omega)]
  rw [Nat.add_zero]
theorem Md_has_ok {x : MdS} {s v : Int32} (h0 : 0 ≤ v.toInt) (h1 : v.toInt < 32) : Md_m_has x s v = some (bt s v.toInt.toNat) := by
  unfold Md_m_has
  by_cases c : ((s >>> (v &&& 31)) &&& 1) = 1
  · rw [if_pos c, (has_bt h0 h1).mp c]
  · rw [if_neg c]
    have := mt (has_bt h0 h1).mpr c
    simp only [Bool.not_eq_true] at this
    rw [this]
theorem bt_bit {v : Int32} (h0 : 0 ≤ v.toInt) (h1 : v.toInt < 32) {j : Nat} (hj : j < 32) : bt (1 <<< (v &&& 31)) j = decide (j = v.toInt.toNat) := by
  rw [i32_nI h0, b_shl _ (by omega) 1 hj, b_one, ← i32_nI h0]
  by_cases c : j = v.toInt.toNat
  · rw [decide_eq_true c, decide_eq_true (by omega), decide_eq_true (by omega)]; rfl
  · rw [decide_eq_false c]
    by_cases d : v.toInt.toNat ≤ j
    · rw [decide_eq_false (show ¬ j - v.toInt.toNat = 0 by omega)]; simp
    · rw [decide_eq_false d]; rfl
theorem holds_ok {s : Int64} {v : Int32} (h0 : 0 ≤ v.toInt) (h1 : v.toInt < 64) : SB_m_holds s v = some (bt64 s v.toInt.toNat) := by
  have hs : (v.toInt64.toUInt64 &&& Int64.toUInt64 63).toNat = v.toInt.toNat := by
    have e := wb_cu v.toInt.toNat (by omega)
    rw [← i32_nI h0] at e
    rw [e]
    show (BitVec.ofNat 64 v.toInt.toNat).toNat = _
    rw [BitVec.toNat_ofNat, Nat.mod_eq_of_lt (by omega)]
  have hb := ts_bit (w := s) (by omega : v.toInt.toNat < 64) hs
  unfold SB_m_holds
  by_cases c : ((s.toUInt64 >>> (v.toInt64.toUInt64 &&& Int64.toUInt64 63)).toInt64 &&& 1) = 0
  · rw [if_pos (lg_eq.mpr c)]
    show _ = some (s.toBitVec.getLsbD _)
    rw [hb.mp c]
  · rw [if_neg (fun q => c (lg_eq.mp q))]
    show _ = some (s.toBitVec.getLsbD _)
    cases hg : s.toBitVec.getLsbD v.toInt.toNat with
    | true => rfl
    | false => exact absurd (hb.mpr hg) c
theorem bt64_or (x y : Int64) (j : Nat) : bt64 (x ||| y) j = (bt64 x j || bt64 y j) := by unfold bt64; rw [Int64.toBitVec_or, BitVec.getLsbD_or]
theorem bt64_and (x y : Int64) (j : Nat) : bt64 (x &&& y) j = (bt64 x j && bt64 y j) := by unfold bt64; rw [Int64.toBitVec_and, BitVec.getLsbD_and]
theorem bt64_0 (j : Nat) : bt64 0 j = false := by simp [bt64]
theorem bit_ok {v : Int32} (h0 : 0 ≤ v.toInt) (h1 : v.toInt < 64) : Ok (SB_m_bit v) (fun b => ∀ j, j < 64 → bt64 b j = decide (j = v.toInt.toNat)) := by
  refine ⟨_, rfl, fun j hj => ?_⟩
  have e := wb_shl 1 (k := v.toInt.toNat) (by omega)
  rw [← i32_nI h0] at e
  have e2 : (1 : Int64) <<< (v.toInt64 &&& 63) = lN (1 * 2 ^ v.toInt.toNat) := e
  rw [e2]
  unfold bt64
  rw [wb_tb, Nat.one_mul, BitVec.getLsbD_ofNat, Nat.testBit_two_pow]
  by_cases c : j = v.toInt.toNat
  · rw [decide_eq_true c, decide_eq_true hj, decide_eq_true c.symm]; rfl
  · rw [decide_eq_false c, show decide (v.toInt.toNat = j) = false from decide_eq_false (fun q => c q.symm)]; simp
