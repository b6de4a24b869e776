/-! CLASS 12: Long.bitCount counts the bits -/
theorem dgs_top : ∀ {k y : Nat}, dgs 16 4 (k + 1) y → y < 16 ^ (k + 1) → y / 16 ^ k ≤ 4 := by
  intro k
  induction k with
  | zero =>
    intro y hd hy
    have h1 : y % 16 ≤ 4 := hd.1
    rw [Nat.pow_zero, Nat.div_one]
    have : y < 16 := hy
    omega
  | succ k ih =>
    intro y hd hy
    have h2 := ih (y := y / 16) hd.2 (by
      rw [Nat.pow_succ] at hy
      exact Nat.div_lt_of_lt_mul (by rw [Nat.mul_comm]; exact hy))
    rw [Nat.div_div_eq_div_mul] at h2
    rw [Nat.pow_succ, Nat.mul_comm]
    exact h2
theorem yb2 {y : Nat} (h : y / 16 ^ 15 ≤ 4) : y + y / 2 ^ 4 < 2 ^ 64 := by
  have e1 : (16 : Nat) ^ 15 = 1152921504606846976 := by decide
  have e2 : (2 : Nat) ^ 64 = 18446744073709551616 := by decide
  have e3 : (2 : Nat) ^ 4 = 16 := by decide
  rw [e1] at h
  rw [e2, e3]
  omega
def bc1 (v : Int64) : Int64 := v - (((v : Int64).toUInt64 >>> ((1 : Int32).toInt64.toUInt64 &&& Int64.toUInt64 63)).toInt64 &&& 6148914691236517205)
def bc2 (v : Int64) : Int64 := (v &&& 3689348814741910323) + (((v : Int64).toUInt64 >>> ((2 : Int32).toInt64.toUInt64 &&& Int64.toUInt64 63)).toInt64 &&& 3689348814741910323)
def bc3 (v : Int64) : Int64 := (v + ((v : Int64).toUInt64 >>> ((4 : Int32).toInt64.toUInt64 &&& Int64.toUInt64 63)).toInt64) &&& 1085102592571150095
def bc4 (v : Int64) : Int64 := v + ((v : Int64).toUInt64 >>> ((8 : Int32).toInt64.toUInt64 &&& Int64.toUInt64 63)).toInt64
def bc5 (v : Int64) : Int64 := v + ((v : Int64).toUInt64 >>> ((16 : Int32).toInt64.toUInt64 &&& Int64.toUInt64 63)).toInt64
def bc6 (v : Int64) : Int64 := v + ((v : Int64).toUInt64 >>> ((32 : Int32).toInt64.toUInt64 &&& Int64.toUInt64 63)).toInt64
def bc7 (v : Int64) : Int32 := v.toInt32 &&& 127
theorem bc_all (v : Int64) : Lg_m_bitCount v = some (bc7 (bc6 (bc5 (bc4 (bc3 (bc2 (bc1 v))))))) := rfl
theorem bitCount_ok (v : Int64) : Ok (Lg_m_bitCount v) (fun r => r.toInt = (cnt (fun j => bt64 v j = true) 64 : Int)) := by
  obtain ⟨n, hn, rfl⟩ := wb_of v
  have h4 : (4 : Nat) ^ 32 = 2 ^ 64 := by decide
  have h16 : (16 : Nat) ^ 16 = 2 ^ 64 := by decide
  have h256 : (256 : Nat) ^ 8 = 2 ^ 64 := by decide
  obtain ⟨x, p1, p2, p3, p4, p5⟩ := pop1 (k := 32) (n := n) (by rw [h4]; exact hn)
  obtain ⟨y, q1, q2, q3, q4⟩ := pop2 (k := 16) (x := x) (by rw [h16, ← h4]; exact p3) p5
  obtain ⟨z, r1, r2, r3, r4⟩ := pop3 (k := 8) (y := y) (by rw [h256, ← h16]; exact q2) q4
  obtain ⟨a, b, c, t1, t2, t3, t4, t5, t6, t7, t8⟩ := pop4 r2 r4
  have u5 : c < 2 ^ 64 := Nat.lt_trans t5 (by decide)
  have u6 : b < 2 ^ 64 := Nat.lt_trans t6 (by decide)
  have u7 : a < 2 ^ 64 := Nat.lt_trans t7 (by decide)
  rw [h4] at p3
  rw [h16] at q2
  rw [h256] at r2
  have m1 : (6148914691236517205 : Int64) = lN (rep 4 1 32) := by decide +kernel
  have m2 : (3689348814741910323 : Int64) = lN (rep 16 3 16) := by decide +kernel
  have m3 : (1085102592571150095 : Int64) = lN (rep 256 15 8) := by decide +kernel
  have k1 : rep 4 1 32 < 2 ^ 64 := by decide +kernel
  have k2 : rep 16 3 16 < 2 ^ 64 := by decide +kernel
  have k3 : rep 256 15 8 < 2 ^ 64 := by decide +kernel
  have dl : ∀ (m : Nat) (j : Nat), m < 2 ^ 64 → m / j < 2 ^ 64 := fun m j hm => Nat.lt_of_le_of_lt (Nat.div_le_self _ _) hm
  have s1 : ((lN n).toUInt64 >>> ((1 : Int32).toInt64.toUInt64 &&& Int64.toUInt64 63)).toInt64 = lN (n / 2 ^ 1) := wb_shr (k := 1) hn (by decide)
  have s2 : ((lN x).toUInt64 >>> ((2 : Int32).toInt64.toUInt64 &&& Int64.toUInt64 63)).toInt64 = lN (x / 2 ^ 2) := wb_shr (k := 2) p3 (by decide)
  have s3 : ((lN y).toUInt64 >>> ((4 : Int32).toInt64.toUInt64 &&& Int64.toUInt64 63)).toInt64 = lN (y / 2 ^ 4) := wb_shr (k := 4) q2 (by decide)
  have s4 : ((lN z).toUInt64 >>> ((8 : Int32).toInt64.toUInt64 &&& Int64.toUInt64 63)).toInt64 = lN (z / 2 ^ 8) := wb_shr (k := 8) r2 (by decide)
  have s5 : ((lN a).toUInt64 >>> ((16 : Int32).toInt64.toUInt64 &&& Int64.toUInt64 63)).toInt64 = lN (a / 2 ^ 16) := wb_shr (k := 16) u7 (by decide)
  have s6 : ((lN b).toUInt64 >>> ((32 : Int32).toInt64.toUInt64 &&& Int64.toUInt64 63)).toInt64 = lN (b / 2 ^ 32) := wb_shr (k := 32) u6 (by decide)
  have f1 : bc1 (lN n) = lN x := by
    unfold bc1
    rw [s1, m1, wb_and (dl n _ hn) k1, lN_sub (by exact p1)]
    exact congrArg lN p2
  have f2 : bc2 (lN x) = lN y := by
    unfold bc2
    rw [s2]
    have q1' : (x &&& rep 16 3 16) + (x / 2 ^ 2 &&& rep 16 3 16) = y := q1
    rw [m2, wb_and p3 k2, wb_and (dl x _ p3) k2, lN_add, q1']
  have hy2 : y + y / 2 ^ 4 < 2 ^ 64 := by
    have h15 := dgs_top q4 (by rw [h16]; exact q2)
    exact yb2 h15
  have f3 : bc3 (lN y) = lN z := by
    unfold bc3
    rw [s3, lN_add, m3, wb_and hy2 k3]
    exact congrArg lN r1
  have f4 : bc4 (lN z) = lN a := by
    unfold bc4
    rw [s4]
    have t1' : z + z / 2 ^ 8 = a := t1
    rw [lN_add, t1']
  have f5 : bc5 (lN a) = lN b := by
    unfold bc5
    rw [s5]
    have t2' : a + a / 2 ^ 16 = b := t2
    rw [lN_add, t2']
  have f6 : bc6 (lN b) = lN c := by
    unfold bc6
    rw [s6]
    have t3' : b + b / 2 ^ 32 = c := t3
    rw [lN_add, t3']
  have f7 : bc7 (lN c) = nI (c % 128) := low7 c
  rw [bc_all, f1, f2, f3, f4, f5, f6, f7, t4]
  refine Ok_some ?_
  rw [nI_i (by omega), r3]
  have e1 : dsm 16 (2 * 8) y = dsm 2 64 n := by
    show dsm 16 16 y = _
    rw [q3]
    show dsm 4 32 x = _
    rw [p4]
  have e2 : cnt (fun j => n.testBit j = true) 64 = cnt (fun j => bt64 (lN n) j = true) 64 := by
    refine cnt_congr (fun j hj => ?_)
    unfold bt64
    rw [wb_tb, BitVec.getLsbD_ofNat, decide_eq_true hj, Bool.true_and]
  rw [e1, dsm2, e2]
