/-! CLASS 11: Long.bitCount: how many bits are set -/
def dsm (B : Nat) : Nat → Nat → Nat
  | 0, _ => 0
  | k + 1, x => x % B + dsm B k (x / B)
/-- all digits at most c -/
def dgs (B c : Nat) : Nat → Nat → Prop
  | 0, _ => True
  | k + 1, x => x % B ≤ c ∧ dgs B c k (x / B)
theorem and_split {i a b c d : Nat} (hb : b < 2 ^ i) (hd : d < 2 ^ i) : (2 ^ i * a + b) &&& (2 ^ i * c + d) = 2 ^ i * (a &&& c) + (b &&& d) := by
  apply Nat.eq_of_testBit_eq
  intro j
  rw [Nat.testBit_and, Nat.testBit_two_pow_mul_add a hb, Nat.testBit_two_pow_mul_add c hd, Nat.testBit_two_pow_mul_add _ (Nat.and_lt_two_pow b hd)]
  by_cases h : j < i
  · rw [if_pos h, if_pos h, if_pos h, Nat.testBit_and]
  · rw [if_neg h, if_neg h, if_neg h, Nat.testBit_and]
def rep (B m : Nat) : Nat → Nat
  | 0 => 0
  | k + 1 => B * rep B m k + m
theorem and_rec {i k x m : Nat} (hm : m < 2 ^ i) : x &&& rep (2 ^ i) m (k + 1) = 2 ^ i * (x / 2 ^ i &&& rep (2 ^ i) m k) + (x % 2 ^ i &&& m) := by
  have hp : 0 < 2 ^ i := Nat.two_pow_pos i
  have e : x = 2 ^ i * (x / 2 ^ i) + x % 2 ^ i := (Nat.div_add_mod x (2 ^ i)).symm
  conv => lhs; rw [e]
  exact and_split (Nat.mod_lt _ hp) hm
theorem sm4 : ∀ d, d < 4 → (d / 2 &&& 1) = d / 2 := by decide
theorem dm2 (x : Nat) : x % 4 % 2 = x % 2 := by omega
/-- by twos -/
theorem pop1 : ∀ {k n : Nat}, n < 4 ^ k → ∃ x, n / 2 &&& rep 4 1 k ≤ n ∧ n - (n / 2 &&& rep 4 1 k) = x ∧ x < 4 ^ k ∧ dsm 4 k x = dsm 2 (2 * k) n ∧ dgs 4 2 k x := by
  intro k
  induction k with
  | zero =>
    intro n hn
    have : n = 0 := by simpa using hn
    subst this
    exact ⟨0, by decide, by decide, by decide, rfl, trivial⟩
  | succ k ih =>
    intro n hn
    have h4 : (4 : Nat) ^ (k + 1) = 4 * 4 ^ k := by rw [Nat.pow_succ, Nat.mul_comm]
    rw [h4] at hn
    obtain ⟨x, i1, i2, i3, i4, i5⟩ := ih (n := n / 4) (by omega)
    have hand : n / 2 &&& rep 4 1 (k + 1) = 4 * (n / 4 / 2 &&& rep 4 1 k) + (n % 4 / 2) := by
      have := and_rec (i := 2) (k := k) (x := n / 2) (m := 1) (by decide)
      have e1 : (2 : Nat) ^ 2 = 4 := by decide
      rw [e1] at this
      rw [this]
      have e2 : n / 2 / 4 = n / 4 / 2 := by omega
      have e3 : n / 2 % 4 &&& 1 = n % 4 / 2 := by
        rw [Nat.and_one_is_mod]; omega
      rw [e2, e3]
    have hx : n - (n / 2 &&& rep 4 1 (k + 1)) = 4 * x + (n % 4 - n % 4 / 2) := by rw [hand]; omega
    refine ⟨4 * x + (n % 4 - n % 4 / 2), by rw [hand]; omega, hx, by rw [h4]; omega, ?_, ?_⟩
    · have hm : (4 * x + (n % 4 - n % 4 / 2)) % 4 = n % 4 - n % 4 / 2 := by omega
      have hd : (4 * x + (n % 4 - n % 4 / 2)) / 4 = x := by omega
      show _ % 4 + dsm 4 k (_ / 4) = _
      rw [hm, hd, i4]
      have e : 2 * (k + 1) = 2 * k + 1 + 1 := by omega
      rw [e]
      show _ = n % 2 + (n / 2 % 2 + dsm 2 (2 * k) (n / 2 / 2))
      have e2 : n / 2 / 2 = n / 4 := by omega
      rw [e2]
      omega
    · have hm : (4 * x + (n % 4 - n % 4 / 2)) % 4 = n % 4 - n % 4 / 2 := by omega
      have hd : (4 * x + (n % 4 - n % 4 / 2)) / 4 = x := by omega
      exact ⟨by rw [hm]; omega, by rw [hd]; exact i5⟩
/-- by fours -/
theorem pop2 : ∀ {k x : Nat}, x < 16 ^ k → dgs 4 2 (2 * k) x → ∃ y, (x &&& rep 16 3 k) + (x / 4 &&& rep 16 3 k) = y ∧ y < 16 ^ k ∧ dsm 16 k y = dsm 4 (2 * k) x ∧ dgs 16 4 k y := by
  intro k
  induction k with
  | zero =>
    intro x hx _
    have : x = 0 := by simpa using hx
    subst this
    exact ⟨0, by decide, by decide, rfl, trivial⟩
  | succ k ih =>
    intro x hx hd
    have h16 : (16 : Nat) ^ (k + 1) = 16 * 16 ^ k := by rw [Nat.pow_succ, Nat.mul_comm]
    rw [h16] at hx
    have e : 2 * (k + 1) = 2 * k + 1 + 1 := by omega
    rw [e] at hd
    have hd1 : x % 4 ≤ 2 := hd.1
    have hd2 : x / 4 % 4 ≤ 2 := hd.2.1
    have hd3 : dgs 4 2 (2 * k) (x / 4 / 4) := hd.2.2
    have e4 : x / 4 / 4 = x / 16 := by omega
    rw [e4] at hd3
    obtain ⟨y, i2, i3, i4, i5⟩ := ih (x := x / 16) (by omega) hd3
    have e1 : (2 : Nat) ^ 4 = 16 := by decide
    have a1 := and_rec (i := 4) (k := k) (x := x) (m := 3) (by decide)
    have a2 := and_rec (i := 4) (k := k) (x := x / 4) (m := 3) (by decide)
    rw [e1] at a1 a2
    have m3 : ∀ z : Nat, z % 16 &&& 3 = z % 4 := fun z => by
      have := Nat.and_two_pow_sub_one_eq_mod (z % 16) 2
      have h3 : 2 ^ 2 - 1 = 3 := by decide
      rw [h3] at this
      rw [this]; omega
    rw [m3] at a1 a2
    have e5 : x / 4 / 16 = x / 16 / 4 := by omega
    rw [e5] at a2
    refine ⟨16 * y + (x % 4 + x / 4 % 4), by rw [a1, a2]; omega, by rw [h16]; omega, ?_, ?_⟩
    · have hm : (16 * y + (x % 4 + x / 4 % 4)) % 16 = x % 4 + x / 4 % 4 := by omega
      have hdv : (16 * y + (x % 4 + x / 4 % 4)) / 16 = y := by omega
      show _ % 16 + dsm 16 k (_ / 16) = _
      rw [hm, hdv, i4, e]
      show _ = x % 4 + (x / 4 % 4 + dsm 4 (2 * k) (x / 4 / 4))
      rw [e4]; omega
    · have hm : (16 * y + (x % 4 + x / 4 % 4)) % 16 = x % 4 + x / 4 % 4 := by omega
      have hdv : (16 * y + (x % 4 + x / 4 % 4)) / 16 = y := by omega
      exact ⟨by rw [hm]; omega, by rw [hdv]; exact i5⟩
/-- by eights -/
theorem pop3 : ∀ {k y : Nat}, y < 256 ^ k → dgs 16 4 (2 * k) y → ∃ z, (y + y / 16) &&& rep 256 15 k = z ∧ z < 256 ^ k ∧ dsm 256 k z = dsm 16 (2 * k) y ∧ dgs 256 8 k z := by
  intro k
  induction k with
  | zero =>
    intro x hx _
    have : x = 0 := by simpa using hx
    subst this
    exact ⟨0, by decide, by decide, rfl, trivial⟩
  | succ k ih =>
    intro x hx hd
    have h256 : (256 : Nat) ^ (k + 1) = 256 * 256 ^ k := by rw [Nat.pow_succ, Nat.mul_comm]
    rw [h256] at hx
    have e : 2 * (k + 1) = 2 * k + 1 + 1 := by omega
    rw [e] at hd
    have hd1 : x % 16 ≤ 4 := hd.1
    have hd2 : x / 16 % 16 ≤ 4 := hd.2.1
    have hd3 : dgs 16 4 (2 * k) (x / 16 / 16) := hd.2.2
    have e4 : x / 16 / 16 = x / 256 := by omega
    rw [e4] at hd3
    have hq : x / 256 % 16 ≤ 4 := by
      cases k with
      | zero => have : x < 256 := by simpa using hx
                omega
      | succ k =>
        have e : 2 * (k + 1) = 2 * k + 1 + 1 := by omega
        rw [e] at hd3
        exact hd3.1
    obtain ⟨z, i2, i3, i4, i5⟩ := ih (y := x / 256) (by omega) hd3
    have e1 : (2 : Nat) ^ 8 = 256 := by decide
    have a1 := and_rec (i := 8) (k := k) (x := x + x / 16) (m := 15) (by decide)
    rw [e1] at a1
    have m3 : (x + x / 16) % 256 &&& 15 = x % 16 + x / 16 % 16 := by
      have := Nat.and_two_pow_sub_one_eq_mod ((x + x / 16) % 256) 4
      have h3 : 2 ^ 4 - 1 = 15 := by decide
      rw [h3] at this
      rw [this]; omega
    have e5 : (x + x / 16) / 256 = x / 256 + x / 256 / 16 := by omega
    rw [m3, e5, i2] at a1
    refine ⟨256 * z + (x % 16 + x / 16 % 16), a1, by rw [h256]; omega, ?_, ?_⟩
    · have hm : (256 * z + (x % 16 + x / 16 % 16)) % 256 = x % 16 + x / 16 % 16 := by omega
      have hdv : (256 * z + (x % 16 + x / 16 % 16)) / 256 = z := by omega
      show _ % 256 + dsm 256 k (_ / 256) = _
      rw [hm, hdv, i4, e]
      show _ = x % 16 + (x / 16 % 16 + dsm 16 (2 * k) (x / 16 / 16))
      rw [e4]; omega
    · have hm : (256 * z + (x % 16 + x / 16 % 16)) % 256 = x % 16 + x / 16 % 16 := by omega
      have hdv : (256 * z + (x % 16 + x / 16 % 16)) / 256 = z := by omega
      exact ⟨by rw [hm]; omega, by rw [hdv]; exact i5⟩
theorem dvB {lo hi B : Nat} (h : lo < B) : (lo + B * hi) / B = hi := by
  rw [Nat.add_mul_div_left _ _ (by omega), Nat.div_eq_of_lt h, Nat.zero_add]
theorem md128 {lo hi : Nat} (h : lo < 128) : (lo + 256 * hi) % 128 = lo := by omega
theorem spl (z : Nat) : z = z % 256 + 256 * (z / 256) := by omega
theorem ad2 (a b c d : Nat) : (a + 256 * b) + (c + 256 * d) = (a + c) + 256 * (b + d) := by omega
theorem pairS {a a1 b b1 : Nat} (ha : a1 = a / 256) (hb : b1 = b / 256) : a + b = (a % 256 + b % 256) + 256 * (a1 + b1) := by omega
theorem quadS {p q l1 h1 l2 h2 : Nat} (hp : p = l1 + 256 * h1) (hq : q = l2 + 256 * h2) : p + q = (l1 + l2) + 256 * (h1 + h2) := by omega
theorem top7 {z z7 : Nat} (h : z < 18446744073709551616) (q : z7 = z / 72057594037927936) : z7 < 256 := by omega
theorem top7b {z z7 : Nat} (q : z7 = z / 72057594037927936) (h : z7 ≤ 8) : z < 1152921504606846976 := by omega
theorem p4b1 {z z1 : Nat} (h : z < 1152921504606846976) (e : z1 = z / 256) : z + z1 < 2305843009213693952 := by omega
theorem p4b2 {z z1 : Nat} (h : z < 2305843009213693952) (e : z1 = z / 65536) : z + z1 < 4611686018427387904 := by omega
theorem p4b3 {z z1 : Nat} (h : z < 4611686018427387904) (e : z1 = z / 4294967296) : z + z1 < 9223372036854775808 := by omega
theorem sum8 (a b c d e f g h : Nat) : ((a + b) + (c + d)) + ((e + f) + (g + h)) = a + (b + (c + (d + (e + (f + (g + (h + 0))))))) := by omega
theorem pop4 {z : Nat} (h : z < 256 ^ 8) (hd : dgs 256 8 8 z) : ∃ y x w, z + z / 256 = y ∧ y + y / 65536 = x ∧ x + x / 4294967296 = w ∧ w % 128 = dsm 256 8 z ∧ w < 9223372036854775808 ∧ x < 4611686018427387904 ∧ y < 2305843009213693952 ∧ dsm 256 8 z ≤ 64 := by
  obtain ⟨h0, h1, h2, h3, h4, h5, h6, h7, -⟩ := hd
  obtain ⟨z1, e1⟩ : ∃ c, c = z / 256 := ⟨_, rfl⟩
  obtain ⟨z2, e2⟩ : ∃ c, c = z1 / 256 := ⟨_, rfl⟩
  obtain ⟨z3, e3⟩ : ∃ c, c = z2 / 256 := ⟨_, rfl⟩
  obtain ⟨z4, e4⟩ : ∃ c, c = z3 / 256 := ⟨_, rfl⟩
  obtain ⟨z5, e5⟩ : ∃ c, c = z4 / 256 := ⟨_, rfl⟩
  obtain ⟨z6, e6⟩ : ∃ c, c = z5 / 256 := ⟨_, rfl⟩
  obtain ⟨z7, e7⟩ : ∃ c, c = z6 / 256 := ⟨_, rfl⟩
  have hs : dsm 256 8 z = z % 256 + (z1 % 256 + (z2 % 256 + (z3 % 256 + (z4 % 256 + (z5 % 256 + (z6 % 256 + (z7 % 256 + 0))))))) := by rw [e7, e6, e5, e4, e3, e2, e1]; rfl
  rw [← e1] at h1 h2 h3 h4 h5 h6 h7
  rw [← e2] at h2 h3 h4 h5 h6 h7
  rw [← e3] at h3 h4 h5 h6 h7
  rw [← e4] at h4 h5 h6 h7
  rw [← e5] at h5 h6 h7
  rw [← e6] at h6 h7
  rw [← e7] at h7
  have q7 : z7 = z / 72057594037927936 := by rw [e7, e6, e5, e4, e3, e2, e1]; simp only [Nat.div_div_eq_div_mul]
  have b7 : z7 < 256 := top7 h q7
  have m7 : z7 % 256 = z7 := Nat.mod_eq_of_lt b7
  have hz := top7b q7 (m7 ▸ h7)
  have s0 := pairS e1 e2
  have s1 := pairS e2 e3
  have s2 := pairS e3 e4
  have s3 := pairS e4 e5
  have s4 := pairS e5 e6
  have s5 := pairS e6 e7
  have s6 : z6 + z7 = (z6 % 256 + z7 % 256) + 256 * z7 := by
    have := spl z6
    rw [← e7] at this
    rw [m7]
    omega
  have l0 : z % 256 + z1 % 256 ≤ 8 + 8 := Nat.add_le_add h0 h1
  have l1 : z1 % 256 + z2 % 256 ≤ 8 + 8 := Nat.add_le_add h1 h2
  have l2 : z2 % 256 + z3 % 256 ≤ 8 + 8 := Nat.add_le_add h2 h3
  have l3 : z3 % 256 + z4 % 256 ≤ 8 + 8 := Nat.add_le_add h3 h4
  have l4 : z4 % 256 + z5 % 256 ≤ 8 + 8 := Nat.add_le_add h4 h5
  have l5 : z5 % 256 + z6 % 256 ≤ 8 + 8 := Nat.add_le_add h5 h6
  have l6 : z6 % 256 + z7 % 256 ≤ 8 + 8 := Nat.add_le_add h6 h7
  have y2 : (z + z1) / 65536 = z2 + z3 := by
    have : (z + z1) / 65536 = (z + z1) / 256 / 256 := by rw [Nat.div_div_eq_div_mul]
    rw [this, s0, dvB (Nat.lt_of_le_of_lt l0 (by decide)), s1, dvB (Nat.lt_of_le_of_lt l1 (by decide))]
  have x0 := quadS s0 s2
  have x1 := quadS s1 s3
  have x2 := quadS s2 s4
  have x3 := quadS s3 s5
  have x5 := quadS s4 s6
  have x4 : ((z + z1) + (z2 + z3)) / 4294967296 = (z4 + z5) + (z6 + z7) := by
    have : ((z + z1) + (z2 + z3)) / 4294967296 = ((z + z1) + (z2 + z3)) / 256 / 256 / 256 / 256 := by simp only [Nat.div_div_eq_div_mul]
    rw [this, x0, dvB (Nat.lt_of_le_of_lt (Nat.add_le_add l0 l2) (by decide)), x1, dvB (Nat.lt_of_le_of_lt (Nat.add_le_add l1 l3) (by decide)), x2, dvB (Nat.lt_of_le_of_lt (Nat.add_le_add l2 l4) (by decide)), x3, dvB (Nat.lt_of_le_of_lt (Nat.add_le_add l3 l5) (by decide))]
  have by1 := p4b1 hz e1
  have bx := p4b2 by1 y2.symm
  have bw := p4b3 bx x4.symm
  have hsm : ((z % 256 + z1 % 256) + (z2 % 256 + z3 % 256)) + ((z4 % 256 + z5 % 256) + (z6 % 256 + z7 % 256)) = dsm 256 8 z := by rw [hs, sum8]
  have hle : ((z % 256 + z1 % 256) + (z2 % 256 + z3 % 256)) + ((z4 % 256 + z5 % 256) + (z6 % 256 + z7 % 256)) ≤ ((8 + 8) + (8 + 8)) + ((8 + 8) + (8 + 8)) := Nat.add_le_add (Nat.add_le_add l0 l2) (Nat.add_le_add l4 l6)
  refine ⟨z + z1, (z + z1) + (z2 + z3), ((z + z1) + (z2 + z3)) + ((z4 + z5) + (z6 + z7)), by rw [← e1], by rw [y2], by rw [x4], ?_, bw, bx, by1, ?_⟩
  · rw [← hsm, quadS x0 x5, md128 (Nat.lt_of_le_of_lt hle (by decide))]
  · rw [← hsm]; exact hle
theorem low7 (w : Nat) : (lN w).toInt32 &&& 127 = nI (w % 128) := by
  refine b_ext (fun i hi => ?_)
  rw [b_and]
  have h127 : ∀ i, i < 32 → bt 127 i = decide (i < 7) := by decide +kernel
  rw [h127 i hi]
  unfold bt
  have e : (lN w).toInt32.toBitVec = (BitVec.ofNat 64 w).signExtend 32 := rfl
  have e2 : (nI (w % 128)).toBitVec = BitVec.ofNat 32 (w % 128) := rfl
  rw [e, e2, BitVec.getLsbD_signExtend, BitVec.getLsbD_ofNat, BitVec.getLsbD_ofNat]
  have e3 : w % 128 = w % 2 ^ 7 := rfl
  rw [e3, Nat.testBit_mod_two_pow]
  simp only [hi, decide_true, Bool.true_and, show i < 64 by omega, if_true]
  rw [Bool.and_comm]
/-- bits one by one -/
theorem dsm2 : ∀ {k n : Nat}, dsm 2 k n = cnt (fun j => n.testBit j = true) k := by
  have shift : ∀ {P : Nat → Prop} {k : Nat}, cnt P (k + 1) = bb (P 0) + cnt (fun j => P (j + 1)) k := by
    intro P k
    induction k with
    | zero => rw [cnt_s]; show 0 + bb (P 0) = bb (P 0) + 0; omega
    | succ k ih => rw [cnt_s, ih, cnt_s]; omega
  intro k
  induction k with
  | zero => intro n; rfl
  | succ k ih =>
    intro n
    rw [shift]
    show n % 2 + dsm 2 k (n / 2) = _
    rw [ih]
    congr 1
    · by_cases c : n % 2 = 1
      · rw [c, bb_t (by rw [Nat.testBit_zero]; simpa using c)]
      · rw [bb_f (by rw [Nat.testBit_zero]; simpa using c)]; omega
    · refine cnt_congr (fun j _ => ?_)
      rw [Nat.testBit_succ]
