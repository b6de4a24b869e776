/-! REFERENCE 29: nodes of a name; what lies below; roots -/
section R29
variable {fa fb : Nat → Nat} {n k m u v b c l t p off kd e : Nat} {x y : MdS} {Q : Nat → Prop}
theorem leastSet_ok {s : Int32} (he : e < 32) (h1 : bt s e = true) (h2 : ∀ i, i < e → ¬ bt s i = true) : Ok (Md_m_least x s) (fun r => r.toInt = (e : Int)) := by
  unfold Md_m_least
  refine Ok_upto (fun j i => i.toInt = (j : Int)) (e := e) (by omega) i32_0 ?_ ?_
  · intro j i hj hi
    dsimp only [Md_m_least_s2]
    refine Ok_eqb (has_ok hi (by omega)) (Ok_ite (fun q => absurd q (h2 j hj)) (fun _ => Ok_some (nx_s hi (by omega))))
  · intro i hi
    dsimp only [Md_m_least_s2]
    exact Ok_eqb (has_ok hi (by omega)) (Ok_ite (fun _ => Ok_omap (Ok_some hi)) (fun q => absurd h1 q))
theorem nodesOf_ok {w1 w2 : Int32} (hn : n ≤ 32) (hnn : (Md_n y).toInt = (n : Int)) (h1 : w1.toInt = (kd : Int)) (hkd : kd ≤ 1) (h2 : w2.toInt = (b : Int)) {f : Nat → Nat} (hf : ∀ j, j < n → (Md_nameOf y (32 * kd + j)).toInt = (f j : Int)) : Ok (Md_m_nodesOf y w1 w2) (fun r => ∀ i, i < 32 → (bt r i = true ↔ i < n ∧ f i = b)) := by
  unfold Md_m_nodesOf
  refine Ok_for n (fun j s => ∀ i, i < 32 → (bt s i = true ↔ i < j ∧ f i = b)) (by omega) i32_0 (fun i _ => by rw [b_0]; exact ⟨fun z => absurd z Bool.false_ne_true, fun z => absurd z.1 (Nat.not_lt_zero i)⟩) ?_ ?_
  · intro j s i hj hi hI
    dsimp only [Md_m_nodesOf_s5]
    refine Ok_ite (fun q => by rw [i32_le] at q; omega) (fun _ => Ok_eqr (off_ok h1 hkd hi (by omega)) (by omega) (hf j hj) h2 (fun e => ?_) (fun e => ?_))
    · refine Ok_some ⟨nx_s hi (by omega), fun q hq => ?_⟩
      show bt (s ||| (1 <<< (i &&& 31))) q = true ↔ _
      have h0 : (0 : Int) ≤ i.toInt := by omega
      rw [b_or, Bool.or_eq_true, bt_bit h0 (by omega) hq, hI q hq, decide_eq_true_iff]
      have : i.toInt.toNat = j := by omega
      rw [this]
      have e' : f j = b := Int.natCast_inj.mp e
      constructor
      · intro z
        rcases z with z | z
        · exact ⟨by omega, z.2⟩
        · rw [z]; exact ⟨Nat.lt_succ_self j, e'⟩
      · intro z
        by_cases q2 : q = j
        · exact Or.inr q2
        · exact Or.inl ⟨by omega, z.2⟩
    · refine Ok_some ⟨nx_s hi (by omega), fun q hq => ?_⟩
      rw [hI q hq]
      constructor
      · intro z; exact ⟨by omega, z.2⟩
      · intro z
        refine ⟨?_, z.2⟩
        have : q ≠ j := fun q2 => e (by rw [← q2, z.2])
        omega
  · intro s i hi hI
    dsimp only [Md_m_nodesOf_s5]
    exact Ok_ite (fun _ => Ok_omap (Ok_some hI)) (fun q => by rw [i32_le] at q; omega)
/-- the least node of a block -/
theorem leastB_ok {w1 w2 : Int32} (hn : n ≤ 32) (h : RY n m fa fb y) (h1 : w1.toInt = 0) (h2 : w2.toInt = (b : Int)) (hb : b < n) (hl : liv (hB n fa fb m) b) : Ok ((Md_m_nodesOf y w1 w2).bind fun g => Md_m_least y g) (fun r => r.toInt = (lea (fun v => bnm n fa fb m v = b) n : Int)) := by
  refine Ok_then (nodesOf_ok (kd := 0) hn h.1 h1 (by omega) h2 (ry_blk h)) (fun g hg => ?_)
  have hs := lea_lt (P := fun v => bnm n fa fb m v = b) hb (liv_bnm hl)
  have hsp := lea_spec (P := fun v => bnm n fa fb m v = b) (n := n)
  exact leastSet_ok (by omega) ((hg _ (by omega)).mpr ⟨hs.2.1, hs.2.2⟩) (fun i hi z => hsp.2.2 i hi ((hg i (by omega)).mp z).2)
/-- a chain up -/
theorem belowR_ok {w : Int32} (hV : Vd fa fb n m) (hn : n ≤ 32) (h : RY n m fa fb y) (hw : w.toInt = (b : Int)) : Ok (Md_m_below y w) (fun r => r.toInt = (tot n fa fb m b : Int)) := by
  have hF := FH_blk (k := m) hV hn
  have hsum : ∀ j, j ≤ n → sumN (fun c => bb (liv (hB n fa fb m) c ∧ b ∈ chn n fa fb m c) * cnt (fun v => bnm n fa fb m v = c) n) j ≤ j * 32 := by
    intro j hj
    refine Nat.le_trans (sumN_le (c := 32) (fun i hi => ?_)) (Nat.le_refl _)
    have h1 := cnt_le (P := fun v => bnm n fa fb m v = i) (n := n)
    by_cases q : liv (hB n fa fb m) i ∧ b ∈ chn n fa fb m i
    · rw [bb_t q]; omega
    · rw [bb_f q]; omega
  have htot : sumN (fun c => bb (liv (hB n fa fb m) c ∧ b ∈ chn n fa fb m c) * cnt (fun v => bnm n fa fb m v = c) n) n = tot n fa fb m b := by
    rw [cnt_by_name (A := fun c => liv (hB n fa fb m) c ∧ b ∈ chn n fa fb m c) (nm := bnm n fa fb m) (fun v hv => (bnm_lt hV hv).1)]
    unfold tot
    exact cnt_congr (fun v hv => ⟨fun z => z.2, fun z => ⟨(bnm_lt hV hv).2, z⟩⟩)
  unfold Md_m_below
  refine Ok_for n (fun j s => s.toInt = (sumN (fun c => bb (liv (hB n fa fb m) c ∧ b ∈ chn n fa fb m c) * cnt (fun v => bnm n fa fb m v = c) n) j : Int)) (by omega) i32_0 i32_0 ?_ ?_
  · intro j s i hj hi hI
    dsimp only [Md_m_below_s4]
    have hnn := h.1
    have hsj := hsum j (by omega)
    refine Ok_ite (fun q => by rw [i32_le] at q; omega) (fun _ => Ok_tf (isBlockR_ok (w := i) hV hn h) (fun ⟨b2, e1, e2, e3⟩ => ?_) (fun q => Ok_some ⟨nx_s hi (by omega), ?_⟩))
    · have : b2 = j := by omega
      subst this
      refine Ok_loop (fun t s2 => (∃ c : Nat, s2.toInt = (c : Int) ∧ c < n ∧ liv (hB n fa fb m) c ∧ (chn n fa fb m c).length = t ∧ (b ∈ chn n fa fb m b2 ↔ b ∈ chn n fa fb m c)) ∨ (s2.toInt = -1 ∧ b ∉ chn n fa fb m b2)) (N := (chn n fa fb m b2).length) (by have := (hF b2 e2 e3).2; unfold FU; omega) (Or.inl ⟨b2, hi, e2, e3, rfl, Iff.rfl⟩) ?_
      intro t s2 hs2
      dsimp only [Md_m_below_s26]
      have fin : ∀ s2 : Int32, (s2.toInt = (b : Int) ↔ b ∈ chn n fa fb m b2) → Ok (Md_m_below_j50 y w s i s2) (LR (fun p => p.2.toInt = ((b2 + 1 : Nat) : Int) ∧ p.1.toInt = (sumN (fun c => bb (liv (hB n fa fb m) c ∧ b ∈ chn n fa fb m c) * cnt (fun v => bnm n fa fb m v = c) n) (b2 + 1) : Int)) (fun r => r.toInt = (tot n fa fb m b : Int))) := by
        intro s2 hs
        unfold Md_m_below_j50
        refine Ok_ieq rfl hw (fun q => Ok_then (sizeOfR_ok (kd := 0) h.1 hn i32_0 (by omega) hi (ry_blk h)) (fun g hg => Ok_some ⟨nx_s hi (by omega), ?_⟩)) (fun q => Ok_some ⟨nx_s hi (by omega), ?_⟩)
        · have hc := cnt_le (P := fun v => bnm n fa fb m v = b2) (n := n)
          show (s + g).toInt = ((sumN _ b2 + bb (liv (hB n fa fb m) b2 ∧ b ∈ chn n fa fb m b2) * cnt (fun v => bnm n fa fb m v = b2) n : Nat) : Int)
          rw [bb_t ⟨e3, hs.mp q⟩, i32_add (by omega) (by omega), hI, hg, Nat.one_mul]
          rfl
        · show s.toInt = ((sumN _ b2 + bb (liv (hB n fa fb m) b2 ∧ b ∈ chn n fa fb m b2) * cnt (fun v => bnm n fa fb m v = b2) n : Nat) : Int)
          rw [bb_f (fun z => q (hs.mpr z.2)), Nat.zero_mul]
          exact hI
      rcases hs2 with ⟨c, hc1, hc2, hc3, hc4, hc5⟩ | ⟨hc1, hc2⟩
      · refine Ok_ieq hc1 hw (fun q => Ok_omap (fin s2 ⟨fun _ => ?_, fun _ => by rw [hc1]; exact q⟩)) (fun q => Ok_ieq hc1 i32_m1 (fun q2 => by omega) (fun _ => ?_))
        · rw [hc5, ← Int.natCast_inj.mp q]
          exact ch_self hF hc2 hc3
        · have hp := (h.2.2.2.2.2.1 c hc2 hc3).1
          refine Ok_rdb hc1 (by omega) (Ok_some ?_)
          rcases (hF c hc2 hc3).1 with ⟨f1, f2⟩ | ⟨d, f1, f2, f3, f4⟩
          · refine ⟨0, by rw [f2] at hc4; simp at hc4; omega, Or.inr ⟨by rw [hp]; exact f1, ?_⟩⟩
            rw [hc5, f2, List.mem_singleton]
            intro z
            exact q (by rw [z])
          · refine ⟨(chn n fa fb m d).length, by rw [← hc4, f4]; simp, Or.inl ⟨d, by rw [hp]; exact f3, f1, f2, rfl, ?_⟩⟩
            rw [hc5, f4, List.mem_cons]
            exact ⟨fun z => z.resolve_left (fun z => q (by rw [z])), Or.inr⟩
      · exact Ok_ieq hc1 hw (fun q => by omega) (fun _ => Ok_ieq hc1 i32_m1 (fun _ => Ok_omap (fin s2 ⟨fun z => by omega, fun z => absurd z hc2⟩)) (fun q => absurd rfl q))
    · show s.toInt = ((sumN _ j + bb (liv (hB n fa fb m) j ∧ b ∈ chn n fa fb m j) * cnt (fun v => bnm n fa fb m v = j) n : Nat) : Int)
      rw [bb_f (fun z => q ⟨j, hi, hj, z.1⟩), Nat.zero_mul]
      exact hI
  · intro s i hi hI
    dsimp only [Md_m_below_s4]
    have hnn := h.1
    rw [htot] at hI
    exact Ok_ite (fun _ => Ok_omap (Ok_some hI)) (fun q => by rw [i32_le] at q; omega)
/-- the root of a land -/
theorem rootOfR_ok {w : Int32} (hV : Vd fa fb n m) (hn : n ≤ 32) (h : RY n m fa fb y) (hw : w.toInt = (v : Int)) (hv : v < n) : Ok (Md_m_rootOf y w) (fun r => r.toInt = (bnm n fa fb m (hR n fa fb m v) : Int)) := by
  have hF := FH_blk (k := m) hV hn
  unfold Md_m_rootOf
  refine Ok_then (ry_ba h hn hw hv) (fun g hg => ?_)
  have hb := bnm_lt (k := m) hV hv
  refine Ok_loop (fun t s2 => ∃ c : Nat, s2.toInt = (c : Int) ∧ c < n ∧ liv (hB n fa fb m) c ∧ (chn n fa fb m c).length = t ∧ hR n fa fb m c = hR n fa fb m v) (N := (chn n fa fb m (bnm n fa fb m v)).length) (by have := (hF _ hb.1 hb.2).2; unfold FU; omega) ⟨_, hg, hb.1, hb.2, rfl, hR_bnm hV hv⟩ ?_
  intro t s2 ⟨c, hc1, hc2, hc3, hc4, hc5⟩
  dsimp only [Md_m_rootOf_s6]
  have hp := (h.2.2.2.2.2.1 c hc2 hc3).1
  have hr := hR_ok (k := m) hV
  have hrn := (hr.1 c hc2).1
  have hrl := (hr.1 c hc2).2
  refine Ok_rdb hc1 (by omega) (Ok_ieq hp i32_m1 (fun q => Ok_omap (Ok_some ?_)) (fun q => Ok_rdb hc1 (by omega) (Ok_some ?_)))
  · have hnil : fw fa fb (qb fa fb m) m c (hR n fa fb m c) = [] := by
      unfold bup hdw at q
      cases e : fw fa fb (qb fa fb m) m c (hR n fa fb m c) with
      | nil => rfl
      | cons s L =>
        rw [e] at q
        have : ((bnm n fa fb m s.2 : Nat) : Int) = -1 := q
        omega
    show s2.toInt = ((bnm n fa fb m (hR n fa fb m v) : Nat) : Int)
    rw [hc1, ← hc5]
    conv => lhs; rw [← liv_bnm hc3]
    exact congrArg (fun z : Nat => (z : Int)) ((NmQ_b hV c (hR n fa fb m c) hc2 hrn).mpr ⟨hrl.symm, hnil⟩)
  · rcases (hF c hc2 hc3).1 with ⟨f1, f2⟩ | ⟨d, f1, f2, f3, f4⟩
    · exact absurd f1 q
    · refine ⟨(chn n fa fb m d).length, by rw [← hc4, f4]; simp, d, by rw [hp]; exact f3, f1, f2, rfl, ?_⟩
      rw [← hc5]
      have hd : d ∈ chn n fa fb m c := by rw [f4]; exact List.mem_cons_of_mem _ (ch_self hF f1 f2)
      have := chn_dist hV hc2 hc3 hd
      exact hr.2 d c this.2.2.1
end R29
