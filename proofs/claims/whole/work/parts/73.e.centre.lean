/-! CALLS 12: centre, look -/
def CJ (n : Nat) (fa fb : Nat → Nat) (m l j : Nat) (p : Int32 × Int32 × Int32) : Prop := p.2.2.toInt = (j : Int) ∧ MN n fa fb m l j p.1.toInt ∧ (p.1.toInt = -1 ∨ ∃ a : Nat, p.1.toInt = (a : Int) ∧ p.2.1.toInt = ecc n fa fb m a)
section K12
variable {fa fb ga gb : Nat → Nat} {n k m r u v a b t l kd j : Nat} {X Y : SBS} {M x y q : MdS} {best one other : Int} {c d : Int}
theorem MN_skip (hM : MN n fa fb m l j c) (hns : ¬ SL n fa fb m l j) : MN n fa fb m l (j + 1) c := by
  rcases hM with ⟨e3, hM⟩ | ⟨a2, e3, ha2, hs2, hM⟩
  · refine Or.inl ⟨e3, fun i2 hi2 => ?_⟩
    by_cases q2 : i2 = j
    · rw [q2]; exact hns
    · exact hM i2 (by omega)
  · refine Or.inr ⟨a2, e3, by omega, hs2, fun i2 hi2 hs3 => ?_⟩
    by_cases q2 : i2 = j
    · rw [q2] at hs3; exact absurd hs3 hns
    · exact hM i2 (by omega) hs3
theorem MN_keep (hM : MN n fa fb m l j c) (hc : c = (a : Int)) (hle : ecc n fa fb m a ≤ ecc n fa fb m j) : MN n fa fb m l (j + 1) c := by
  rcases hM with ⟨e3, hM⟩ | ⟨a2, e3, ha2, hs2, hM⟩
  · omega
  · have : a2 = a := by omega
    subst this
    refine Or.inr ⟨a2, e3, by omega, hs2, fun i2 hi2 hs3 => ?_⟩
    by_cases q2 : i2 = j
    · rw [q2]; exact ⟨hle, fun _ => by omega⟩
    · exact hM i2 (by omega) hs3
theorem MN_take (hM : MN n fa fb m l j c) (hs : SL n fa fb m l j) (hc : c = -1 ∨ ∃ a : Nat, c = (a : Int) ∧ ecc n fa fb m j < ecc n fa fb m a) : MN n fa fb m l (j + 1) (j : Int) := by
  refine Or.inr ⟨j, rfl, Nat.lt_succ_self j, hs, fun i2 hi2 hs3 => ?_⟩
  by_cases q2 : i2 = j
  · rw [q2]; exact ⟨Int.le_refl _, fun _ => Nat.le_refl _⟩
  · rcases hM with ⟨e, hM⟩ | ⟨a2, e3, ha2, hs2, hM⟩
    · exact absurd hs3 (hM i2 (by omega))
    · have h5 := hM i2 (by omega) hs3
      rcases hc with e | ⟨a, e1, e2⟩
      · omega
      · have : a2 = a := by omega
        subst this
        exact ⟨by omega, fun e4 => by omega⟩
theorem centreR_ok (hv : HV n m fa fb) (h : RY n m fa fb y) {w : Int32} (hw : w.toInt = (l : Int)) : Ok (iter (fun p : Int32 × Int32 × Int32 => Md_m_centre_s26 y w p.1 p.2.1 p.2.2) FU ((-1), 0, 0)) (fun q => MN n fa fb m l n q.1.toInt ∧ q.2 = y) := by
  have hn := hv.2.1
  have hV := hv.2.2.2.1
  have hnn := h.1
  refine Ok_for3 n (fun j c d => MN n fa fb m l j c.toInt ∧ (c.toInt = -1 ∨ ∃ a : Nat, c.toInt = (a : Int) ∧ d.toInt = ecc n fa fb m a)) (by omega) i32_0 ⟨Or.inl ⟨i32_m1, fun i hi => absurd hi (Nat.not_lt_zero i)⟩, Or.inl i32_m1⟩ ?_ ?_
  · intro j c d i hj hi ⟨hM, hcd⟩
    dsimp only [Md_m_centre_s26]
    refine Ok_ite (fun q => by rw [i32_le] at q; omega) (fun _ => Ok_tf (isBlockOfR_ok hV hn h hi hw) (fun h1 => ?_) (fun h1 => Ok_some ⟨nx_s hi (by omega), MN_skip hM h1, hcd⟩))
    have s1 : SL n fa fb m l j := h1
    refine Ok_for n (fun k f => f.toInt = mxF (aw n fa fb m j) k) (by omega) i32_0 i32_0 ?_ ?_
    · intro k f i2 hk hi2 hf
      dsimp only [Md_m_centre_s54]
      have hge := mxF_ge (f := aw n fa fb m j) (k := k)
      refine Ok_ite (fun q => by rw [i32_le] at q; omega) (fun _ => Ok_tf (isBlockOfR_ok hV hn h hi2 hw) (fun h2 => ?_) (fun h2 => Ok_some ⟨nx_s hi2 (by omega), ?_⟩))
      · have s2 : SL n fa fb m l k := h2
        refine Ok_then (apart_ok' hV hn h.2.2.2.2.2.1 hi hi2 s1.1 s1.2.1 s2.1 s2.2.1 (SL_ld hV s1 s2)) (fun g hg => Ok_some ⟨nx_s hi2 (by omega), ?_⟩)
        rw [mxF_s, aw_in hV s1 s2]
        exact maxI hf hg
      · have s2 : ¬ SL n fa fb m l k := h2
        rw [mxF_s, aw_out hV s1 hk s2]
        show f.toInt = _
        rw [hf]; omega
    · intro f i2 hi2 hf
      dsimp only [Md_m_centre_s54]
      have hf' : f.toInt = ecc n fa fb m j := hf
      have take : (c.toInt = -1 ∨ ∃ a : Nat, c.toInt = (a : Int) ∧ ecc n fa fb m j < ecc n fa fb m a) → Ok (Md_m_centre_j108 y w i f) (LR (fun p => p.2.2.toInt = ((j + 1 : Nat) : Int) ∧ MN n fa fb m l (j + 1) p.1.toInt ∧ (p.1.toInt = -1 ∨ ∃ a : Nat, p.1.toInt = (a : Int) ∧ p.2.1.toInt = ecc n fa fb m a)) (fun q : Int32 × MdS => MN n fa fb m l n q.1.toInt ∧ q.2 = y)) := fun hc => Ok_some ⟨nx_s hi (by omega), by
        show MN n fa fb m l (j + 1) i.toInt
        rw [hi]; exact MN_take hM s1 hc, Or.inr ⟨j, hi, hf'⟩⟩
      refine Ok_ite (fun _ => Ok_omap ?_) (fun q => by rw [i32_le] at q; omega)
      refine Ok_ieq rfl i32_m1 (fun e => take (Or.inl e)) (fun e => ?_)
      rcases hcd with z | ⟨a, z1, z2⟩
      · exact absurd z e
      · refine Ok_ilt hf' z2 (fun q => take (Or.inr ⟨a, z1, q⟩)) (fun q => Ok_some ⟨nx_s hi (by omega), MN_keep hM z1 q, Or.inr ⟨a, z1, z2⟩⟩)
  · intro c d i hi ⟨hM, hcd⟩
    dsimp only [Md_m_centre_s26]
    exact Ok_ite (fun _ => Ok_omap (Ok_some ⟨hM, rfl⟩)) (fun q => by rw [i32_le] at q; omega)
theorem pc_centre : PC_centre Inv := by
  intro X M ⟨n, m, fa, fb, hv, hc, hr, hd⟩ v1
  apply pcX
  have hT : Rd n m fa fb M (Md_set_told M 0) := Rd_told hr
  unfold SB_m_centre Md_m_centre
  refine T2_b2 (runsAll_ok hv hT) (fun g hg => ?_)
  have hn := hv.2.1
  have hV := hv.2.2.2.1
  have hy := Rt_y hg
  by_cases h1 : isL n fa fb m v1.toInt
  · obtain ⟨b, hb1, hb2, hb3⟩ := id h1
    refine T2_t1 (livesL_ok hv hc) h1 (T2_t2 (isLandR_ok hV hn hy) h1 ?_)
    refine T2_fin (Ok_then (middleC_ok hV hn hc.2.1 hc.1.1.2.2.2.2.2.1 hb1) (fun g2 hg2 => Ok_some (P := fun r : Int32 × SBS => MN n fa fb m b n r.1.toInt ∧ Xd n m fa fb X r.2) ⟨hg2.1, Xd_fo hc hg2.2⟩)) (centreR_ok hv hy hb1) (fun a c ha hcc => ⟨i32_ext (MN_uq hcc.1 ha.1), Inv_ofX hv ha.2 hd (by rw [hcc.2]; exact Rt_d hg)⟩)
  · exact T2_f1 (livesL_ok hv hc) h1 (T2_f2 (isLandR_ok hV hn hy) h1 (T2_some ⟨rfl, Inv_of hv hc hd (Rt_d hg)⟩))
/-! look -/
theorem Ok_cnt2 {N : Nat} {Q : Nat → Nat → Prop} {w : Int32} {inner : Int32 → Int32 × Int32 → Option ((Int32 × Int32) ⊕ ((Int32 × Int32) ⊕ Int32))} {step : Int32 × Int32 → Option ((Int32 × Int32) ⊕ Int32)} (hN : N ≤ 64) (hw : w.toInt = (N : Int)) (hstep : ∀ c i, step (c, i) = if w ≤ i then omap (some c) else iter (inner i) FU (c, 0))
    (hin : ∀ (u : Nat) (i : Int32), u < N → i.toInt = (u : Int) → (∀ (v : Nat) (c i2 : Int32), v < u → i2.toInt = (v : Int) → Ok (inner i (c, i2)) (Cs (Q u v) c i2)) ∧ ∀ c i2 : Int32, i2.toInt = (u : Int) → inner i (c, i2) = some (.inr (.inl (c, i + 1)))) : Ok (iter step FU (0, 0)) (fun r => r.toInt = (sumN (fun u => cnt (Q u) u) N : Int)) := by
  have hb : ∀ j, j ≤ N → sumN (fun u => cnt (Q u) u) j ≤ j * 64 := fun j hj => sumN_le (fun i hi => Nat.le_trans cnt_le (by omega))
  refine Ok_for N (fun j c => c.toInt = (sumN (fun u => cnt (Q u) u) j : Int)) (by omega) i32_0 i32_0 ?_ ?_
  · intro u c i hu hi hc
    have hbu := hb u (by omega)
    rw [hstep]
    refine Ok_ite (fun q => by rw [i32_le] at q; omega) (fun _ => ?_)
    obtain ⟨h1, h2⟩ := hin u i hu hi
    refine Ok_for u (fun v d => d.toInt = ((sumN (fun u => cnt (Q u) u) u + cnt (Q u) v : Nat) : Int)) (by omega) i32_0 hc ?_ ?_
    · intro v d i2 hv hi2 hd
      have hcl := cnt_le (P := Q u) (n := v)
      refine Ok_mono (h1 v d i2 hv hi2) (fun r hr => ?_)
      rcases hr with ⟨q, rfl⟩ | ⟨q, rfl⟩
      · refine ⟨nx_s hi2 (by omega), ?_⟩
        rw [cnt_t q]
        exact nx_s (k := sumN (fun u => cnt (Q u) u) u + cnt (Q u) v) hd (by omega)
      · refine ⟨nx_s hi2 (by omega), ?_⟩
        rw [cnt_f q]; exact hd
    · intro d i2 hi2 hd
      rw [h2 d i2 hi2]
      exact Ok_some ⟨nx_s hi (by omega), hd⟩
  · intro c i hi hc
    rw [hstep]
    exact Ok_ite (fun _ => Ok_omap (Ok_some hc)) (fun q => by rw [i32_le] at q; omega)
theorem frail_ok (hv : HV n m fa fb) (h : RY n m fa fb y) : Ok (Md_m_frail y) (fun r => r.toInt = (sumN (fun u => cnt (fun v => lnm n fa fb m u = lnm n fa fb m v ∧ bnm n fa fb m u ≠ bnm n fa fb m v) u) n : Int)) := by
  have hn := hv.2.1
  unfold Md_m_frail
  refine Ok_cnt2 (Q := fun u v => lnm n fa fb m u = lnm n fa fb m v ∧ bnm n fa fb m u ≠ bnm n fa fb m v) (inner := fun i p => Md_m_frail_s14 y i p.1 p.2) (by omega) h.1 (fun c i => rfl) (fun u i hu hi => ⟨fun v c i2 hv2 hi2 => ?_, fun c i2 hi2 => ?_⟩)
  · dsimp only [Md_m_frail_s14]
    refine Ok_ite (fun q => by rw [i32_le] at q; omega) (fun _ => Ok_then (ry_la h hn hi hu) (fun a ha => Ok_then (ry_la h hn hi2 (by omega)) (fun d hd => Ok_ieq ha hd (fun e => Ok_then (ry_ba h hn hi hu) (fun a2 ha2 => Ok_then (ry_ba h hn hi2 (by omega)) (fun d2 hd2 => Ok_ieq ha2 hd2 (fun e2 => Cs_f (fun z => z.2 (Int.natCast_inj.mp e2))) (fun e2 => Cs_t ⟨Int.natCast_inj.mp e, fun z => e2 (by rw [z])⟩)))) (fun e => Cs_f (fun z => e (by rw [z.1]))))))
  · show Md_m_frail_s14 y i c i2 = _
    unfold Md_m_frail_s14
    rw [if_pos (by rw [i32_le]; omega)]
    rfl
theorem safePairs_ok (hv : HV n m fa fb) (h : RY n m fa fb y) (hp : PL fa fb m y) : Ok (Md_m_safePairs y) (fun r => r.toInt = (sumN (fun u => cnt (fun v => dsf fa fb m u v) u) n : Int)) := by
  have hn := hv.2.1
  unfold Md_m_safePairs
  refine Ok_cnt2 (Q := fun u v => dsf fa fb m u v) (inner := fun i p => Md_m_safePairs_s14 y i p.1 p.2) (by omega) h.1 (fun c i => rfl) (fun u i hu hi => ⟨fun v c i2 hv2 hi2 => ?_, fun c i2 hi2 => ?_⟩)
  · dsimp only [Md_m_safePairs_s14]
    exact Ok_ite (fun q => by rw [i32_le] at q; omega) (fun _ => Ok_tf (areSafe_ok hv.2.2.2.1 hn hv.2.2.1 h.2.1 h.2.2.1 h.2.2.2.2.2.2 hp hi hi2 hu (by omega)) (fun q => Cs_t q) (fun q => Cs_f q))
  · show Md_m_safePairs_s14 y i c i2 = _
    unfold Md_m_safePairs_s14
    rw [if_pos (by rw [i32_le]; omega)]
    rfl
theorem dsf_symm (h : dsf fa fb m u v) : dsf fa fb m v u := by
  obtain ⟨a, b, ha, hb, hau, hbv, e, hnb⟩ := h
  refine ⟨b, a, hb, ha, hbv, hau, e.symm, fun z => ?_⟩
  have := brg_alone z ha e.symm
  rw [← this] at z
  exact hnb z
/-- pairs, the lesser first -/
theorem pairs_up {Q : Nat → Nat → Prop} (hs : ∀ u v, Q u v → Q v u) : sumN (fun u => cnt (fun v => u < v ∧ Q u v) n) n = sumN (fun u => cnt (fun v => Q u v) u) n := by
  have h1 : ∀ u, u < n → cnt (fun v => Q u v) u = cnt (fun v => v < u ∧ Q u v) n := fun u hu => by
    rw [cnt_cut (P := fun v => v < u ∧ Q u v) (Nat.le_of_lt hu) (fun i hi _ z => by omega)]
    exact cnt_congr (fun i hi => ⟨fun z => ⟨hi, z⟩, fun z => z.2⟩)
  rw [sumN_congr h1, sumN_congr (fun u _ => cnt_sum), sumN_swap, sumN_congr (fun v _ => cnt_sum.symm)]
  exact sumN_congr (fun v _ => cnt_congr (fun u _ => ⟨fun z => ⟨z.1, hs _ _ z.2⟩, fun z => ⟨z.1, hs _ _ z.2⟩⟩))
theorem cnt_shift {Q : Nat → Prop} {o N : Nat} (ho : o ≤ N) : cnt (fun i => Q (o + i)) (N - o) = cnt (fun v => o ≤ v ∧ Q v) N := by
  induction N with
  | zero =>
    have : o = 0 := by omega
    subst this; rfl
  | succ N ih =>
    by_cases e : o = N + 1
    · subst e
      rw [Nat.sub_self]
      exact (cnt_none (fun i hi z => by omega)).symm
    · have h1 := ih (by omega)
      have h2 : N + 1 - o = (N - o) + 1 := by omega
      rw [h2, cnt_s, cnt_s, h1]
      have h3 : o + (N - o) = N := by omega
      rw [h3]
      exact congrArg (_ + ·) (bb_congr ⟨fun z => ⟨by omega, z⟩, fun z => z.2⟩)
theorem ringPairs_ok {x : PbS} (hv : HV n m fa fb) (hp : PbOK n m fa fb x) : Ok (Pb_m_ringPairs x) (fun r => r.toInt = (sumN (fun u => cnt (fun v => dsf fa fb m u v) u) n : Int)) := by
  have hn := hv.2.1
  have hV := hv.2.2.2.1
  have hpn := hp.1
  rw [← pairs_up (Q := dsf fa fb m) (fun u v z => dsf_symm z)]
  unfold Pb_m_ringPairs
  have hb : ∀ j, j ≤ n → sumN (fun u => cnt (fun v => u < v ∧ dsf fa fb m u v) n) j ≤ j * 64 := fun j hj => sumN_le (fun i hi => Nat.le_trans cnt_le (by omega))
  refine Ok_for n (fun j c => c.toInt = (sumN (fun u => cnt (fun v => u < v ∧ dsf fa fb m u v) n) j : Int)) (by omega) i32_0 i32_0 ?_ ?_
  · intro u c i hu hi hc
    dsimp only [Pb_m_ringPairs_s4]
    have hbu := hb u (by omega)
    refine Ok_ite (fun q => by rw [i32_le] at q; omega) (fun _ => ?_)
    have hsh := cnt_shift (Q := dsf fa fb m u) (o := u + 1) (N := n) (by omega)
    refine Ok_forO (u + 1) (n - (u + 1)) (fun k d => d.toInt = ((sumN (fun u => cnt (fun v => u < v ∧ dsf fa fb m u v) n) u + cnt (fun k => dsf fa fb m u (u + 1 + k)) k : Nat) : Int)) (by omega) (nx_s hi (by omega)) hc ?_ ?_
    · intro k d i2 hk hi2 hd
      dsimp only [Pb_m_ringPairs_s16]
      have hcl := cnt_le (P := fun k => dsf fa fb m u (u + 1 + k)) (n := k)
      refine Ok_ite (fun q => by rw [i32_le] at q; omega) (fun _ => Ok_tf (shareC_ok hV hp hn hv.2.2.1 hi hu hi2 (by omega)) (fun q => Ok_some ⟨nx_s (k := u + 1 + k) hi2 (by omega), ?_⟩) (fun q => Ok_some ⟨nx_s (k := u + 1 + k) hi2 (by omega), ?_⟩))
      · rw [cnt_t (P := fun k => dsf fa fb m u (u + 1 + k)) q]
        exact nx_s (k := sumN (fun u => cnt (fun v => u < v ∧ dsf fa fb m u v) n) u + cnt (fun k => dsf fa fb m u (u + 1 + k)) k) hd (by omega)
      · rw [cnt_f (P := fun k => dsf fa fb m u (u + 1 + k)) q]
        exact hd
    · intro d i2 hi2 hd
      dsimp only [Pb_m_ringPairs_s16]
      refine Ok_ite (fun _ => Ok_omap (Ok_some ⟨nx_s hi (by omega), ?_⟩)) (fun q => by rw [i32_le] at q; omega)
      rw [hsh] at hd
      exact hd
  · intro c i hi hc
    dsimp only [Pb_m_ringPairs_s4]
    exact Ok_ite (fun _ => Ok_omap (Ok_some hc)) (fun q => by rw [i32_le] at q; omega)
noncomputable def mdE (n : Nat) (fa fb : Nat → Nat) (m k : Nat) : Nat := bb (liv (hL n fa fb m) k) * ((lvE n fa fb m k + 1) / 2)
theorem mdE_le (hn : n ≤ 32) : mdE n fa fb m k ≤ 64 := by
  have h : lvE n fa fb m k ≤ n := cnt_le
  unfold mdE
  by_cases q : liv (hL n fa fb m) k
  · rw [bb_t q]; omega
  · rw [bb_f q]; omega
theorem mendsC_ok (hv : HV n m fa fb) (hc : CI n m fa fb X) : Ok (SB_m_mendOfAll X) (fun r => r.toInt = (sumN (mdE n fa fb m) n : Int)) := by
  have hn := hv.2.1
  have hb : ∀ j, j ≤ n → sumN (mdE n fa fb m) j ≤ j * 64 := fun j hj => sumN_le (fun i hi => mdE_le hn)
  unfold SB_m_mendOfAll
  have hnn := hc.1.1.2.2.2.1.1
  refine Ok_for n (fun j c => c.toInt = (sumN (mdE n fa fb m) j : Int)) (by omega) i32_0 i32_0 ?_ ?_
  · intro j c i hj hi hcc
    dsimp only [SB_m_mendOfAll_s4]
    have hbj := hb j (by omega)
    have hle : lvE n fa fb m j ≤ n := cnt_le
    refine Ok_ite (fun q => by rw [i32_le] at q; omega) (fun _ => Ok_tf (livesL_ok (w := i) hv hc) (fun ⟨b2, e1, e2, e3⟩ => ?_) (fun q => Ok_some ⟨nx_s hi (by omega), ?_⟩))
    · have : b2 = j := by omega
      subst this
      refine Ok_then (mendC_ok hv hc hi) (fun g hg => Ok_some ⟨nx_s hi (by omega), ?_⟩)
      show (c + g).toInt = ((sumN (mdE n fa fb m) b2 + mdE n fa fb m b2 : Nat) : Int)
      have e : mdE n fa fb m b2 = (lvE n fa fb m b2 + 1) / 2 := by unfold mdE; rw [bb_t e3, Nat.one_mul]
      rw [e, i32_add (by omega) (by omega), hcc, hg]
      omega
    · show c.toInt = ((sumN (mdE n fa fb m) j + mdE n fa fb m j : Nat) : Int)
      have e : mdE n fa fb m j = 0 := by unfold mdE; rw [bb_f (fun z => q ⟨j, hi, hj, z⟩), Nat.zero_mul]
      rw [e, Nat.add_zero]
      exact hcc
  · intro c i hi hcc
    dsimp only [SB_m_mendOfAll_s4]
    exact Ok_ite (fun _ => Ok_omap (Ok_some hcc)) (fun q => by rw [i32_le] at q; omega)
theorem mendsR_ok (hv : HV n m fa fb) (h : RY n m fa fb y) : Ok (Md_m_mends y) (fun r => r.toInt = (sumN (mdE n fa fb m) n : Int)) := by
  have hn := hv.2.1
  have hb : ∀ j, j ≤ n → sumN (mdE n fa fb m) j ≤ j * 64 := fun j hj => sumN_le (fun i hi => mdE_le hn)
  unfold Md_m_mends
  have hnn := h.1
  refine Ok_for n (fun j c => c.toInt = (sumN (mdE n fa fb m) j : Int)) (by omega) i32_0 i32_0 ?_ ?_
  · intro j c i hj hi hcc
    dsimp only [Md_m_mends_s4]
    have hbj := hb j (by omega)
    have hle : lvE n fa fb m j ≤ n := cnt_le
    refine Ok_ite (fun q => by rw [i32_le] at q; omega) (fun _ => Ok_tf (isLandR_ok (w := i) hv.2.2.2.1 hn h) (fun ⟨b2, e1, e2, e3⟩ => ?_) (fun q => Ok_some ⟨nx_s hi (by omega), ?_⟩))
    · have : b2 = j := by omega
      subst this
      refine Ok_then (mendR_ok hv h hi) (fun g hg => Ok_some ⟨nx_s hi (by omega), ?_⟩)
      show (c + g).toInt = ((sumN (mdE n fa fb m) b2 + mdE n fa fb m b2 : Nat) : Int)
      have e : mdE n fa fb m b2 = (lvE n fa fb m b2 + 1) / 2 := by unfold mdE; rw [bb_t e3, Nat.one_mul]
      rw [e, i32_add (by omega) (by omega), hcc, hg]
      omega
    · show c.toInt = ((sumN (mdE n fa fb m) j + mdE n fa fb m j : Nat) : Int)
      have e : mdE n fa fb m j = 0 := by unfold mdE; rw [bb_f (fun z => q ⟨j, hi, hj, z⟩), Nat.zero_mul]
      rw [e, Nat.add_zero]
      exact hcc
  · intro c i hi hcc
    dsimp only [Md_m_mends_s4]
    exact Ok_ite (fun _ => Ok_omap (Ok_some hcc)) (fun q => by rw [i32_le] at q; omega)
theorem deepestR_ok (hv : HV n m fa fb) (h : RY n m fa fb y) : Ok (Md_m_deepest y) (fun r => r.toInt = mxF (fun v => ((chn n fa fb m (bnm n fa fb m v)).length : Int) - 1) n) := by
  have hn := hv.2.1
  have hV := hv.2.2.2.1
  unfold Md_m_deepest
  have hnn := h.1
  refine Ok_for n (fun j c => c.toInt = mxF (fun v => ((chn n fa fb m (bnm n fa fb m v)).length : Int) - 1) j) (by omega) i32_0 i32_0 ?_ ?_
  · intro j c i hj hi hcc
    dsimp only [Md_m_deepest_s4]
    have bj := bnm_lt (k := m) hV hj
    refine Ok_ite (fun q => by rw [i32_le] at q; omega) (fun _ => Ok_then (ry_ba h hn hi hj) (fun a ha => Ok_then (deepR_ok hV hn h.2.2.2.2.2.1 ha bj.1 bj.2) (fun g hg => Ok_some ⟨nx_s hi (by omega), ?_⟩)))
    rw [mxF_s]
    exact maxI hcc hg
  · intro c i hi hcc
    dsimp only [Md_m_deepest_s4]
    exact Ok_ite (fun _ => Ok_omap (Ok_some hcc)) (fun q => by rw [i32_le] at q; omega)
/-- as many names of parts as parts -/
theorem parts_liv : cnt (liv (hP fa fb m)) m = cnt (fun l => lp fa fb m l = l) m := by
  have h1 : cnt (liv (hP fa fb m)) m = pcn fa fb m (fun _ => True) := by
    rw [← pcn_pnm (Nat.le_refl m)]
    have hI := (hP_fresh (fa := fa) (fb := fb) (k := m)).1
    exact cnt_congr (fun c hc => ⟨fun z => ⟨c, hc, trivial, z⟩, fun ⟨l, hl, _, e⟩ => by
      show N_of (hP fa fb m) c = c
      rw [← e]; exact (hI.1 l hl).2⟩)
  have h2 : cnt (fun l => lp fa fb m l = l) m = pcn fa fb m (fun _ => True) := by
    rw [← pcn_lp]
    exact cnt_congr (fun c hc => ⟨fun z => ⟨c, hc, trivial, z⟩, fun ⟨l, hl, _, e⟩ => by rw [← e]; exact lp_id hl⟩)
  rw [h1, h2]
theorem pc_look : PC_look Inv := by
  intro X M ⟨n, m, fa, fb, hv, hc, hr, hd⟩ v1
  apply pcQ
  have hT : Rd n m fa fb M (Md_set_told M 0) := Rd_told hr
  unfold SB_m_look Md_m_look
  refine T2_b2 (runsAll_ok hv hT) (fun g0 hg0 => T2_b2 (lays_ok hv hg0) (fun g hgl => ?_))
  have hg := hgl.1
  have hp := hgl.2
  have hy := Rt_y hg
  have hrd := Rt_d hg
  have hn := hv.2.1
  have hm := hv.2.2.1
  have hV := hv.2.2.2.1
  have hinv := Inv_of hv hc hd hrd
  obtain ⟨w1, wF, wE, wT, wB, wL, wP⟩ := hc.1.1
  refine T2_ite (fun _ => ?_) (fun _ => T2_ite (fun _ => ?_) (fun _ => T2_ite (fun _ => ?_) (fun _ => T2_ite (fun _ => ?_) (fun _ => T2_ite (fun _ => ?_) (fun _ => T2_ite (fun _ => ?_) (fun _ => T2_ite (fun _ => ?_) (fun _ => T2_ite (fun _ => ?_) (fun _ => T2_ite (fun _ => ?_) (fun _ => T2_ite (fun _ => ?_) (fun _ => T2_ite (fun _ => ?_) (fun _ => T2_ite (fun _ => ?_) (fun _ => ?_))))))))))))
  · exact T2_some ⟨i32_ext (hy.1.trans wT.1.symm), hinv⟩
  · exact T2_some ⟨i32_ext (hy.2.1.trans w1.symm), hinv⟩
  · exact ans hv hc hd (Ok_then (bridgesAmongC_ok hc.1.1 hm w1 (Nat.le_refl m)) (fun g2 hg2 => Ok_some hg2)) (Ok_then (bridgesR_ok hy.2.2.2.2.2.2 hm hg.2.2.1) (fun g2 hg2 => Ok_some ⟨hg2, hrd⟩))
  · exact ans hv hc hd (E := (cnt (liv (hB n fa fb m)) n : Int)) (Ok_some wB.2.2.1.2.2.2.2.2) (Ok_then (namesR_ok (kd := 0) hn hy i32_0 (by omega) (fun j hj => (hy.2.2.2.1 j hj).2.1) (NI_B hV).2.1) (fun g2 hg2 => Ok_some ⟨hg2, hrd⟩))
  · exact ans hv hc hd (E := (cnt (liv (hL n fa fb m)) n : Int)) (Ok_some wL.2.2.1.2.2.2.2.2) (Ok_then (namesR_ok (kd := 1) hn hy i32_1 (by omega) (fun j hj => (hy.2.2.2.2.1 j hj).2.1) (NI_L hV).2.1) (fun g2 hg2 => Ok_some ⟨hg2, hrd⟩))
  · refine T2_some ⟨i32_ext ?_, hinv⟩
    show (Md_parts g).toInt = (Nm_groups (Wb_parts (SB_now X))).toInt
    rw [hp.2, wP.2.2.1.2.2.2.2.2, parts_liv]
  · exact ans hv hc hd (Ok_then (allCutsC_ok hc.2.2 hn hm) (fun g2 hg2 => Ok_some hg2)) (Ok_then (cutsR_ok hV hn hm hy hp) (fun g2 hg2 => Ok_some ⟨hg2, hrd⟩))
  · refine ans hv hc hd (E := (sumN (fun u => cnt (fun v => lnm n fa fb m u = lnm n fa fb m v ∧ bnm n fa fb m u ≠ bnm n fa fb m v) u) n : Int)) (Ok_then (pairs_ok wL (NI_L hV)) (fun a ha => Ok_then (pairs_ok wB (NI_B hV)) (fun c hcc => Ok_some ?_))) (Ok_then (frail_ok hv hy) (fun g2 hg2 => Ok_some ⟨hg2, hrd⟩))
    have hsum : sumN (fun u => cnt (fun v => N_of (hL n fa fb m) v = N_of (hL n fa fb m) u) u) n = sumN (fun u => cnt (fun v => lnm n fa fb m u = lnm n fa fb m v ∧ bnm n fa fb m u ≠ bnm n fa fb m v) u) n + sumN (fun u => cnt (fun v => N_of (hB n fa fb m) v = N_of (hB n fa fb m) u) u) n := by
      rw [← sumN_add]
      refine sumN_congr (fun u hu => ?_)
      rw [cnt_sum, cnt_sum, cnt_sum, ← sumN_add]
      refine sumN_congr (fun v hv2 => ?_)
      have hvn : v < n := by omega
      have hbl : bnm n fa fb m v = bnm n fa fb m u → lnm n fa fb m v = lnm n fa fb m u := fun e => (land_same hV hvn hu).mpr ((blk_same hV hvn hu).mp e).1
      have e1 : bb (N_of (hL n fa fb m) v = N_of (hL n fa fb m) u) = bb (lnm n fa fb m v = lnm n fa fb m u) := rfl
      have e2 : bb (N_of (hB n fa fb m) v = N_of (hB n fa fb m) u) = bb (bnm n fa fb m v = bnm n fa fb m u) := rfl
      rw [e1, e2]
      by_cases q1 : bnm n fa fb m v = bnm n fa fb m u
      · rw [bb_t q1, bb_t (hbl q1), bb_f (fun z => z.2 q1.symm)]
      · by_cases q2 : lnm n fa fb m v = lnm n fa fb m u
        · rw [bb_f q1, bb_t q2, bb_t ⟨q2.symm, fun z => q1 z.symm⟩]
        · rw [bb_f q1, bb_f q2, bb_f (fun z => q2 z.1.symm)]
    have ha1 := ha.1
    have hc1 := hcc.1
    have ha2 := ha.2
    have hc2 := hcc.2
    rw [i32_sub (by omega) (by omega), ha1, hc1, hsum]
    omega
  · exact ans hv hc hd (Ok_then (mendsC_ok hv hc) (fun g2 hg2 => Ok_some hg2)) (Ok_then (mendsR_ok hv hy) (fun g2 hg2 => Ok_some ⟨hg2, hrd⟩))
  · exact T2_some ⟨hg.2.1.trans hd.symm, hinv⟩
  · exact ans hv hc hd (Ok_then (ringPairs_ok hv hc.2.2) (fun g2 hg2 => Ok_some hg2)) (Ok_then (safePairs_ok hv hy hp) (fun g2 hg2 => Ok_some ⟨hg2, hrd⟩))
  · exact ans hv hc hd (Ok_then (deepestC_ok hV hn hc.2.1) (fun g2 hg2 => Ok_some hg2)) (Ok_then (deepestR_ok hv hy) (fun g2 hg2 => Ok_some ⟨hg2, hrd⟩))
  · exact T2_some ⟨rfl, hinv⟩
end K12
