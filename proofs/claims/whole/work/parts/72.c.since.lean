/-! CALLS 8: since -/
section K8
variable {fa fb ga gb : Nat → Nat} {n k m r u v b t l : Nat} {X Y : SBS} {M x y q : MdS} {P : List (Nat × Nat)}
theorem RI_setm (h : RI n m fa fb x) {w : Int32} (hF : Fz (Md_set_m x w) y) : RI n m fa fb (Md_set_m y (Md_m x)) := by
  obtain ⟨r1, r2, r3, r4, r5⟩ := h
  obtain ⟨hp, p1, p2, p3, p4, p5⟩ := hF
  have hq : ∃ q, q = Md_set_m y (Md_m x) ∧ Md_n q = Md_n y ∧ Md_m q = Md_m x ∧ Md_first q = Md_first y ∧ Md_second q = Md_second y ∧ Md_run q = Md_run y ∧ (∀ r, RunAt n fa fb r y → RunAt n fa fb r q) ∧ (∀ k, PRI fa fb k y → PRI fa fb k q) := ⟨_, rfl, rfl, rfl, rfl, rfl, rfl, fun r z => z, fun k z => z⟩
  obtain ⟨q, eq, q1, q2, q3, q4, q5, q6, q7⟩ := hq
  rw [← eq]
  have hx : Md_n (Md_set_m x w) = Md_n x ∧ Md_first (Md_set_m x w) = Md_first x ∧ Md_second (Md_set_m x w) = Md_second x ∧ Md_run (Md_set_m x w) = Md_run x ∧ Md_partRun (Md_set_m x w) = Md_partRun x ∧ Md_partName (Md_set_m x w) = Md_partName x ∧ Md_partEnded (Md_set_m x w) = Md_partEnded x ∧ Md_partInto (Md_set_m x w) = Md_partInto x ∧ Md_partMost (Md_set_m x w) = Md_partMost x := ⟨rfl, rfl, rfl, rfl, rfl, rfl, rfl, rfl, rfl⟩
  have hxr : ∀ r, RunAt n fa fb r x → RunAt n fa fb r (Md_set_m x w) := fun r z => z
  obtain ⟨x1, x2, x3, x4, x5, x6, x7, x8, x9⟩ := hx
  have e := hp.1
  refine ⟨by rw [q1, e.1, x1]; exact r1, by rw [q2]; exact r2, by rw [q3, q4, e.2.2.2.1, e.2.2.2.2.1, x2, x3]; exact r3, ?_, q7 m ?_⟩
  · rcases r4 with z | ⟨r, hr, z⟩
    · exact Or.inl (by rw [q5, e.2.2.2.2.2, x4]; exact z)
    · exact Or.inr ⟨r, hr, q6 r (Fp_run hp (hxr r z))⟩
  · rcases r5 with z | ⟨r, hr, z1, z2⟩
    · exact Or.inl (by rw [p1, x5]; exact z)
    · refine Or.inr ⟨r, hr, by rw [p1, x5]; exact z1, fun b hb => ?_⟩
      rw [p2, p3, p4, p5, x6, x7, x8, x9]
      exact z2 b hb
/-- what holds at a time, by kinds -/
def byK (fa fb : Nat → Nat) (u v : Nat) (w : Int) (k : Nat) : Prop := if w = 0 then ld fa fb k u = ld fa fb k v else if w = 1 then safe fa fb k u v else dsf fa fb k u v
theorem by1 : byK fa fb u v 1 = (safe fa fb · u v) := by
  funext k
  unfold byK
  rw [if_neg (by decide), if_pos rfl]
theorem by2 : byK fa fb u v 2 = (dsf fa fb · u v) := by
  funext k
  unfold byK
  rw [if_neg (by decide), if_neg (by decide)]
theorem areBy_ok (hv : HV n m fa fb) (h : Rd n m fa fb M x) {w1 w2 w3 w4 : Int32} (h1 : w1.toInt = (u : Int)) (h2 : w2.toInt = (v : Int)) (h4 : w4.toInt = (k : Int)) (hk : k ≤ m) (hu : u < n) (hw : v < n) : Ok (Md_m_areBy x w1 w2 w3 w4) (fun q => (q.1 = true ↔ byK fa fb u v w3.toInt k) ∧ Rd n m fa fb M q.2) := by
  have hn := hv.2.1
  have hm := hv.2.2.1
  have hV : Vd fa fb n k := Vd_le hv.2.2.2.1 hk
  unfold Md_m_areBy byK
  refine Ok_then (runsTo_ok (M := M) hv h.1 h.2 h4 hk) (fun g hg => ?_)
  have hrn := hg.1.2.1
  refine Ok_ieq rfl i32_0 (fun e => ?_) (fun e => ?_)
  · rw [if_pos e]
    have hl := land_same (n := n) (k := k) hV hu hw
    refine Ok_then (landOf_ok h1 hu hn (fun j hj => (hrn.2.1 j hj).1)) (fun a ha => Ok_then (landOf_ok h2 hw hn (fun j hj => (hrn.2.1 j hj).1)) (fun c hc => Ok_ieq ha hc (fun z => ?_) (fun z => ?_)))
    · exact Ok_some ⟨⟨fun _ => hl.mp (Int.natCast_inj.mp z), fun _ => rfl⟩, hg.2.2⟩
    · exact Ok_some ⟨⟨fun z2 => absurd z2 Bool.false_ne_true, fun z2 => absurd (by rw [hl.mpr z2]) z⟩, hg.2.2⟩
  · rw [if_neg e]
    refine Ok_ieq rfl i32_1 (fun e1 => ?_) (fun e1 => ?_)
    · rw [if_pos e1]
      have hl := blk_same (n := n) (k := k) hV hu hw
      refine Ok_then (blockAt_ok h1 hu hn (fun j hj => (hrn.1 j hj).1)) (fun a ha => Ok_then (blockAt_ok h2 hw hn (fun j hj => (hrn.1 j hj).1)) (fun c hc => Ok_ieq ha hc (fun z => ?_) (fun z => ?_)))
      · exact Ok_some ⟨⟨fun _ => hl.mp (Int.natCast_inj.mp z), fun _ => rfl⟩, hg.2.2⟩
      · exact Ok_some ⟨⟨fun z2 => absurd z2 Bool.false_ne_true, fun z2 => absurd (by rw [hl.mpr z2]) z⟩, hg.2.2⟩
    · rw [if_neg e1]
      have hs : ∃ y, y = Md_set_m g w4 ∧ Md_n y = Md_n g ∧ Md_m y = w4 ∧ Md_first y = Md_first g ∧ Md_second y = Md_second g ∧ Md_closedBy y = Md_closedBy g ∧ Md_state y = Md_state g := ⟨_, rfl, rfl, rfl, rfl, rfl, rfl, rfl⟩
      obtain ⟨y, ey, y1, y2, y3, y4, y5, y6⟩ := hs
      have hRI := hg.2.2.1
      have hf : ∀ l, l < k → (Md_first y l).toInt = (fa l : Int) ∧ (Md_second y l).toInt = (fb l : Int) := fun l hl => by rw [y3, y4]; exact hRI.2.2.1 l (by omega)
      have hsetm := fun (z : MdS) (hz : Fz y z) => RI_setm (w := w4) hRI (by rw [← ey]; exact hz)
      rw [← ey]
      clear ey
      refine Ok_then (laysAll_ok hV hn (by omega) (fun l hl => hv.2.2.2.2 l (by omega)) hf (by rw [y1]; exact hRI.1) (by rw [y2]; exact h4)) (fun g2 hg2 => ?_)
      obtain ⟨⟨f, w, e2⟩, hp⟩ := hg2
      have hFz : Fz y g2 := by rw [e2]; exact Fz_lay
      have gm : Md_m g2 = w4 := by rw [hFz.1.1.2.1, y2]
      have gf : Md_first g2 = Md_first y := hFz.1.1.2.2.2.1
      have gs : Md_second g2 = Md_second y := hFz.1.1.2.2.2.2.1
      have gc : Md_closedBy g2 = Md_closedBy g := by rw [hFz.1.2.1.2.2.2.2.2.2, y5]
      have gst : Md_state g2 = Md_state g := by rw [hFz.1.1.2.2.1, y6]
      refine Ok_then (areSafe_ok (y := g2) hV hn (by omega) (by rw [gm]; exact h4) (by rw [gf, gs]; exact hf) (by rw [gc]; exact hrn.2.2.2) hp h1 h2 hu hw) (fun g3 hg3 => Ok_some ⟨hg3, hsetm g2 hFz, ?_⟩)
      have hst : ∀ z : MdS, ∀ w, Md_state (Md_set_m z w) = Md_state z := fun z w => rfl
      show Md_state (Md_set_m g2 (Md_m g)) = Md_state M
      rw [hst, gst]
      exact hg.2.2.2
theorem sinceR_ok (hv : HV n m fa fb) (h : Rd n m fa fb M x) {w1 w2 w3 : Int32} (h1 : w1.toInt = (u : Int)) (h2 : w2.toInt = (v : Int)) (hu : u < n) (hw : v < n) : Ok (iter (fun p : MdS × Int32 => Md_m_since_s32 w1 w2 w3 p.1 p.2) FU (x, 0)) (fun q => q.1.toInt = sncE (byK fa fb u v w3.toInt) m ∧ Rd n m fa fb M q.2) := by
  have hm := hv.2.2.1
  have hsp := lea_spec (P := byK fa fb u v w3.toInt) (n := m + 1)
  refine Ok_upto (fun j p => p.2.toInt = (j : Int) ∧ Rd n m fa fb M p.1) (e := lea (byK fa fb u v w3.toInt) (m + 1)) (by omega) ⟨i32_0, h⟩ ?_ ?_
  · intro j ⟨y, i⟩ hj ⟨hi, hy⟩
    dsimp only [Md_m_since_s32] at *
    have hmm := hy.1.2.1
    refine Ok_ite (fun q => by rw [i32_lt] at q; omega) (fun _ => ?_)
    have hr : Rd n m fa fb M (Md_set_run y (-1)) := by
      have h2 : ∀ z : MdS, Rd n m fa fb M z → Rd n m fa fb M (Md_set_run z (-1)) := fun z hz => ⟨⟨hz.1.1, hz.1.2.1, hz.1.2.2.1, Or.inl i32_m1, hz.1.2.2.2.2⟩, hz.2⟩
      exact h2 y hy
    refine Ok_then (areBy_ok hv hr h1 h2 hi (show j ≤ m by omega) hu hw) (fun g hg => Ok_ite (fun q => absurd (hg.1.mp q) (hsp.2.2 j hj)) (fun _ => Ok_some ⟨nx_s hi (by omega), hg.2⟩))
  · intro ⟨y, i⟩ ⟨hi, hy⟩
    dsimp only [Md_m_since_s32] at *
    have hmm := hy.1.2.1
    by_cases hle : lea (byK fa fb u v w3.toInt) (m + 1) ≤ m
    · refine Ok_ite (fun q => by rw [i32_lt] at q; omega) (fun _ => ?_)
      have hr : Rd n m fa fb M (Md_set_run y (-1)) := by
        have h2 : ∀ z : MdS, Rd n m fa fb M z → Rd n m fa fb M (Md_set_run z (-1)) := fun z hz => ⟨⟨hz.1.1, hz.1.2.1, hz.1.2.2.1, Or.inl i32_m1, hz.1.2.2.2.2⟩, hz.2⟩
        exact h2 y hy
      refine Ok_then (areBy_ok hv hr h1 h2 hi hle hu hw) (fun g hg => Ok_ite (fun q => Ok_omap (Ok_some ⟨?_, hg.2⟩)) (fun q => absurd (hg.1.mpr (hsp.2.1 (by omega))) q))
      unfold sncE
      rw [if_pos hle]; exact hi
    · refine Ok_ite (fun _ => Ok_omap (Ok_some ⟨?_, hy⟩)) (fun q => by rw [i32_lt] at q; omega)
      unfold sncE
      rw [if_neg hle]; exact i32_m1
/-! the class -/
theorem inc1 {c : Int32} {K : Nat} (hK : c.toInt = (K : Int) - 1) (h : K ≤ 64) : (c + 1).toInt = (K : Int) := by
  rw [i32_add (by rw [hK, i32_1]; omega) (by rw [hK, i32_1]; omega), hK, i32_1]
  omega
theorem maxI {a b : Int32} {x y : Int} (ha : a.toInt = x) (hb : b.toInt = y) : (if a < b then b else a).toInt = max x y := by
  by_cases q : a < b
  · rw [if_pos q]; rw [i32_lt, ha, hb] at q; omega
  · rw [if_neg q]; rw [i32_lt, ha, hb] at q; omega
theorem landSince_ok {x : WbS} {w : Int32} (hm : m ≤ 64) (hld : ld fa fb m u = ld fa fb m v) (hlen : (pa fa fb m u v).length < n) (hn : n ≤ 32) (hway : WayOK u (pa fa fb m u v) x) (hw : w.toInt = ((pa fa fb m u v).length : Int)) : Ok (Wb_m_landSince x w) (fun r => r.toInt = sncE (byK fa fb u v 0) m) := by
  have hlt : ∀ t, t ∈ lks (pa fa fb m u v) → t < m := pa_red.2
  unfold Wb_m_landSince
  refine Ok_for (pa fa fb m u v).length (fun j c => ∃ K : Nat, c.toInt = (K : Int) - 1 ∧ K ≤ m ∧ ∀ k, k ≤ m → ((∀ (i t : Nat), i < j → (lks (pa fa fb m u v))[i]? = some t → t < k) ↔ K ≤ k)) (by omega) i32_0 ⟨0, i32_m1, Nat.zero_le m, fun k _ => ⟨fun _ => Nat.zero_le k, fun _ i t hi => absurd hi (Nat.not_lt_zero i)⟩⟩ ?_ ?_
  · intro j c i hj hi ⟨K, hK, hKm, hKk⟩
    dsimp only [Wb_m_landSince_s4]
    obtain ⟨t, ht⟩ := getE (P := lks (pa fa fb m u v)) (i := j) (by rw [lks_len]; exact hj)
    have hwl := way_link hway ht
    have htm := hlt t (List.mem_of_getElem? ht)
    refine Ok_ite (fun q => by rw [i32_le] at q; omega) (fun _ => Ok_rdb hi (by omega) (Ok_some ⟨nx_s hi (by omega), max K (t + 1), ?_, by omega, fun k hk => ?_⟩))
    · rw [maxI hK hwl]; omega
    · constructor
      · intro h
        have h1 := (hKk k hk).mp (fun i t hi => h i t (by omega))
        have h2 := h j t (Nat.lt_succ_self j) ht
        omega
      · intro h i t2 hi2 ht2
        by_cases e : i = j
        · rw [e, ht] at ht2
          have := Option.some.inj ht2
          omega
        · exact (hKk k hk).mpr (by omega) i t2 (by omega) ht2
  · intro c i hi ⟨K, hK, hKm, hKk⟩
    dsimp only [Wb_m_landSince_s4]
    refine Ok_ite (fun _ => Ok_omap (Ok_some ?_)) (fun q => by rw [i32_le] at q; omega)
    have hs : sncE (byK fa fb u v 0) m = (K : Int) := by
      refine sncE_some hKm (fun k hk => ?_)
      show ld fa fb k u = ld fa fb k v ↔ _
      rw [land_time hk hld, ← hKk k hk]
      constructor
      · intro h i t _ ht; exact h t (List.mem_of_getElem? ht)
      · intro h t ht
        obtain ⟨i, hi⟩ := List.getElem?_of_mem ht
        have := (List.getElem?_eq_some_iff.mp hi).1
        rw [lks_len] at this
        exact h i t this hi
    show (c + 1).toInt = _
    rw [hs]
    exact inc1 hK (by omega)
theorem blockSince_ok {x : WbS} {w : Int32} (hm : m ≤ 64) (hE : EndOK m fa fb x) (hld : ld fa fb m u = ld fa fb m v) (hlen : (pa fa fb m u v).length < n) (hn : n ≤ 32) (hway : WayOK u (pa fa fb m u v) x) (hw : w.toInt = ((pa fa fb m u v).length : Int)) : Ok (Wb_m_blockSince x w) (fun r => r.toInt = sncE (safe fa fb · u v) m) := by
  have hlt : ∀ t, t ∈ lks (pa fa fb m u v) → t < m := pa_red.2
  unfold Wb_m_blockSince
  refine Ok_for (pa fa fb m u v).length (fun j c => ∃ K : Nat, c.toInt = (K : Int) - 1 ∧ K ≤ m ∧ ∀ k, k ≤ m → ((∀ (i t : Nat), i < j → (lks (pa fa fb m u v))[i]? = some t → hC fa fb m t ≠ -1 ∧ hC fa fb m t < k) ↔ K ≤ k)) (by omega) i32_0 ⟨0, i32_m1, Nat.zero_le m, fun k _ => ⟨fun _ => Nat.zero_le k, fun _ i t hi => absurd hi (Nat.not_lt_zero i)⟩⟩ ?_ ?_
  · intro j c i hj hi ⟨K, hK, hKm, hKk⟩
    dsimp only [Wb_m_blockSince_s4]
    obtain ⟨t, ht⟩ := getE (P := lks (pa fa fb m u v)) (i := j) (by rw [lks_len]; exact hj)
    have hwl := way_link hway ht
    have htp := List.mem_of_getElem? ht
    have htm := hlt t htp
    have hge := hC_ge (fa := fa) (fb := fb) (m := m) (t := t)
    refine Ok_ite (fun q => by rw [i32_le] at q; omega) (fun _ => Ok_rdb hi (by omega) (Ok_tf (isBrC_ok hE hm hwl htm) (fun q => Ok_omap (Ok_some ?_)) (fun q => Ok_rdb hi (by omega) (Ok_rdb hwl (by omega) (Ok_some ⟨nx_s hi (by omega), ?_⟩)))))
    · show (-1 : Int32).toInt = _
      rw [i32_m1]
      exact (sncE_none (fun k hk z => ((safe_time hk hld).mp z t htp).1 ((hC_brg htm).mpr q))).symm
    · have hnb : hC fa fb m t ≠ -1 := fun z => q ((hC_brg htm).mp z)
      obtain ⟨h, hh⟩ : ∃ h : Nat, hC fa fb m t = (h : Int) := ⟨(hC fa fb m t).toNat, by omega⟩
      refine ⟨max K (h + 1), ?_, by omega, fun k hk => ?_⟩
      · show (if c < Wb_endedBy x t then Wb_endedBy x t else c).toInt = _
        rw [maxI hK (hE t htm), hh]; omega
      · constructor
        · intro z
          have h1 := (hKk k hk).mp (fun i t hi => z i t (by omega))
          have h2 := z j t (Nat.lt_succ_self j) ht
          omega
        · intro z i t2 hi2 ht2
          by_cases e : i = j
          · rw [e, ht] at ht2
            have := Option.some.inj ht2
            rw [← this]
            exact ⟨hnb, by omega⟩
          · exact (hKk k hk).mpr (by omega) i t2 (by omega) ht2
  · intro c i hi ⟨K, hK, hKm, hKk⟩
    dsimp only [Wb_m_blockSince_s4]
    refine Ok_ite (fun _ => Ok_omap (Ok_some ?_)) (fun q => by rw [i32_le] at q; omega)
    have hs : sncE (safe fa fb · u v) m = (K : Int) := by
      refine sncE_some hKm (fun k hk => ?_)
      rw [safe_time hk hld, ← hKk k hk]
      constructor
      · intro h i t _ ht; exact h t (List.mem_of_getElem? ht)
      · intro h t ht
        obtain ⟨i, hi⟩ := List.getElem?_of_mem ht
        have := (List.getElem?_eq_some_iff.mp hi).1
        rw [lks_len] at this
        exact h i t this hi
    show (c + 1).toInt = _
    rw [hs]
    exact inc1 hK (by omega)
/-- one link between: double-safe is safe -/
theorem dsf_one (hne : ∀ l, l < m → fa l ≠ fb l) (hk : k ≤ m) (huv : u ≠ v) (hl : ld fa fb m u = ld fa fb m v) (h1 : (pa fa fb m u v).length = 1) : dsf fa fb k u v ↔ safe fa fb k u v := by
  rw [dsf_iff (fun l hl2 => hne l (by omega)) huv]
  unfold safe
  refine and_congr_right (fun h => ?_)
  have hp : pa fa fb k u v = pa fa fb m u v := (pa_later h hk).symm
  rw [hp]
  constructor
  · intro z t ht; exact (z t ht).1
  · intro z t ht
    refine ⟨z t ht, fun s hs => ?_⟩
    have hlen : (lks (pa fa fb m u v)).length = 1 := by rw [lks_len]; exact h1
    obtain ⟨a, ha⟩ := List.length_eq_one_iff.mp hlen
    rw [ha, List.mem_singleton] at ht hs
    rw [ht, hs]
theorem ringSince_ok {x : WbS} {w : Int32} (hne : ∀ l, l < m → fa l ≠ fb l) (huv : u ≠ v) (hm : m ≤ 64) (hE : EndOK m fa fb x) (hPx : NmOK 64 m (hP fa fb m) (Wb_parts x)) (hld : ld fa fb m u = ld fa fb m v) (hlen : (pa fa fb m u v).length < n) (hn : n ≤ 32) (hway : WayOK u (pa fa fb m u v) x) (hw : w.toInt = ((pa fa fb m u v).length : Int)) : Ok (Wb_m_ringSince x w) (fun r => r.toInt = sncE (dsf fa fb · u v) m) := by
  have hlt : ∀ t, t ∈ lks (pa fa fb m u v) → t < m := pa_red.2
  have hpos : 0 < (pa fa fb m u v).length := List.length_pos_iff.mpr (pa_ne hld huv)
  unfold Wb_m_ringSince
  refine Ok_ieq hw i32_1 (fun e => ?_) (fun e => ?_)
  · refine Ok_then (blockSince_ok hm hE hld hlen hn hway hw) (fun g hg => Ok_some ?_)
    rw [hg]
    have h1 : (pa fa fb m u v).length = 1 := by omega
    unfold sncE
    rw [lea_congr (fun i hi => (dsf_one hne (show i ≤ m by omega) huv hld h1).symm)]
  · have h2 : 2 ≤ (pa fa fb m u v).length := by omega
    have hnd := pa_nodup hld
    refine Ok_forO 1 ((pa fa fb m u v).length - 1) (fun j c => ∃ K : Nat, c.toInt = (K : Int) - 1 ∧ K ≤ m ∧ ∀ k, k ≤ m → ((∀ (i a b : Nat), i < j → (lks (pa fa fb m u v))[i]? = some a → (lks (pa fa fb m u v))[i + 1]? = some b → N_of (hP fa fb k) a = N_of (hP fa fb k) b) ↔ K ≤ k)) (by omega) i32_1 ⟨0, i32_m1, Nat.zero_le m, fun k _ => ⟨fun _ => Nat.zero_le k, fun _ i a b hi => absurd hi (Nat.not_lt_zero i)⟩⟩ ?_ ?_
    · intro j c i hj hi ⟨K, hK, hKm, hKk⟩
      dsimp only [Wb_m_ringSince_s15]
      obtain ⟨a, ha⟩ := getE (P := lks (pa fa fb m u v)) (i := j) (by rw [lks_len]; omega)
      obtain ⟨b, hb⟩ := getE (P := lks (pa fa fb m u v)) (i := j + 1) (by rw [lks_len]; omega)
      have hwa := way_link hway ha
      have hwb := way_link hway hb
      have ham := hlt a (List.mem_of_getElem? ha)
      have hbm := hlt b (List.mem_of_getElem? hb)
      have hab : a ≠ b := by
        intro z
        rw [← z] at hb
        have := (List.getElem?_inj (i := j) (j := j + 1) (by rw [lks_len]; omega) hnd).mp (ha.trans hb.symm)
        omega
      have hi1 : (i - 1).toInt = (j : Int) := nx_d (k := j) (by rw [hi]; omega) (by omega)
      have hi2 : i.toInt = ((j + 1 : Nat) : Int) := by rw [hi]; omega
      refine Ok_ite (fun q => by rw [i32_le] at q; omega) (fun _ => Ok_rdb hi1 (by omega) (Ok_rdb hi2 (by omega) (Ok_then (meet_ok hPx hwa hwb ham hbm hab) (fun g hg => ?_))))
      rcases hg with ⟨z, hz1, hz2, hz3, hz4⟩ | ⟨hg1, hg2⟩
      · refine Ok_ieq hz2 i32_m1 (fun q => by omega) (fun _ => Ok_some ⟨?_, max K (z + 1), ?_, by omega, fun k hk => ?_⟩)
        · rw [nx_s hi (by omega)]
        · rw [maxI hK hz2]; omega
        · have hmk : N_of (hP fa fb k) a = N_of (hP fa fb k) b ↔ z + 1 ≤ k := by
            constructor
            · intro q
              refine Classical.byContradiction (fun q2 => hz4 k (by omega) q)
            · intro q
              exact hP_mono q hz3
          constructor
          · intro q
            have h5 := (hKk k hk).mp (fun i a b hi => q i a b (by omega))
            have h6 := hmk.mp (q j a b (Nat.lt_succ_self j) ha hb)
            omega
          · intro q i a2 b2 hi3 ha2 hb2
            by_cases e2 : i = j
            · rw [e2, ha] at ha2
              rw [e2, hb] at hb2
              rw [← Option.some.inj ha2, ← Option.some.inj hb2]
              exact hmk.mpr (by omega)
            · exact (hKk k hk).mpr (by omega) i a2 b2 (by omega) ha2 hb2
      · refine Ok_ieq hg1 i32_m1 (fun _ => Ok_omap (Ok_some ?_)) (fun q => absurd rfl q)
        show (-1 : Int32).toInt = _
        rw [i32_m1]
        refine (sncE_none (fun k hk z => hg2 ?_)).symm
        exact hP_mono hk ((dsf_time hne hk huv hld h2).mp z j a b ha hb)
    · intro c i hi ⟨K, hK, hKm, hKk⟩
      dsimp only [Wb_m_ringSince_s15]
      refine Ok_ite (fun _ => Ok_omap (Ok_some ?_)) (fun q => by rw [i32_le] at q; omega)
      have hs : sncE (dsf fa fb · u v) m = (K : Int) := by
        refine sncE_some hKm (fun k hk => ?_)
        rw [dsf_time hne hk huv hld h2, ← hKk k hk]
        constructor
        · intro h i a b _ ha hb; exact h i a b ha hb
        · intro h i a b ha hb
          have := (List.getElem?_eq_some_iff.mp hb).1
          rw [lks_len] at this
          exact h i a b (by omega) ha hb
      show (c + 1).toInt = _
      rw [hs]
      exact inc1 hK (by omega)
theorem pc_since : PC_since Inv := by
  intro X M ⟨n, m, fa, fb, hv, hc, hr, hd⟩ v1 v2 v3
  apply pcX
  have hT : Rd n m fa fb M (Md_set_told M 0) := Rd_told hr
  have hn := hv.2.1
  have hm := hv.2.2.1
  have hV := hv.2.2.2.1
  have hA := areTwoC_ok (w1 := v1) (w2 := v2) hc
  have hBx := areTwoR_ok (x := Md_set_told M 0) (w1 := v1) (w2 := v2) hr.1
  have hin := isInt_ok (x := Md_set_told M 0) (w := v3) i64_0 i64_2
  unfold SB_m_since Md_m_since
  by_cases h2 : (0 ≤ v1.toInt ∧ v1.toInt < n) ∧ (0 ≤ v2.toInt ∧ v2.toInt < n) ∧ v1.toInt ≠ v2.toInt
  · refine T2_t1 hA h2 (T2_t2 hBx h2 ?_)
    have hu : v1.toInt = (v1.toInt.toNat : Int) := by omega
    have hw : v2.toInt = (v2.toInt.toNat : Int) := by omega
    have hun : v1.toInt.toNat < n := by omega
    have hwn : v2.toInt.toNat < n := by omega
    have huv : v1.toInt.toNat ≠ v2.toInt.toNat := by omega
    generalize v1.toInt.toNat = u at *
    generalize v2.toInt.toNat = v at *
    refine T2_b1 (traceX_ok hv hc hu hw hun hwn) (fun gt hgt => ?_)
    obtain ⟨hXd, hW, hgt⟩ := hgt
    by_cases h3 : 0 ≤ v3.toInt ∧ v3.toInt ≤ 2
    · refine T2_t2 hin h3 ?_
      have hR := sinceR_ok (w3 := v3) hv hT hu hw hun hwn
      rcases hgt with ⟨hld, e⟩ | ⟨hld, e, hlen, hway⟩
      · refine T2_p1 e ?_
        have hs : sncE (byK fa fb u v v3.toInt) m = -1 := by
          refine sncE_none (fun k hk z => hld ?_)
          unfold byK at z
          by_cases q0 : v3.toInt = 0
          · rw [if_pos q0] at z; exact ld_mono hk z
          · rw [if_neg q0] at z
            by_cases q1 : v3.toInt = 1
            · rw [if_pos q1] at z; exact ld_mono hk z.1
            · rw [if_neg q1] at z
              exact ld_mono hk ((dsf_iff (fun l hl => hv.2.2.2.2 l (by omega)) huv).mp z).1
        rw [hs] at hR
        exact ansX hv hd (E := -1) (Ok_some ⟨i32_m1, hXd⟩) hR
      · refine T2_n1 (fun z => by rw [z, i32_m1] at e; omega) ?_
        by_cases q0 : v3 = 0
        · refine T2_p1 q0 (ansX hv hd (Ok_then (landSince_ok hm hld hlen hn hway e) (fun g hg => Ok_some ⟨hg, hXd⟩)) ?_)
          have hK : v3.toInt = 0 := by rw [q0]; rfl
          rw [hK] at hR
          exact hR
        · refine T2_n1 q0 ?_
          by_cases q1 : v3 = 1
          · refine T2_p1 q1 (ansX hv hd (Ok_then (blockSince_ok hm hW.2.2.1 hld hlen hn hway e) (fun g hg => Ok_some ⟨hg, hXd⟩)) ?_)
            have hK : v3.toInt = 1 := by rw [q1]; rfl
            rw [hK, by1] at hR
            exact hR
          · refine T2_n1 q1 ?_
            by_cases q2 : v3 = 2
            · refine T2_p1 q2 (ansX hv hd (Ok_then (ringSince_ok hv.2.2.2.2 huv hm hW.2.2.1 hW.2.2.2.2.2.2 hld hlen hn hway e) (fun g hg => Ok_some ⟨hg, hXd⟩)) ?_)
              have hK : v3.toInt = 2 := by rw [q2]; rfl
              rw [hK, by2] at hR
              exact hR
            · exfalso
              have z0 : v3.toInt ≠ 0 := fun e => q0 (i32_ext (by rw [e]; rfl))
              have z1 : v3.toInt ≠ 1 := fun e => q1 (i32_ext (by rw [e]; rfl))
              have z2 : v3.toInt ≠ 2 := fun e => q2 (i32_ext (by rw [e]; rfl))
              omega
    · refine T2_f2 hin h3 ?_
      have hend : T2 (fun (r : Int32 × SBS) (q : Int32 × MdS) => q.1 = r.1 ∧ Inv r.2 q.2) (some (-1, SB_set_now X gt.2)) (some (-1, Md_set_told M 0)) := T2_some ⟨rfl, Inv_ofX hv hXd hd hT⟩
      by_cases e : gt.1 = -1
      · exact T2_p1 e hend
      · refine T2_n1 e ?_
        have z0 : v3 ≠ 0 := fun e => h3 (by rw [e]; decide)
        have z1 : v3 ≠ 1 := fun e => h3 (by rw [e]; decide)
        have z2 : v3 ≠ 2 := fun e => h3 (by rw [e]; decide)
        exact T2_n1 z0 (T2_n1 z1 (T2_n1 z2 hend))
  · exact T2_f1 hA h2 (T2_f2 hBx h2 (T2_some ⟨rfl, Inv_of hv hc hd hT⟩))
end K8
