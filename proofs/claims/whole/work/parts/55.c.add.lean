/-! CLASS 5: Web: a link comes -/
section W57
variable {fa fb : Nat → Nat} {n k u v a b y t r e o c : Nat} {x : WbS} {L M : List (Nat × Nat)}
theorem joinLands_ok (hV : Vd fa fb n (k + 1)) (hn : n ≤ 32) (hk : k ≤ 64) (hT : TL fa fb k) (hTr : TrOK n k fa fb x) (hE : EndOK k fa fb x) (hL0 : NmOK 32 n (hL n fa fb k) (Wb_lands x)) {w1 w2 w3 : Int32} (h1 : w1.toInt = (fa k : Int)) (h2 : w2.toInt = (fb k : Int)) (h3 : w3.toInt = (k : Int)) :
    Ok (Wb_m_joinLands x w1 w2 w3) (fun q => ∃ f g t la, q = Wb_set_lands (Wb_set_turned (Wb_set_upLink (Wb_set_up x f) g) t) la ∧ NmOK 32 n (hL n fa fb (k + 1)) la ∧ (∀ v, v < n → (f v).toInt = (up1 n fa fb (k + 1) v).1 ∧ (g v).toInt = (up1 n fa fb (k + 1) v).2) ∧
      t.toInt = 1 + ((fw fa fb (qb fa fb k) k (tE n fa fb k) (hR n fa fb k (tE n fa fb k))).length : Int)) := by
  have hV' : Vd fa fb n k := Vd_le hV (Nat.le_succ k)
  have hvk := hV k (Nat.lt_succ_self k)
  have ho := hL0.2.2.1.2.1
  have hI := NI_L (n := n) (k := k) hV'
  have ou := ho (fa k) hvk.1
  have ov := ho (fb k) hvk.2
  have nu := (hI.1 (fa k) hvk.1).1
  have nv := (hI.1 (fb k) hvk.2).1
  unfold Wb_m_joinLands
  refine Ok_rdb h1 (Nat.lt_of_lt_of_le hvk.1 hn) (Ok_rdb h2 (Nat.lt_of_lt_of_le hvk.2 hn) ?_)
  refine Ok_then (bit_ok (v := Nm_of (Wb_lands x) (fa k)) (by omega) (by omega)) (fun g24 h24 => Ok_then (bit_ok (v := Nm_of (Wb_lands x) (fb k)) (by omega) (by omega)) (fun g29 h29 => ?_))
  have hbit : ∀ j, j < n → bt64 (g24 ||| g29) j = sL fa fb (hL n fa fb k) k j := by
    intro j hj
    rw [bt64_or, h24 j (by omega), h29 j (by omega)]
    have e1 : (Nm_of (Wb_lands x) (fa k)).toInt.toNat = N_of (hL n fa fb k) (fa k) := by omega
    have e2 : (Nm_of (Wb_lands x) (fb k)).toInt.toNat = N_of (hL n fa fb k) (fb k) := by omega
    rw [e1, e2]
    unfold sL
    rfl
  refine Ok_then (keeper_ok hL0 hbit) (fun g41 h41 => ?_)
  have hS : sL fa fb (hL n fa fb k) k (N_of (hL n fa fb k) (fa k)) = true := by simp [sL]
  obtain ⟨K, hK, hSK, hkp, hjn⟩ := jn_some (s := hL n fa fb k) (l := k) nu hS
  rw [hkp] at h41
  have h41 : g41.toInt = (K : Int) := h41
  have hLs : hL n fa fb (k + 1) = jn n (hL n fa fb k) (sL fa fb (hL n fa fb k) k) k := by rw [hL_s, if_neg hT]
  have hofK : N_of (hL n fa fb (k + 1)) (fa k) = K := by
    rw [hLs, hjn]
    show (if sL fa fb (hL n fa fb k) k (N_of (hL n fa fb k) (fa k)) = true then K else N_of (hL n fa fb k) (fa k)) = K
    rw [if_pos hS]
  have hSl : ∀ b, b < n → sL fa fb (hL n fa fb k) k b = true → N_of (hL n fa fb k) b = b := by
    intro b _ hSb
    simp only [sL, Bool.or_eq_true, beq_iff_eq] at hSb
    rcases hSb with rfl | rfl
    · exact (hI.1 _ hvk.1).2
    · exact (hI.1 _ hvk.2).2
  have fin : ∀ (e o : Nat) (wa wb : Int32), e = tE n fa fb k → o = tO n fa fb k → e < n → wa.toInt = (e : Int) → wb.toInt = (o : Int) → Ok ((Wb_m_turn x wa wb w3).bind fun g53 => Wb_m_joinLands_j66 g53 w3 (g24 ||| g29)) (fun q => ∃ f g t la, q = Wb_set_lands (Wb_set_turned (Wb_set_upLink (Wb_set_up x f) g) t) la ∧ NmOK 32 n (hL n fa fb (k + 1)) la ∧ (∀ v, v < n → (f v).toInt = (up1 n fa fb (k + 1) v).1 ∧ (g v).toInt = (up1 n fa fb (k + 1) v).2) ∧
      t.toInt = 1 + ((fw fa fb (qb fa fb k) k (tE n fa fb k) (hR n fa fb k (tE n fa fb k))).length : Int)) := by
    intro e o wa wb he ho' hen ha hb
    refine Ok_then (turn_ok hV' hn hk hTr hE hen ha hb h3) (fun q hq => ?_)
    obtain ⟨f, g, t, hq, hfg, ht⟩ := hq
    subst hq
    unfold Wb_m_joinLands_j66
    refine Ok_then (join_ok (S := sL fa fb (hL n fa fb k) k) (l := k) (s := hL n fa fb k) (N := n) hL0 hbit h3 hI hSl) (fun la hla => Ok_some ⟨f, g, t, la, rfl, ?_, fun v hv => ?_, ?_⟩)
    · rw [hLs]; exact hla
    · have := hfg v hv
      rw [he, ho', Tr_tree hV hT hv] at this
      exact this
    · rw [ht, he]
  have hen : tE n fa fb k < n ∧ tO n fa fb k < n := isE_lt hV (Nat.lt_succ_self k) tEO
  refine Ok_ite (fun q => ?_) (fun q => ?_)
  · rw [i32_eq, h41, ou] at q
    have hc : N_of (hL n fa fb (k + 1)) (fa k) = N_of (hL n fa fb k) (fa k) := by rw [hofK]; omega
    refine fin (fb k) (fa k) w2 w1 ?_ ?_ hvk.2 h2 h1
    · unfold tE; rw [if_pos hc]
    · unfold tO; rw [if_pos hc]
  · have hc : ¬ N_of (hL n fa fb (k + 1)) (fa k) = N_of (hL n fa fb k) (fa k) := fun z => q (i32_ext (by rw [h41, ou, ← z, hofK]))
    refine fin (fa k) (fb k) w1 w2 ?_ ?_ hvk.1 h1 h2
    · unfold tE; rw [if_neg hc]
    · unfold tO; rw [if_neg hc]
theorem take_s {α : Type} {P : List α} {i : Nat} {s : α} (h : P[i]? = some s) : P.take (i + 1) = P.take i ++ [s] := by
  rw [List.take_add_one, h]; rfl
theorem getE {α : Type} {P : List α} {i : Nat} (h : i < P.length) : ∃ s, P[i]? = some s := ⟨P[i], List.getElem?_eq_getElem h⟩
theorem nds_get {u i : Nat} {P : List (Nat × Nat)} {s : Nat × Nat} (h : P[i]? = some s) : (nds u P)[i + 1]? = some s.2 := by
  unfold nds
  rw [List.getElem?_cons_succ, List.getElem?_map, h]; rfl
/-- the nodes of the way by places -/
theorem way_node {P : List (Nat × Nat)} (h : WayOK u P x) {i w : Nat} (hi : (nds u P)[i]? = some w) : (Wb_wayNode x i).toInt = (w : Int) := by
  cases i with
  | zero =>
    have : u = w := by simpa [nds] using hi
    rw [← this]; exact h.1
  | succ i =>
    unfold nds at hi
    rw [List.getElem?_cons_succ, List.getElem?_map] at hi
    cases hs : P[i]? with
    | none => rw [hs] at hi; cases hi
    | some s =>
      rw [hs] at hi
      have : s.2 = w := by simpa using hi
      rw [← this]; exact (h.2 i s hs).2
/-- the names on the way as bits -/
theorem blocksOnWay_ok {s : NSt} {P : List (Nat × Nat)} (hB : NmOK 32 n s (Wb_blocks x)) (hW : WayOK u P x) (hP : P.length < 32) (hlt : ∀ y, y ∈ nds u P → y < n) (hs : ∀ y, y < n → N_of s y < n) {w : Int32} (hw : w.toInt = (P.length : Int)) :
    Ok (Wb_m_blocksOnWay x w) (fun q => ∀ j, j < 64 → bt64 q j = (nds u P).any (fun y => N_of s y == j)) := by
  have ho := hB.2.2.1.2.1
  have hn := hB.1
  unfold Wb_m_blocksOnWay
  refine Ok_for (P.length + 1) (fun i (m : Int64) => ∀ j, j < 64 → bt64 m j = ((nds u P).take i).any (fun y => N_of s y == j)) (by omega) i32_0 (fun j _ => bt64_0 j) ?_ ?_
  · intro i m c hi hc hm
    dsimp only [Wb_m_blocksOnWay_s5]
    refine Ok_ite (fun q => by rw [i32_lt] at q; omega) (fun _ => ?_)
    obtain ⟨y, hy⟩ := getE (P := nds u P) (i := i) (by rw [nds_len]; exact hi)
    have hyn := hlt y (List.mem_of_getElem? hy)
    have hsy := hs y hyn
    refine Ok_rdb hc (by omega) (Ok_rdb (way_node hW hy) (by omega) ?_)
    have oy := ho y hyn
    refine Ok_then (bit_ok (v := Nm_of (Wb_blocks x) y) (by omega) (by omega)) (fun g hg => Ok_some ⟨nx_s hc (by omega), fun j hj => ?_⟩)
    show bt64 (m ||| g) j = _
    rw [bt64_or, hm j hj, hg j hj, take_s hy, List.any_append]
    have e : (Nm_of (Wb_blocks x) y).toInt.toNat = N_of s y := by omega
    rw [e]
    congr 1
    simp only [List.any_cons, List.any_nil, Bool.or_false]
    by_cases d : j = N_of s y
    · rw [decide_eq_true d, d]; simp
    · rw [decide_eq_false d]
      have : ¬ N_of s y = j := fun z => d z.symm
      simp [this]
  · intro m c hc hm
    dsimp only [Wb_m_blocksOnWay_s5]
    refine Ok_ite (fun _ => Ok_omap (Ok_some (fun j hj => ?_))) (fun q => by rw [i32_lt] at q; omega)
    have := hm j hj
    rw [← nds_len (u := u), List.take_length] at this
    exact this
def FirOK (m : Nat) (fa fb : Nat → Nat) (x : WbS) : Prop := ∀ l, l < m → (Wb_first x l).toInt = (fa l : Int) ∧ (Wb_second x l).toInt = (fb l : Int)
def WbOK (n m : Nat) (fa fb : Nat → Nat) (x : WbS) : Prop :=
  (Wb_links x).toInt = (m : Int) ∧ FirOK m fa fb x ∧ EndOK m fa fb x ∧ TrOK n m fa fb x ∧ NmOK 32 n (hB n fa fb m) (Wb_blocks x) ∧ NmOK 32 n (hL n fa fb m) (Wb_lands x) ∧ NmOK 64 m (hP fa fb m) (Wb_parts x)
def LatOK (n k : Nat) (fa fb : Nat → Nat) (x : WbS) : Prop :=
  (TL fa fb k → (Wb_turned x).toInt = 1 + ((fw fa fb (qb fa fb k) k (tE n fa fb k) (hR n fa fb k (tE n fa fb k))).length : Int) ∧ (Wb_joined x).toInt = 1) ∧
  (¬ TL fa fb k → (Wb_turned x).toInt = 0 ∧ (Wb_joined x).toInt = ((fw fa fb (qb fa fb k) k (fa k) (fb k)).length : Int) + 1) ∧
  (Wb_firstWas x).toInt = (N_of (hB n fa fb k) (fa k) : Int) ∧ (Wb_secondWas x).toInt = (N_of (hB n fa fb k) (fb k) : Int)
theorem fw_take {q : Nat → Bool} {P : List (Nat × Nat)} {i : Nat} {s : Nat × Nat} (h : P[i]? = some s) : ((P.take (i + 1)).filter (fun s => q s.1)).length = ((P.take i).filter (fun s => q s.1)).length + (if q s.1 = true then 1 else 0) := by
  rw [take_s h, List.filter_append, List.length_append]
  congr 1
  rw [List.filter_cons]
  by_cases c : q s.1 = true
  · rw [if_pos c, if_pos c]; rfl
  · rw [if_neg c, if_neg c]; rfl
theorem lks_get {P : List (Nat × Nat)} {i : Nat} {s : Nat × Nat} (h : P[i]? = some s) : (lks P)[i]? = some s.1 := by
  unfold lks
  rw [List.getElem?_map, h]; rfl
/-- a link is not among those ahead of its place -/
theorem nd_take {P : List (Nat × Nat)} {i : Nat} {s : Nat × Nat} (hn : (lks P).Nodup) (h : P[i]? = some s) : s.1 ∉ lks (P.take i) := by
  intro hm
  have e : lks P = lks (P.take i) ++ s.1 :: lks (P.drop (i + 1)) := by
    have h1 : P = P.take (i + 1) ++ P.drop (i + 1) := (List.take_append_drop _ _).symm
    rw [take_s h] at h1
    have := congrArg lks h1
    rw [lks_app, lks_app] at this
    rw [this]
    simp [lks]
  rw [e] at hn
  exact (List.nodup_append.mp hn).2.2 s.1 hm s.1 List.mem_cons_self rfl
theorem closeRing_ok (hV : Vd fa fb n (k + 1)) (hn : n ≤ 32) (hk : k < 64) (hT : ¬ TL fa fb k) (hB0 : NmOK 32 n (hB n fa fb k) (Wb_blocks x)) (hP0 : NmOK 64 (k + 1) (hP fa fb k) (Wb_parts x))
    (hE : EndOK k fa fb x) (hEk : (Wb_endedBy x k).toInt = (k : Int)) (hW : WayOK (fa k) (pa fa fb k (fa k) (fb k)) x) {w w3 : Int32} (hw : w.toInt = ((pa fa fb k (fa k) (fb k)).length : Int)) (h3 : w3.toInt = (k : Int)) :
    Ok (Wb_m_closeRing x w w3) (fun q => q.1.toInt = ((fw fa fb (qb fa fb k) k (fa k) (fb k)).length : Int) ∧ ∃ en jo bl pr, q.2 = Wb_set_parts (Wb_set_blocks (Wb_set_joined (Wb_set_endedBy x en) jo) bl) pr ∧ (∀ l, l < k + 1 → (en l).toInt = hC fa fb (k + 1) l) ∧
      jo.toInt = ((fw fa fb (qb fa fb k) k (fa k) (fb k)).length : Int) + 1 ∧ NmOK 32 n (hB n fa fb (k + 1)) bl ∧ NmOK 64 (k + 1) (hP fa fb (k + 1)) pr) := by
  have hV' : Vd fa fb n k := Vd_le hV (Nat.le_succ k)
  have hvk := hV k (Nat.lt_succ_self k)
  have hc := nt_ld hT
  have hlen := pa_len (v := fb k) hV' hvk.1 hc
  have hlen32 : (pa fa fb k (fa k) (fb k)).length < 32 := Nat.lt_of_lt_of_le hlen hn
  have hIB := NI_B (n := n) (k := k) hV'
  obtain ⟨hIP, hPf⟩ := hP_fresh (fa := fa) (fb := fb) (k := k)
  have hnds := nds_lt (n := n) (pa_W hc) (fun l q => hV' l q.1) hvk.1
  have hnd := pa_nodup hc
  have hPo := hP0.2.2.1.2.1
  unfold Wb_m_closeRing
  refine Ok_then (blocksOnWay_ok hB0 hW hlen32 hnds (fun y hy => (hIB.1 y hy).1) hw) (fun g2 hg2 => ?_)
  refine Ok_then (bit_ok (v := w3) (by omega) (by omega)) (fun g7 hg7 => ?_)
  have hmem : ∀ {i : Nat} {s : Nat × Nat}, (pa fa fb k (fa k) (fb k))[i]? = some s → s.1 < k := fun hs => pa_red.2 _ (List.mem_map_of_mem (List.mem_of_getElem? hs))
  -- the loop over the way's links
  refine Ok_upto (fun (i : Nat) (p : WbS × Int64 × Int32 × Int32) => p.2.2.2.toInt = (i : Int) ∧ p.2.2.1.toInt = ((((pa fa fb k (fa k) (fb k)).take i).filter (fun s => qb fa fb k s.1)).length : Int) ∧
      (∀ j, j < 64 → bt64 p.2.1 j = (j == k || (lks ((pa fa fb k (fa k) (fb k)).take i)).any (fun t => N_of (hP fa fb k) t == j))) ∧
      ∃ en, p.1 = Wb_set_endedBy x en ∧ ∀ l, l < k + 1 → (en l).toInt = if l = k then (k : Int) else if (lks ((pa fa fb k (fa k) (fb k)).take i)).contains l = true ∧ hC fa fb k l = -1 then (k : Int) else hC fa fb k l) (e := (pa fa fb k (fa k) (fb k)).length) (by omega) ?_ ?_ ?_
  · refine ⟨i32_0, i32_0, fun j hj => ?_, Wb_endedBy x, rfl, fun l hl => ?_⟩
    · show bt64 g7 j = _
      rw [hg7 j hj]
      have : w3.toInt.toNat = k := by omega
      rw [this]
      simp only [List.take_zero, lks, List.map_nil, List.any_nil, Bool.or_false]
      by_cases d : j = k <;> simp [d]
    · by_cases d : l = k
      · rw [if_pos d, d]; exact hEk
      · rw [if_neg d, if_neg (by simp [lks])]
        exact hE l (by omega)
  · intro i p hi ⟨hi1, hcn, hbt, en, hp0, hen⟩
    obtain ⟨y0, v5, v7, v8⟩ := p
    dsimp only at hi1 hcn hbt hp0
    subst hp0
    dsimp only [Wb_m_closeRing_s18]
    refine Ok_ite (fun q => by rw [i32_le] at q; omega) (fun _ => ?_)
    obtain ⟨s, hs⟩ := getE hi
    have hsk := hmem hs
    have hwl := (hW.2 i s hs).1
    have hpn := (hIP.1 s.1 hsk).1
    refine Ok_rdb hi1 (Nat.lt_trans hi hlen32) (Ok_rdb hwl (Nat.lt_trans hsk hk) ?_)
    have hop := hPo s.1 (Nat.lt_succ_of_lt hsk)
    refine Ok_then (bit_ok (v := Nm_of (Wb_parts x) s.1) (by omega) (by omega)) (fun g45 h45 => ?_)
    have hlk : lks ((pa fa fb k (fa k) (fb k)).take (i + 1)) = lks ((pa fa fb k (fa k) (fb k)).take i) ++ [s.1] := by rw [take_s hs, lks_app]; rfl
    have hbt' : ∀ j, j < 64 → bt64 (v5 ||| g45) j = (j == k || (lks ((pa fa fb k (fa k) (fb k)).take (i + 1))).any (fun t => N_of (hP fa fb k) t == j)) := by
      intro j hj
      rw [bt64_or, hbt j hj, h45 j hj, hlk, List.any_append, ← Bool.or_assoc]
      have e : (Nm_of (Wb_parts x) s.1).toInt.toNat = N_of (hP fa fb k) s.1 := by omega
      rw [e]
      congr 1
      simp only [List.any_cons, List.any_nil, Bool.or_false]
      by_cases d : j = N_of (hP fa fb k) s.1
      · rw [decide_eq_true d, d]; simp
      · rw [decide_eq_false d]
        have : ¬ N_of (hP fa fb k) s.1 = j := fun z => d z.symm
        simp [this]
    have hnt := nd_take hnd hs
    have hes : (en s.1).toInt = hC fa fb k s.1 := by
      rw [hen s.1 (Nat.lt_succ_of_lt hsk), if_neg (Nat.ne_of_lt hsk), if_neg]
      intro z
      exact hnt (by simpa using z.1)
    have hlenf : (((pa fa fb k (fa k) (fb k)).take i).filter (fun s => qb fa fb k s.1)).length < 32 := by
      have h5 := List.length_filter_le (fun s : Nat × Nat => qb fa fb k s.1) ((pa fa fb k (fa k) (fb k)).take i)
      rw [List.length_take] at h5
      omega
    have hft := fw_take (q := qb fa fb k) hs
    have hcont : ∀ l, (lks ((pa fa fb k (fa k) (fb k)).take (i + 1))).contains l = true ↔ ((lks ((pa fa fb k (fa k) (fb k)).take i)).contains l = true ∨ l = s.1) := by
      intro l
      rw [hlk]
      simp
    -- a bridge, or not
    have hbr : Ok (Wb_m_isBridge (Wb_set_endedBy x en) (Wb_wayLink x i)) (fun r => r = qb fa fb k s.1) := by
      unfold Wb_m_isBridge
      refine Ok_rdb hwl (Nat.lt_trans hsk hk) (Ok_ite (fun c => ?_) (fun c => ?_))
      · have c2 : (en s.1).toInt = -1 := by rw [show en s.1 = Wb_endedBy (Wb_set_endedBy x en) s.1 from rfl, c, i32_m1]
        rw [hes] at c2
        refine Ok_some ?_
        unfold qb
        rw [decide_eq_true c2]
      · have c2 : ¬ hC fa fb k s.1 = -1 := fun z => c (i32_ext (by rw [i32_m1, ← z, ← hes]; rfl))
        refine Ok_some ?_
        unfold qb
        rw [decide_eq_false c2]
    refine Ok_then hbr (fun g54 h54 => Ok_ite (fun q => ?_) (fun q => ?_))
    · rw [h54] at q
      have hqc : hC fa fb k s.1 = -1 := by unfold qb at q; simpa using q
      rw [if_pos q] at hft
      refine Ok_wrb hwl (Nat.lt_trans hsk hk) (Ok_some ⟨nx_s hi1 (mil (Nat.lt_trans hi hlen32)), ?_, hbt', va_up en s.1 w3, rfl, fun l hl => ?_⟩)
      · rw [hft]; exact nx_s hcn (mil hlenf)
      · by_cases d : l = s.1
        · rw [d, vu_s, if_neg (Nat.ne_of_lt hsk), if_pos ⟨(hcont s.1).mpr (Or.inr rfl), hqc⟩]; exact h3
        · rw [vu_n d, hen l hl]
          by_cases d2 : l = k
          · rw [if_pos d2, if_pos d2]
          · rw [if_neg d2, if_neg d2]
            by_cases d3 : (lks ((pa fa fb k (fa k) (fb k)).take i)).contains l = true ∧ hC fa fb k l = -1
            · rw [if_pos d3, if_pos ⟨(hcont l).mpr (Or.inl d3.1), d3.2⟩]
            · rw [if_neg d3, if_neg (fun z => d3 ⟨((hcont l).mp z.1).elim (fun y => y) (fun y => absurd y d), z.2⟩)]
    · rw [h54] at q
      have hqc : ¬ hC fa fb k s.1 = -1 := by unfold qb at q; simpa using q
      rw [if_neg q] at hft
      refine Ok_some ⟨nx_s hi1 (mil (Nat.lt_trans hi hlen32)), by rw [hft]; exact hcn, hbt', en, rfl, fun l hl => ?_⟩
      rw [hen l hl]
      by_cases d2 : l = k
      · rw [if_pos d2, if_pos d2]
      · rw [if_neg d2, if_neg d2]
        by_cases d3 : (lks ((pa fa fb k (fa k) (fb k)).take i)).contains l = true ∧ hC fa fb k l = -1
        · rw [if_pos d3, if_pos ⟨(hcont l).mpr (Or.inl d3.1), d3.2⟩]
        · rw [if_neg d3, if_neg (fun z => ?_)]
          rcases (hcont l).mp z.1 with y | y
          · exact d3 ⟨y, z.2⟩
          · rw [y] at z; exact hqc z.2
  · intro p ⟨hi1, hcn, hbt, en, hp0, hen⟩
    obtain ⟨y0, v5, v7, v8⟩ := p
    dsimp only at hi1 hcn hbt hp0
    subst hp0
    dsimp only [Wb_m_closeRing_s18]
    rw [List.take_length] at hcn hbt hen
    refine Ok_ite (fun _ => ?_) (fun q => by rw [i32_le] at q; omega)
    refine Ok_omap ?_
    have hSl : ∀ b, b < n → sB fa fb (hB n fa fb k) k b = true → N_of (hB n fa fb k) b = b := by
      intro b _ hSb
      obtain ⟨y, hy, he⟩ := List.any_eq_true.mp hSb
      have he : N_of (hB n fa fb k) y = b := by simpa using he
      rw [← he]
      exact (hIB.1 y (hnds y hy)).2
    have hg : NI (k + 1) (hP fa fb k) k := by
      obtain ⟨f0, f1, f2, f3⟩ := hPf k (Nat.le_refl k)
      exact NI_grow hIP f0 f1 f2 f3
    have hSp : ∀ b, b < k + 1 → sP fa fb (hP fa fb k) k b = true → N_of (hP fa fb k) b = b := by
      intro b _ hSb
      simp only [sP, Bool.or_eq_true, beq_iff_eq] at hSb
      rcases hSb with hb | hb
      · rw [hb]; exact (hPf k (Nat.le_refl k)).1
      · obtain ⟨t, ht, he⟩ := List.any_eq_true.mp hb
        have he : N_of (hP fa fb k) t = b := by simpa using he
        rw [← he]
        exact (hIP.1 t (pa_red.2 t ht)).2
    have hlf := List.length_filter_le (fun s : Nat × Nat => qb fa fb k s.1) (pa fa fb k (fa k) (fb k))
    refine Ok_then (join_ok (S := sB fa fb (hB n fa fb k) k) (l := k) (s := hB n fa fb k) (N := n) hB0 (fun j hj => hg2 j (by omega)) h3 hIB hSl) (fun bl hbl => ?_)
    refine Ok_then (join_ok (S := sP fa fb (hP fa fb k) k) (l := k) (s := hP fa fb k) (N := k + 1) hP0 (fun j hj => hbt j (by omega)) h3 hg hSp) (fun pr hpr => ?_)
    have hcn' : v7.toInt = ((fw fa fb (qb fa fb k) k (fa k) (fb k)).length : Int) := hcn
    have hl32 : (fw fa fb (qb fa fb k) k (fa k) (fb k)).length < 32 := Nat.lt_of_le_of_lt hlf hlen32
    refine Ok_some ⟨hcn', en, v7 + 1, bl, pr, rfl, fun l hl => ?_, ?_, ?_, ?_⟩
    · rw [hen l hl, hC_s, if_pos hc]
    · exact nx_s hcn' (mil hl32)
    · rw [hB_s, if_pos hc]; exact hbl
    · rw [hP_s, if_pos hc]; exact hpr
end W57
