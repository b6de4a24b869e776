/-! CLASS 6: Web: a link comes; all anew -/
section W58
variable {fa fb ga gb : Nat → Nat} {n k m u v a b y t r e o c : Nat} {x : WbS} {L M : List (Nat × Nat)}
def AdQ (n k : Nat) (fa fb : Nat → Nat) (F G : Nat → Int32) (q : Int32 × WbS) : Prop :=
  WbOK n (k + 1) fa fb q.2 ∧ LatOK n k fa fb q.2 ∧ (TL fa fb k → q.1 = -2) ∧ (¬ TL fa fb k → q.1.toInt = ((fw fa fb (qb fa fb k) k (fa k) (fb k)).length : Int)) ∧ Wb_first q.2 = F ∧ Wb_second q.2 = G
theorem va_end {f : Nat → Int32} {k l : Nat} {w : Int32} {g : Nat → Int} (h : ∀ l, l < k → (f l).toInt = g l) (hl : l < k) : (va_up f k w l).toInt = g l := by
  rw [vu_n (Nat.ne_of_lt hl)]
  exact h l hl
theorem add_tree (hV : Vd fa fb n (k + 1)) (hn : n ≤ 32) (hk : k < 64) (hT : TL fa fb k) {w1 w2 wl : Int32} (h1 : w1.toInt = (fa k : Int)) (h2 : w2.toInt = (fb k : Int)) (hli : wl.toInt = (k : Int)) {F G : Nat → Int32}
    (c1 : (Wb_links x).toInt = ((k + 1 : Nat) : Int)) (c2 : FirOK (k + 1) fa fb x) (c3 : EndOK k fa fb x) (c4 : TrOK n k fa fb x) (c5 : NmOK 32 n (hB n fa fb k) (Wb_blocks x)) (c6 : NmOK 32 n (hL n fa fb k) (Wb_lands x)) (c7 : NmOK 64 (k + 1) (hP fa fb k) (Wb_parts x))
    (c8 : (Wb_firstWas x).toInt = (N_of (hB n fa fb k) (fa k) : Int)) (c9 : (Wb_secondWas x).toInt = (N_of (hB n fa fb k) (fb k) : Int)) (c10 : (Wb_joined x).toInt = 1) (c11 : Wb_first x = F) (c12 : Wb_second x = G) :
    Ok ((wr (Wb_endedBy x) 64 wl (-1)).bind fun f103 => (Wb_m_joinLands (Wb_set_endedBy x f103) w1 w2 wl).bind fun g108 => some ((-2 : Int32), g108)) (AdQ n k fa fb F G) := by
  refine Ok_wrb hli hk ?_
  refine Ok_then (joinLands_ok (n := n) (k := k) (fa := fa) (fb := fb) (x := Wb_set_endedBy x (va_up (Wb_endedBy x) k (-1))) hV hn (Nat.le_of_lt hk) hT c4 (fun l hl => va_end c3 hl) c6 h1 h2 hli) (fun g108 h108 => ?_)
  obtain ⟨f, g, t, la, h108, hla, hfg, ht⟩ := h108
  subst h108
  refine Ok_some ⟨⟨c1, c2, fun l hl => ?_, ⟨c4.1, hfg⟩, ?_, hla, ?_⟩, ⟨fun _ => ⟨ht, c10⟩, fun z => absurd hT z, c8, c9⟩, fun _ => rfl, fun z => absurd hT z, c11, c12⟩
  · show (va_up (Wb_endedBy x) k (-1) l).toInt = _
    rw [hC_s, if_neg hT]
    by_cases e : l = k
    · subst e
      rw [vu_s, i32_m1]
      rcases hC_ge (fa := fa) (fb := fb) (m := l) (t := l) with c | c
      · exact c.symm
      · omega
    · rw [vu_n e]; exact c3 l (by omega)
  · rw [hB_s, if_neg hT]; exact c5
  · rw [hP_s, if_neg hT]; exact c7
theorem add_ring (hV : Vd fa fb n (k + 1)) (hn : n ≤ 32) (hk : k < 64) (hT : ¬ TL fa fb k) {wl ws : Int32} (hli : wl.toInt = (k : Int)) (hws : ws.toInt = ((pa fa fb k (fa k) (fb k)).length : Int)) {F G : Nat → Int32}
    (c1 : (Wb_links x).toInt = ((k + 1 : Nat) : Int)) (c2 : FirOK (k + 1) fa fb x) (c3 : EndOK k fa fb x) (c4 : TrOK n k fa fb x) (c5 : NmOK 32 n (hB n fa fb k) (Wb_blocks x)) (c6 : NmOK 32 n (hL n fa fb k) (Wb_lands x)) (c7 : NmOK 64 (k + 1) (hP fa fb k) (Wb_parts x))
    (c8 : (Wb_firstWas x).toInt = (N_of (hB n fa fb k) (fa k) : Int)) (c9 : (Wb_secondWas x).toInt = (N_of (hB n fa fb k) (fb k) : Int)) (c10 : (Wb_turned x).toInt = 0) (c11 : Wb_first x = F) (c12 : Wb_second x = G) (c13 : WayOK (fa k) (pa fa fb k (fa k) (fb k)) x) :
    Ok ((wr (Wb_endedBy x) 64 wl wl).bind fun f120 => (Wb_m_closeRing (Wb_set_endedBy x f120) ws wl).bind fun g125 => some (g125.1, g125.2)) (AdQ n k fa fb F G) := by
  refine Ok_wrb hli hk ?_
  refine Ok_then (closeRing_ok (n := n) (k := k) (fa := fa) (fb := fb) (x := Wb_set_endedBy x (va_up (Wb_endedBy x) k wl)) hV hn hk hT c5 c7 (fun l hl => va_end c3 hl) (by show (va_up (Wb_endedBy x) k wl k).toInt = _; rw [vu_s]; exact hli) c13 hws hli) (fun g125 h125 => ?_)
  obtain ⟨r1, r2⟩ := g125
  obtain ⟨hr, en, jo, bl, pr, h125, hen, hjo, hbl, hpr⟩ := h125
  dsimp only at h125 hr
  subst h125
  refine Ok_some ⟨⟨c1, c2, hen, ⟨c4.1, fun w hw => ?_⟩, hbl, ?_, hpr⟩, ⟨fun z => absurd z hT, fun _ => ⟨c10, hjo⟩, c8, c9⟩, fun z => absurd z hT, fun _ => hr, c11, c12⟩
  · rw [up1_close hV hT hw]; exact c4.2 w hw
  · rw [hL_s, if_pos (nt_ld hT)]; exact c6
theorem add_ok (hV : Vd fa fb n (k + 1)) (hn : n ≤ 32) (hk : k < 64) (hW : WbOK n k fa fb x) {w1 w2 : Int32} (h1 : w1.toInt = (fa k : Int)) (h2 : w2.toInt = (fb k : Int)) :
    Ok (Wb_m_add x w1 w2) (AdQ n k fa fb (va_up (Wb_first x) k w1) (va_up (Wb_second x) k w2)) := by
  have hV' : Vd fa fb n k := Vd_le hV (Nat.le_succ k)
  have hvk := hV k (Nat.lt_succ_self k)
  obtain ⟨hli, hfi, hE, hTr, hB0, hL0, hP0⟩ := hW
  have hu32 := Nat.lt_of_lt_of_le hvk.1 hn
  have hv32 := Nat.lt_of_lt_of_le hvk.2 hn
  have hPf := (hP_fresh (fa := fa) (fb := fb) (k := k)).2 k (Nat.le_refl k)
  have hcl : (Wb_links x + 1).toInt = ((k + 1 : Nat) : Int) := nx_s hli (Nat.lt_trans hk (by decide))
  unfold Wb_m_add
  refine Ok_ite (fun _ => ?_) (fun q => by
    rw [i32_lt, hli, i32_64] at q; omega)
  refine Ok_wrb hli hk (Ok_wrb hli hk (Ok_rdb h1 hu32 (Ok_rdb h2 hv32 ?_)))
  refine Ok_then (begin_ok (L := 64) (N := k) (s := hP fa fb k) hP0 hk hPf) (fun g80 h80 => ?_)
  have hfir : ∀ l, l < k + 1 → (va_up (Wb_first x) k w1 l).toInt = (fa l : Int) ∧ (va_up (Wb_second x) k w2 l).toInt = (fb l : Int) := by
    intro l hl
    by_cases e : l = k
    · subst e
      refine ⟨?_, ?_⟩
      · show (va_up (Wb_first x) l w1 l).toInt = _
        rw [vu_s]; exact h1
      · show (va_up (Wb_second x) l w2 l).toInt = _
        rw [vu_s]; exact h2
    · have := hfi l (by omega)
      refine ⟨?_, ?_⟩
      · show (va_up (Wb_first x) k w1 l).toInt = _
        rw [vu_n e]; exact this.1
      · show (va_up (Wb_second x) k w2 l).toInt = _
        rw [vu_n e]; exact this.2
  have d8 := hB0.2.2.1.2.1 (fa k) hvk.1
  have d9 := hB0.2.2.1.2.1 (fb k) hvk.2
  -- the web ahead of the trace, by its rows alone
  have key : ∀ y : WbS, (Wb_links y).toInt = ((k + 1 : Nat) : Int) → EndOK k fa fb y → TrOK n k fa fb y → NmOK 32 n (hB n fa fb k) (Wb_blocks y) → NmOK 32 n (hL n fa fb k) (Wb_lands y) → NmOK 64 (k + 1) (hP fa fb k) (Wb_parts y) →
      (Wb_firstWas y).toInt = (N_of (hB n fa fb k) (fa k) : Int) → (Wb_secondWas y).toInt = (N_of (hB n fa fb k) (fb k) : Int) → (Wb_turned y).toInt = 0 → (Wb_joined y).toInt = 1 → Wb_first y = va_up (Wb_first x) k w1 → Wb_second y = va_up (Wb_second x) k w2 →
      Ok ((Wb_m_trace y w1 w2).bind fun g86 => if g86.1 = (-1) then ((wr (Wb_endedBy g86.2) 64 (Wb_links x) (-1)).bind fun f103 => (Wb_m_joinLands (Wb_set_endedBy g86.2 f103) w1 w2 (Wb_links x)).bind fun g108 => some ((-2), g108)) else ((wr (Wb_endedBy g86.2) 64 (Wb_links x) (Wb_links x)).bind fun f120 => (Wb_m_closeRing (Wb_set_endedBy g86.2 f120) g86.1 (Wb_links x)).bind fun g125 => some (g125.1, g125.2))) (AdQ n k fa fb (va_up (Wb_first x) k w1) (va_up (Wb_second x) k w2)) := by
    intro y c1 c3 c4 c5 c6 c7 c8 c9 c10 c11 c12 c13
    have c2 : FirOK (k + 1) fa fb y := fun l hl => by rw [c12, c13]; exact hfir l hl
    refine Ok_then (trace_ok (n := n) (k := k) (fa := fa) (fb := fb) (u := fa k) (v := fb k) hV' hn c4 c6 hvk.1 hvk.2 h1 h2) (fun g86 h86 => ?_)
    rcases h86 with ⟨hT, h86⟩ | ⟨hc, hln, wn, wl, h86, hway⟩
    · subst h86
      exact Ok_ite (fun _ => add_tree hV hn hk hT h1 h2 hli c1 c2 c3 c4 c5 c6 c7 c8 c9 c11 c12 c13) (fun q => absurd rfl q)
    · have hT : ¬ TL fa fb k := fun z => z hc
      obtain ⟨g1, g2⟩ := g86
      dsimp only at hln h86 hway
      dsimp only
      refine Ok_ite (fun q => by rw [i32_eq, hln, i32_m1] at q; omega) (fun _ => ?_)
      subst h86
      exact add_ring hV hn hk hT hli hln c1 c2 c3 c4 c5 c6 c7 c8 c9 c10 c12 c13 hway
  exact key _ hcl hE hTr hB0 hL0 h80 d8 d9 i32_0 i32_1 rfl rfl
theorem clearW_ok {w : Int32} (hw : w.toInt = (n : Int)) (hn : n ≤ 32) : Ok (Wb_m_clear x w) (fun q => WbOK n 0 fa fb q ∧ Wb_first q = Wb_first x ∧ Wb_second q = Wb_second x) := by
  have main : ∀ w1 : Int32, w1.toInt = (n : Int) → Ok (Wb_m_clear_j13 x w1) (fun q => WbOK n 0 fa fb q ∧ Wb_first q = Wb_first x ∧ Wb_second q = Wb_second x) := by
    intro w1 hw1
    unfold Wb_m_clear_j13
    refine Ok_then (clear_ok (L := 32) (s := N_0) (by decide)) (fun g25 h25 => Ok_then (clear_ok (L := 32) (s := N_0) (by decide)) (fun g32 h32 => Ok_then (clear_ok (L := 64) (s := N_0) (by decide)) (fun g39 h39 => ?_)))
    refine Ok_for n (fun j y => (Wb_nodes y).toInt = (n : Int) ∧ (Wb_links y).toInt = ((0 : Nat) : Int) ∧ (∀ v, v < j → (Wb_up y v).toInt = -1 ∧ (Wb_upLink y v).toInt = -1) ∧ NmOK 32 j N_0 (Wb_blocks y) ∧ NmOK 32 j N_0 (Wb_lands y) ∧ NmOK 64 0 N_0 (Wb_parts y) ∧ Wb_first y = Wb_first x ∧ Wb_second y = Wb_second x) (by omega) i32_0 ⟨hw1, i32_0, fun v hv => absurd hv (Nat.not_lt_zero v), h25, h32, h39, rfl, rfl⟩ ?_ ?_
    · intro j y i hj hi ⟨y1, y2, y3, y4, y5, y6, y7, y8⟩
      dsimp only [Wb_m_clear_s44]
      refine Ok_ite (fun q => by rw [i32_le] at q; omega) (fun _ => ?_)
      have hj32 : j < 32 := Nat.lt_of_lt_of_le hj hn
      refine Ok_wrb hi hj32 (Ok_wrb hi hj32 ?_)
      refine Ok_then (begin_ok (s := N_0) (N := j) y4 hj32 ⟨rfl, rfl, rfl, rfl⟩) (fun g70 h70 => Ok_then (begin_ok (s := N_0) (N := j) y5 hj32 ⟨rfl, rfl, rfl, rfl⟩) (fun g77 h77 => Ok_some ⟨nx_s hi (mil hj32), y1, y2, fun v hv => ?_, h70, h77, y6, y7, y8⟩))
      show (va_up (Wb_up y) j (-1) v).toInt = -1 ∧ (va_up (Wb_upLink y) j (-1) v).toInt = -1
      by_cases e : v = j
      · rw [e, vu_s, vu_s]; exact ⟨i32_m1, i32_m1⟩
      · rw [vu_n e, vu_n e]; exact y3 v (by omega)
    · intro y i hi ⟨y1, y2, y3, y4, y5, y6, y7, y8⟩
      dsimp only [Wb_m_clear_s44]
      refine Ok_ite (fun _ => Ok_omap (Ok_some ⟨⟨y2, fun l hl => absurd hl (Nat.not_lt_zero l), fun l hl => absurd hl (Nat.not_lt_zero l), ⟨y1, fun v hv => ?_⟩, y4, y5, y6⟩, y7, y8⟩)) (fun q => by rw [i32_le] at q; omega)
      exact y3 v hv
  unfold Wb_m_clear
  refine Ok_ite (fun q => ?_) (fun _ => main w hw)
  rw [i32_le, i32_32, hw] at q
  refine main 32 ?_
  rw [i32_32]; omega
/-- what holds of the web after some links: and of the latest -/
def WbL (n m : Nat) (fa fb : Nat → Nat) (x : WbS) : Prop := WbOK n m fa fb x ∧ ∀ k, m = k + 1 → LatOK n k fa fb x
theorem WbOK_cg (h : ∀ l, l < m → fa l = ga l ∧ fb l = gb l) (hW : WbOK n m fa fb x) : WbOK n m ga gb x := by
  obtain ⟨h1, h2, h3, h4, h5, h6, h7⟩ := hW
  refine ⟨h1, fun l hl => ?_, fun l hl => ?_, ⟨h4.1, fun v hv => ?_⟩, ?_, ?_, ?_⟩
  · rw [← (h l hl).1, ← (h l hl).2]; exact h2 l hl
  · rw [← cg_hC h]; exact h3 l hl
  · have e : up1 n ga gb m v = up1 n fa fb m v := by
      unfold up1
      rw [← cg_hR h, ← cg_pa h]
    rw [e]; exact h4.2 v hv
  · rw [← cg_hB h]; exact h5
  · rw [← cg_hL h]; exact h6
  · rw [← cg_hP h]; exact h7
/-- links come one by one, out of rows that hold them -/
theorem grow_ok (hV : Vd fa fb n m) (hn : n ≤ 32) (hm : m ≤ 64) {w wn : Int32} (hw : w.toInt = (m : Int)) (hnd : (Wb_nodes x).toInt = (n : Int)) (hf : ∀ l, l < m → (Wb_first x l).toInt = (fa l : Int) ∧ (Wb_second x l).toInt = (fb l : Int)) : Ok (Wb_m_growAgain x w) (WbL n m fa fb) := by
  unfold Wb_m_growAgain
  refine Ok_then (clearW_ok (fa := fa) (fb := fb) hnd hn) (fun g5 h5 => ?_)
  obtain ⟨h5, hf1, hf2⟩ := h5
  refine Ok_for m (fun k y => WbL n k fa fb y ∧ ∀ l, k ≤ l → l < m → (Wb_first y l).toInt = (fa l : Int) ∧ (Wb_second y l).toInt = (fb l : Int)) (by omega) i32_0 ⟨⟨h5, fun k e => by omega⟩, fun l _ hl => by rw [hf1, hf2]; exact hf l hl⟩ ?_ ?_
  · intro k y i hk hi ⟨hy, hrest⟩
    dsimp only [Wb_m_growAgain_s10]
    refine Ok_ite (fun q => by rw [i32_le] at q; omega) (fun _ => ?_)
    have hk64 := Nat.lt_of_lt_of_le hk hm
    have hr := hrest k (Nat.le_refl k) hk
    refine Ok_rdb hi hk64 (Ok_rdb hi hk64 ?_)
    refine Ok_then (add_ok (fa := fa) (fb := fb) (Vd_le hV hk) hn hk64 hy.1 hr.1 hr.2) (fun g28 h28 => Ok_some ⟨nx_s hi (Nat.lt_trans hk64 (by decide)), ⟨h28.1, fun k2 e => ?_⟩, fun l h1 h2 => ?_⟩)
    · have : k = k2 := by omega
      rw [← this]; exact h28.2.1
    · have := hrest l (by omega) h2
      dsimp only
      rw [h28.2.2.2.2.1, h28.2.2.2.2.2, vu_n (by omega), vu_n (by omega)]
      exact this
  · intro y i hi ⟨hy, _⟩
    dsimp only [Wb_m_growAgain_s10]
    exact Ok_ite (fun _ => Ok_omap (Ok_some hy)) (fun q => by rw [i32_le] at q; omega)
end W58
