/-! REFERENCE 4: a ring shrinks into one block -/
section R4
variable {fa fb : Nat → Nat} {n k u v b c t y r a d e o T K : Nat} {x : MdS} {L M : List (Nat × Nat)}
theorem qb_close (hT : ¬ TL fa fb k) (ht : t < k) : qb fa fb (k + 1) t = true ↔ qb fa fb k t = true ∧ t ∉ lks (pa fa fb k (fa k) (fb k)) := by
  rw [qb_iff (by omega), qb_iff ht]
  exact brg_close hT ht
theorem hB_close (hV : Vd fa fb n (k + 1)) (hc : ld fa fb k (fa k) = ld fa fb k (fb k)) : ∃ K, kpr (N_mx (hB n fa fb k)) (sB fa fb (hB n fa fb k) k) n = some K ∧ hB n fa fb (k + 1) = jnK n (hB n fa fb k) (sB fa fb (hB n fa fb k) k) k K ∧ K ∈ rgS n fa fb k ∧ K < n := by
  have hV' : Vd fa fb n k := Vd_le hV (Nat.le_succ k)
  have hI := NI_B (n := n) (k := k) hV'
  have ha := (hV k (Nat.lt_succ_self k)).1
  have hS : sB fa fb (hB n fa fb k) k (N_of (hB n fa fb k) (fa k)) = true := (sB_iff hV hc).mpr List.mem_cons_self
  obtain ⟨K, h1, h2, h3, h4⟩ := jn_some (s := hB n fa fb k) (l := k) (hI.1 (fa k) ha).1 hS
  exact ⟨K, h3, by rw [hB_s, if_pos hc, h4], (sB_iff hV hc).mp h2, h1⟩
theorem sB_rgS (hV : Vd fa fb n (k + 1)) (hc : ld fa fb k (fa k) = ld fa fb k (fb k)) : sB fa fb (hB n fa fb k) k b = true ↔ b ∈ rgS n fa fb k := sB_iff hV hc
theorem bnm_close (hV : Vd fa fb n (k + 1)) (hc : ld fa fb k (fa k) = ld fa fb k (fb k)) (hK : hB n fa fb (k + 1) = jnK n (hB n fa fb k) (sB fa fb (hB n fa fb k) k) k K) : (bnm n fa fb k v ∈ rgS n fa fb k → bnm n fa fb (k + 1) v = K) ∧ (bnm n fa fb k v ∉ rgS n fa fb k → bnm n fa fb (k + 1) v = bnm n fa fb k v) := by
  have e : bnm n fa fb (k + 1) v = if sB fa fb (hB n fa fb k) k (bnm n fa fb k v) = true then K else bnm n fa fb k v := by
    unfold bnm
    rw [hK]; rfl
  constructor
  · intro h
    rw [e, if_pos ((sB_rgS hV hc).mpr h)]
  · intro h
    rw [e, if_neg (fun z => h ((sB_rgS hV hc).mp z))]
/-- the steps up afterwards -/
theorem bup_close (hV : Vd fa fb n (k + 1)) (hc : ld fa fb k (fa k) = ld fa fb k (fb k)) (hK : hB n fa fb (k + 1) = jnK n (hB n fa fb k) (sB fa fb (hB n fa fb k) k) k K) (hKm : K ∈ rgS n fa fb k) (hT : isTop n fa fb k (rgS n fa fb k) T) :
    bup n fa fb (k + 1) K = bup n fa fb k T ∧
    ∀ b, b < n → liv (hB n fa fb k) b → b ∉ rgS n fa fb k → ((bup n fa fb k b).1 = -1 ∧ bup n fa fb (k + 1) b = bup n fa fb k b) ∨ ∃ p : Nat, p < n ∧ (bup n fa fb k b).1 = (p : Int) ∧ (bup n fa fb (k + 1) b).2 = (bup n fa fb k b).2 ∧ (p ∈ rgS n fa fb k → (bup n fa fb (k + 1) b).1 = (K : Int)) ∧ (p ∉ rgS n fa fb k → (bup n fa fb (k + 1) b).1 = (p : Int)) := by
  have hV' : Vd fa fb n k := Vd_le hV (Nat.le_succ k)
  have hnT : ¬ TL fa fb k := fun z => z hc
  obtain ⟨hR1, hR2⟩ := hR_ok hV'
  have hRs : ∀ w, hR n fa fb (k + 1) w = hR n fa fb k w := fun w => hR_far (Or.inr hnT)
  have hq : ∀ t, t < k → (qb fa fb (k + 1) t = true ↔ qb fa fb k t = true ∧ t ∉ lks (pa fa fb k (fa k) (fb k))) := fun t ht => qb_close hnT ht
  obtain ⟨tf1, tf2, tf3⟩ := top_facts hV hc hT
  have ha := (hV k (Nat.lt_succ_self k)).1
  constructor
  · obtain ⟨hTn, hTl, -⟩ := rgS_node hV hc hT.1
    obtain ⟨hKn, hKl, -⟩ := rgS_node hV hc hKm
    have hTr := (hR1 T hTn).2.symm
    have e1 : bnm n fa fb (k + 1) T = K := (bnm_close hV hc hK).1 (by rw [liv_bnm hTl]; exact hT.1)
    -- K's block is T's
    have h1 := bup_bnm hV hTn
    rw [e1, hRs] at h1
    rw [h1]
    unfold bup
    cases hp : fw fa fb (qb fa fb k) k T (hR n fa fb k T) with
    | nil => rw [fw_close_nil hTr hq hp]; rfl
    | cons s M =>
      obtain ⟨t, y⟩ := s
      have hf := tf2 t y M hp
      obtain ⟨M2, hM2⟩ := fw_close_hd hTr hq hp hf.1
      rw [hM2]
      show ((bnm n fa fb (k + 1) y : Int), (t : Int)) = ((bnm n fa fb k y : Int), (t : Int))
      rw [(bnm_close hV hc hK).2 hf.2.1]
  · intro b hb hl hbS
    have hbr := (hR1 b hb).2.symm
    have hbS' : bnm n fa fb k b ∉ rgS n fa fb k := by rw [liv_bnm hl]; exact hbS
    unfold bup
    rw [hRs]
    cases hp : fw fa fb (qb fa fb k) k b (hR n fa fb k b) with
    | nil =>
      left
      rw [fw_close_nil hbr hq hp]
      exact ⟨rfl, rfl⟩
    | cons s M =>
      obtain ⟨t, y⟩ := s
      have ht := off_hd hV' (NmQ_b (n := n) hV') ha hc hbr hb hp hbS'
      obtain ⟨M2, hM2⟩ := fw_close_hd hbr hq hp ht
      have hy := (fw_hd_lt hV' hbr hp).1
      right
      rw [hM2]
      refine ⟨bnm n fa fb k y, (bnm_lt hV' hy).1, rfl, rfl, fun h => ?_, fun h => ?_⟩
      · show (bnm n fa fb (k + 1) y : Int) = _
        rw [(bnm_close hV hc hK).1 h]
      · show (bnm n fa fb (k + 1) y : Int) = _
        rw [(bnm_close hV hc hK).2 h]
theorem liv_close (hV : Vd fa fb n (k + 1)) (hc : ld fa fb k (fa k) = ld fa fb k (fb k)) (hK : hB n fa fb (k + 1) = jnK n (hB n fa fb k) (sB fa fb (hB n fa fb k) k) k K) (hKm : K ∈ rgS n fa fb k) (h : liv (hB n fa fb (k + 1)) b) : b = K ∨ (liv (hB n fa fb k) b ∧ b ∉ rgS n fa fb k) := by
  have h : bnm n fa fb (k + 1) b = b := h
  by_cases c : bnm n fa fb k b ∈ rgS n fa fb k
  · rw [(bnm_close hV hc hK).1 c] at h; exact Or.inl h.symm
  · rw [(bnm_close hV hc hK).2 c] at h
    right
    refine ⟨h, ?_⟩
    rw [h] at c; exact c
/-- the closed links -/
theorem hC_close (hc : ld fa fb k (fa k) = ld fa fb k (fb k)) {l : Nat} (hl : l < k) : hC fa fb (k + 1) l = if l ∈ lks (pa fa fb k (fa k) (fb k)) ∧ qb fa fb k l = true then (k : Int) else hC fa fb k l := by
  rw [hC_s, if_pos hc, if_neg (by omega)]
  have e : ((lks (pa fa fb k (fa k) (fb k))).contains l = true ∧ hC fa fb k l = -1) ↔ (l ∈ lks (pa fa fb k (fa k) (fb k)) ∧ qb fa fb k l = true) := by
    unfold qb
    rw [List.contains_iff_mem, decide_eq_true_iff]
  by_cases q : l ∈ lks (pa fa fb k (fa k) (fb k)) ∧ qb fa fb k l = true
  · rw [if_pos (e.mpr q), if_pos q]
  · rw [if_neg (fun z => q (e.mp z)), if_neg q]
/-- the last loop: what had one of them as parent -/
theorem shrink3 (hV : Vd fa fb n (k + 1)) (hn : n ≤ 32) (hc : ld fa fb k (fa k) = ld fa fb k (fb k)) (hnm : (Md_n x).toInt = (n : Int)) (hK : hB n fa fb (k + 1) = jnK n (hB n fa fb k) (sB fa fb (hB n fa fb k) k) k K) (hKm : K ∈ rgS n fa fb k) (hTp : isTop n fa fb k (rgS n fa fb k) T)
    (hP : ParOK n fa fb k x) {v1 v4 v5 v6 : Int32} (h1 : ∀ j, j < 32 → (bt v1 j = true ↔ j ∈ rgS n fa fb k)) (h4 : v4 = Md_parent x T) (h5 : v5 = Md_up x T) (h6 : v6.toInt = (K : Int)) :
    Ok (iter (fun p : MdS × Int32 => Md_m_shrinks_s127 v1 v4 v5 v6 p.1 p.2) FU (x, 0)) (fun q => ∃ pp uu, q = Md_set_up (Md_set_parent x pp) uu ∧ ParOK n fa fb (k + 1) q) := by
  have hV' : Vd fa fb n k := Vd_le hV (Nat.le_succ k)
  obtain ⟨hKn, hKl, -⟩ := rgS_node hV hc hKm
  obtain ⟨hTn, hTl, -⟩ := rgS_node hV hc hTp.1
  obtain ⟨bc1, bc2⟩ := bup_close hV hc hK hKm hTp
  refine Ok_for n (fun j y => ∃ pp, y = Md_set_parent x pp ∧ (∀ b, b < n → liv (hB n fa fb k) b → b ∉ rgS n fa fb k → (pp b).toInt = if b < j then (bup n fa fb (k + 1) b).1 else (bup n fa fb k b).1) ) (by omega) i32_0 ⟨Md_parent x, rfl, fun b hb hl _ => ?_⟩ ?_ ?_
  · rw [if_neg (by omega)]; exact (hP b hb hl).1
  · intro j y i hj hi ⟨pp, hy, hpp⟩
    subst hy
    dsimp only [Md_m_shrinks_s127]
    refine Ok_ite (fun q => by rw [i32_le] at q; have q2 : (Md_n x).toInt ≤ i.toInt := q; omega) (fun _ => ?_)
    refine Ok_eqb (has_ok hi (by omega)) ?_
    have hb1 := h1 j (by omega)
    -- nothing laid
    have skip : (liv (hB n fa fb k) j → j ∉ rgS n fa fb k → (pp j).toInt = (bup n fa fb (k + 1) j).1) → Ok (some (Sum.inl (Md_set_parent x pp, i + 1)) : Option ((MdS × Int32) ⊕ MdS)) (LR (fun p => p.2.toInt = ((j + 1 : Nat) : Int) ∧ ∃ pp, p.1 = Md_set_parent x pp ∧ (∀ b, b < n → liv (hB n fa fb k) b → b ∉ rgS n fa fb k → (pp b).toInt = if b < j + 1 then (bup n fa fb (k + 1) b).1 else (bup n fa fb k b).1)) (fun q => ∃ pp uu, q = Md_set_up (Md_set_parent x pp) uu ∧ ParOK n fa fb (k + 1) q)) := by
      intro hsk
      refine Ok_some ⟨nx_s hi (by omega), pp, rfl, fun b hb hl hS => ?_⟩
      by_cases e : b = j
      · rw [if_pos (by omega)]
        rw [e] at hl hS ⊢
        exact hsk hl hS
      · rw [hpp b hb hl hS]
        by_cases q : b < j
        · rw [if_pos q, if_pos (by omega)]
        · rw [if_neg q, if_neg (by omega)]
    refine Ok_ite (fun hS => ?_) (fun hS => ?_)
    · exact skip (fun _ hn2 => absurd (hb1.mp hS) hn2)
    · have hjS : j ∉ rgS n fa fb k := fun z => hS (hb1.mpr z)
      refine Ok_rdb hi (by omega) ?_
      by_cases hl : liv (hB n fa fb k) j
      · have hpj := hpp j hj hl hjS
        rw [if_neg (by omega)] at hpj
        rcases bc2 j hj hl hjS with ⟨g1, g2⟩ | ⟨p, p1, p2, p3, p4, p5⟩
        · refine Ok_ite (fun _ => skip (fun _ _ => by rw [hpj, g2])) (fun q => absurd (i32_ext (by rw [show (Md_parent (Md_set_parent x pp) j).toInt = (pp j).toInt from rfl, hpj, g1, i32_m1])) q)
        · have hpj2 : (pp j).toInt = (p : Int) := hpj.trans p2
          refine Ok_ite (fun q => by
            have q2 : (pp j).toInt = -1 := by rw [show pp j = Md_parent (Md_set_parent x pp) j from rfl, q, i32_m1]
            omega) (fun _ => ?_)
          refine Ok_rdb hi (by omega) (Ok_eqb (has_ok hpj2 (by omega)) ?_)
          have hbp := h1 p (by omega)
          refine Ok_ite (fun q => ?_) (fun q => ?_)
          · refine Ok_wrb hi (by omega) (Ok_some ⟨nx_s hi (by omega), va_up pp j v6, rfl, fun b hb hl2 hS2 => ?_⟩)
            by_cases e : b = j
            · rw [e, vu_s, if_pos (by omega), p4 (hbp.mp q)]; exact h6
            · rw [vu_n e, hpp b hb hl2 hS2]
              by_cases q : b < j
              · rw [if_pos q, if_pos (by omega)]
              · rw [if_neg q, if_neg (by omega)]
          · exact skip (fun _ _ => by rw [hpj2, p5 (fun z => q (hbp.mpr z))])
      · -- no block: whatever is laid
        refine Ok_ite (fun _ => skip (fun z => absurd z hl)) (fun _ => ?_)
        refine Ok_rdb hi (by omega) ?_
        obtain ⟨hb, hbe⟩ := has_any (x := Md_set_parent x pp) (m := v1) (v := Md_parent (Md_set_parent x pp) j)
        refine Ok_eqb hbe (Ok_ite (fun _ => ?_) (fun _ => skip (fun z => absurd z hl)))
        refine Ok_wrb hi (by omega) (Ok_some ⟨nx_s hi (by omega), va_up pp j v6, rfl, fun b hb hl2 hS2 => ?_⟩)
        have e : b ≠ j := fun z => hl (z ▸ hl2)
        rw [vu_n e, hpp b hb hl2 hS2]
        by_cases q : b < j
        · rw [if_pos q, if_pos (by omega)]
        · rw [if_neg q, if_neg (by omega)]
  · intro y i hi ⟨pp, hy, hpp⟩
    subst hy
    dsimp only [Md_m_shrinks_s127]
    refine Ok_ite (fun _ => ?_) (fun q => by rw [i32_le] at q; exact absurd (show (Md_n x).toInt ≤ i.toInt by omega) q)
    refine Ok_omap (Ok_wrb h6 (by omega) (Ok_wrb h6 (by omega) (Ok_some ⟨va_up pp K v4, va_up (Md_up x) K v5, rfl, fun b hb hl => ?_⟩)))
    show (va_up pp K v4 b).toInt = _ ∧ (va_up (Md_up x) K v5 b).toInt = _
    rcases liv_close hV hc hK hKm hl with e | ⟨hl0, hS0⟩
    · have hTP := hP T hTn hTl
      rw [e, vu_s, vu_s, bc1, h4, h5]; exact hTP
    · have e : b ≠ K := fun z => hS0 (z ▸ hKm)
      rw [vu_n e, vu_n e, hpp b hb hl0 hS0, if_pos hb]
      refine ⟨rfl, ?_⟩
      rw [(hP b hb hl0).2]
      rcases bc2 b hb hl0 hS0 with ⟨g1, g2⟩ | ⟨p, p1, p2, p3, p4, p5⟩
      · rw [g2]
      · exact p3.symm
end R4
