/-! REFERENCE 7: a link comes; the replay -/
section R7
variable {fa fb : Nat → Nat} {n k m u v b c t y r a d e o T K : Nat} {x z : MdS} {L M : List (Nat × Nat)}
/-- which land is turned -/
theorem turned_first (hV : Vd fa fb n (k + 1)) (hT : TL fa fb k) {su sv : Nat} (hsu : su = cnt (fun v => lnm n fa fb k v = lnm n fa fb k (fa k)) n) (hsv : sv = cnt (fun v => lnm n fa fb k v = lnm n fa fb k (fb k)) n) :
    ((su < sv ∨ (su = sv ∧ lnm n fa fb k (fb k) < lnm n fa fb k (fa k))) → tE n fa fb k = fa k ∧ tO n fa fb k = fb k) ∧ (¬ (su < sv ∨ (su = sv ∧ lnm n fa fb k (fb k) < lnm n fa fb k (fa k))) → tE n fa fb k = fb k ∧ tO n fa fb k = fa k) := by
  have hV' : Vd fa fb n k := Vd_le hV (Nat.le_succ k)
  have hvk := hV k (Nat.lt_succ_self k)
  have hI := NI_L (n := n) (k := k) hV'
  have na := hI.1 (fa k) hvk.1
  have nb := hI.1 (fb k) hvk.2
  have hS : sL fa fb (hL n fa fb k) k (N_of (hL n fa fb k) (fa k)) = true := by simp [sL]
  have hSb : sL fa fb (hL n fa fb k) k (N_of (hL n fa fb k) (fb k)) = true := by simp [sL]
  obtain ⟨K, hK, hSK, hkp, hjn⟩ := jn_some (s := hL n fa fb k) (l := k) na.1 hS
  have hLs : hL n fa fb (k + 1) = jn n (hL n fa fb k) (sL fa fb (hL n fa fb k) k) k := by rw [hL_s, if_neg hT]
  have hofK : N_of (hL n fa fb (k + 1)) (fa k) = K := by
    rw [hLs, hjn]
    show (if sL fa fb (hL n fa fb k) k (N_of (hL n fa fb k) (fa k)) = true then K else N_of (hL n fa fb k) (fa k)) = K
    rw [if_pos hS]
  have hne : N_of (hL n fa fb k) (fa k) ≠ N_of (hL n fa fb k) (fb k) := fun z => hT ((land_same hV' hvk.1 hvk.2).mp z)
  have hKor : K = N_of (hL n fa fb k) (fa k) ∨ K = N_of (hL n fa fb k) (fb k) := by
    unfold sL at hSK
    rw [Bool.or_eq_true, beq_iff_eq, beq_iff_eq] at hSK
    exact hSK
  have ba := kpr_best hkp _ na.1 hS
  have bb2 := kpr_best hkp _ nb.1 hSb
  have ma : N_mx (hL n fa fb k) (N_of (hL n fa fb k) (fa k)) = su := by rw [(hI.2.2.1 _ na.1 na.2).1, cntN_cnt, hsu]; rfl
  have mb : N_mx (hL n fa fb k) (N_of (hL n fa fb k) (fb k)) = sv := by rw [(hI.2.2.1 _ nb.1 nb.2).1, cntN_cnt, hsv]; rfl
  have la : lnm n fa fb k (fa k) = N_of (hL n fa fb k) (fa k) := rfl
  have lb : lnm n fa fb k (fb k) = N_of (hL n fa fb k) (fb k) := rfl
  unfold tE tO
  rw [hofK]
  constructor
  · intro h
    have hK2 : K = N_of (hL n fa fb k) (fb k) := by
      rcases hKor with q | q
      · exfalso
        rw [q, ma] at bb2
        rw [mb] at bb2
        rw [la, lb] at h
        omega
      · exact q
    have hc : ¬ K = N_of (hL n fa fb k) (fa k) := fun z => hne (z.symm.trans hK2)
    rw [if_neg hc, if_neg hc]
    exact ⟨rfl, rfl⟩
  · intro h
    have hK2 : K = N_of (hL n fa fb k) (fa k) := by
      rcases hKor with q | q
      · exact q
      · exfalso
        rw [q, mb] at ba
        rw [ma] at ba
        rw [la, lb] at h
        omega
    rw [if_pos hK2, if_pos hK2]
    exact ⟨rfl, rfl⟩
theorem SB_became {f : Int32} : Md_n (Md_set_became x f) = Md_n x := rfl
def CQ (n k : Nat) (fa fb : Nat → Nat) (x : MdS) (q : MdS) : Prop := RefK n fa fb (k + 1) q ∧ Fr x q ∧ LatR n k fa fb q
theorem comes_tree2 (hV : Vd fa fb n (k + 1)) (hn : n ≤ 32) (hk : k < 64) (hT : TL fa fb k) (hnm : (Md_n x).toInt = (n : Int)) (hRf : RefK n fa fb k x) (hq : Lq x = (0, 1, Md_firstName x, Md_secondName x)) (hf1 : (Md_firstName x).toInt = (bnm n fa fb k (fa k) : Int)) (hf2 : (Md_secondName x).toInt = (bnm n fa fb k (fb k) : Int))
    {v1 g5 g12 : Int32} (h1 : v1.toInt = (k : Int)) (h2 : g5.toInt = (fa k : Int)) (h3 : g12.toInt = (fb k : Int)) :
    Ok ((wr (Md_closedBy x) 64 v1 (-1)).bind fun f68 => (Md_m_landOf (Md_set_closedBy x f68) g5).bind fun g73 => (Md_m_sizeOf (Md_set_closedBy x f68) 1 g73).bind fun g76 => (Md_m_landOf (Md_set_closedBy x f68) g12).bind fun g85 => (Md_m_sizeOf (Md_set_closedBy x f68) 1 g85).bind fun g88 => if g76 < g88 then (Md_m_comes_j125 (Md_set_closedBy x f68) v1 g5 g12 1) else (if g76 = g88 then ((Md_m_landOf (Md_set_closedBy x f68) g5).bind fun g109 => (Md_m_landOf (Md_set_closedBy x f68) g12).bind fun g114 => if g109 ≤ g114 then (Md_m_comes_j125 (Md_set_closedBy x f68) v1 g5 g12 0) else (Md_m_comes_j125 (Md_set_closedBy x f68) v1 g5 g12 1)) else (Md_m_comes_j125 (Md_set_closedBy x f68) v1 g5 g12 0))) (CQ n k fa fb x) := by
  have hvk := hV k (Nat.lt_succ_self k)
  refine Ok_wrb h1 hk ?_
  have key : ∀ y : MdS, y = Md_set_closedBy x (va_up (Md_closedBy x) k (-1)) → Ok ((Md_m_landOf y g5).bind fun g73 => (Md_m_sizeOf y 1 g73).bind fun g76 => (Md_m_landOf y g12).bind fun g85 => (Md_m_sizeOf y 1 g85).bind fun g88 => if g76 < g88 then (Md_m_comes_j125 y v1 g5 g12 1) else (if g76 = g88 then ((Md_m_landOf y g5).bind fun g109 => (Md_m_landOf y g12).bind fun g114 => if g109 ≤ g114 then (Md_m_comes_j125 y v1 g5 g12 0) else (Md_m_comes_j125 y v1 g5 g12 1)) else (Md_m_comes_j125 y v1 g5 g12 0))) (CQ n k fa fb x) := by
    intro y hy
    have hFr : Fr x y := by rw [hy]; exact Fr_cb
    have hLq : Lq y = Lq x := by rw [hy]; exact Lq_cb
    have hRy : RefK n fa fb k y := by
      obtain ⟨r0, r1, r2, r3⟩ := hRf
      rw [hy]
      exact ⟨r0, r1, r2, fun l hl => by
        show (va_up (Md_closedBy x) k (-1) l).toInt = _
        rw [vu_n (Nat.ne_of_lt hl)]; exact r3 l hl⟩
    have hCy : (Md_closedBy y k).toInt = -1 := by
      rw [hy]
      show (va_up (Md_closedBy x) k (-1) k).toInt = _
      rw [vu_s]; exact i32_m1
    have hny : (Md_n y).toInt = (n : Int) := by rw [hFr.1]; exact hnm
    have hty : (Md_turned y).toInt = 0 := by
      have := congrArg Prod.fst (hLq.trans hq)
      have this : Md_turned y = 0 := this
      rw [this]; exact i32_0
    have hby : (Md_became y).toInt = 1 := by
      have := congrArg (fun p => p.2.1) (hLq.trans hq)
      have this : Md_became y = 1 := this
      rw [this]; exact i32_1
    have hfy : Md_firstName y = Md_firstName x := congrArg (fun p : Int32 × Int32 × Int32 × Int32 => p.2.2.1) hLq
    have hsy : Md_secondName y = Md_secondName x := congrArg (fun p : Int32 × Int32 × Int32 × Int32 => p.2.2.2) hLq
    clear hy
    have hf : ∀ j, j < n → (Md_nameOf y (32 * 1 + j)).toInt = (lnm n fa fb k j : Int) := fun j hj => (hRy.2.1 j hj).1
    -- the rest, once it is clear which land is turned
    have fin : ∀ (we wo : Int32), we.toInt = (tE n fa fb k : Int) → wo.toInt = (tO n fa fb k : Int) → Ok ((Md_m_turns y we wo v1).bind fun g => Md_m_comes_j149 g v1 g5 g12) (CQ n k fa fb x) := by
      intro we wo he ho
      refine Ok_mono (comes_tree hV hn hk hT hny hRy hCy hty h1 he ho h2 h3) (fun q hq => ?_)
      obtain ⟨q1, q2, q3, q4, q5, q6⟩ := hq
      refine ⟨q1, Fr_trans hFr q2, fun _ => ⟨q3, by rw [q4]; exact hby⟩, fun z => absurd hT z, by rw [q5, hfy]; exact hf1, by rw [q6, hsy]; exact hf2⟩
    refine Ok_then (landOf_ok h2 hvk.1 hn hf) (fun g73 h73 => Ok_then (sizeOfR_ok (kd := 1) hny hn i32_1 (Nat.le_refl 1) h73 hf) (fun g76 h76 => Ok_then (landOf_ok h3 hvk.2 hn hf) (fun g85 h85 => Ok_then (sizeOfR_ok (kd := 1) hny hn i32_1 (Nat.le_refl 1) h85 hf) (fun g88 h88 => ?_))))
    obtain ⟨tf, ts⟩ := turned_first hV hT rfl rfl
    have j1 : (cnt (fun v => lnm n fa fb k v = lnm n fa fb k (fa k)) n < cnt (fun v => lnm n fa fb k v = lnm n fa fb k (fb k)) n ∨ (cnt (fun v => lnm n fa fb k v = lnm n fa fb k (fa k)) n = cnt (fun v => lnm n fa fb k v = lnm n fa fb k (fb k)) n ∧ lnm n fa fb k (fb k) < lnm n fa fb k (fa k))) → Ok (Md_m_comes_j125 y v1 g5 g12 1) (CQ n k fa fb x) := by
      intro h
      unfold Md_m_comes_j125
      rw [if_neg (by decide)]
      exact fin g5 g12 (by rw [(tf h).1]; exact h2) (by rw [(tf h).2]; exact h3)
    have j0 : ¬ (cnt (fun v => lnm n fa fb k v = lnm n fa fb k (fa k)) n < cnt (fun v => lnm n fa fb k v = lnm n fa fb k (fb k)) n ∨ (cnt (fun v => lnm n fa fb k v = lnm n fa fb k (fa k)) n = cnt (fun v => lnm n fa fb k v = lnm n fa fb k (fb k)) n ∧ lnm n fa fb k (fb k) < lnm n fa fb k (fa k))) → Ok (Md_m_comes_j125 y v1 g5 g12 0) (CQ n k fa fb x) := by
      intro h
      unfold Md_m_comes_j125
      rw [if_pos rfl]
      exact fin g12 g5 (by rw [(ts h).1]; exact h3) (by rw [(ts h).2]; exact h2)
    refine Ok_ite (fun q => ?_) (fun q => ?_)
    · rw [i32_lt, h76, h88] at q
      exact j1 (Or.inl (by omega))
    · rw [i32_lt, h76, h88] at q
      refine Ok_ite (fun q2 => ?_) (fun q2 => ?_)
      · rw [i32_eq, h76, h88] at q2
        refine Ok_then (landOf_ok h2 hvk.1 hn hf) (fun g109 h109 => Ok_then (landOf_ok h3 hvk.2 hn hf) (fun g114 h114 => ?_))
        refine Ok_ite (fun q3 => ?_) (fun q3 => ?_)
        · rw [i32_le, h109, h114] at q3
          exact j0 (fun z => by omega)
        · rw [i32_le, h109, h114] at q3
          exact j1 (Or.inr ⟨by omega, by omega⟩)
      · have q2 : ¬ (g76.toInt = g88.toInt) := fun z => q2 (i32_ext z)
        rw [h76, h88] at q2
        exact j0 (fun z => by omega)
  exact key _ rfl
theorem Lq_became {f : Int32} : Lq (Md_set_became x f) = (Md_turned x, f, Md_firstName x, Md_secondName x) := rfl
theorem Fr_became {f : Int32} : Fr x (Md_set_became x f) := ⟨rfl, rfl, rfl, rfl, rfl, rfl, rfl, rfl, rfl, rfl, rfl⟩
theorem comes_ring2 (hV : Vd fa fb n (k + 1)) (hn : n ≤ 32) (hk : k < 64) (hT : ¬ TL fa fb k) (hnm : (Md_n x).toInt = (n : Int)) (hRf : RefK n fa fb k x) (hCk : (Md_closedBy x k).toInt = (k : Int)) (hq : Lq x = (0, 1, Md_firstName x, Md_secondName x)) (hf1 : (Md_firstName x).toInt = (bnm n fa fb k (fa k) : Int)) (hf2 : (Md_secondName x).toInt = (bnm n fa fb k (fb k) : Int))
    {v1 g5 g12 : Int32} (h1 : v1.toInt = (k : Int)) (h2 : g5.toInt = (fa k : Int)) (h3 : g12.toInt = (fb k : Int)) :
    Ok ((Md_m_blockAt x g5).bind fun g176 => (Md_m_blockAt x g12).bind fun g181 => if g176 = g181 then (some x) else ((Md_m_blockAt x g5).bind fun g190 => (Md_m_blockAt x g12).bind fun g195 => (Md_m_onWay x g190 g195).bind fun g198 => (Md_m_count x g198).bind fun g207 => (Md_m_shrinks (Md_set_became x g207) g198 v1).bind fun g217 => some g217)) (CQ n k fa fb x) := by
  have hV' : Vd fa fb n k := Vd_le hV (Nat.le_succ k)
  have hvk := hV k (Nat.lt_succ_self k)
  have hc := nt_ld hT
  have hRf' := hRf
  obtain ⟨r0, r1, r2, r3⟩ := hRf
  have hf : ∀ j, j < n → (Md_nameOf x (32 * 0 + j)).toInt = (bnm n fa fb k j : Int) := fun j hj => (r0 j hj).1
  have ht0 : Md_turned x = 0 := congrArg (fun p : Int32 × Int32 × Int32 × Int32 => p.1) hq
  have hb0 : Md_became x = 1 := congrArg (fun p : Int32 × Int32 × Int32 × Int32 => p.2.1) hq
  refine Ok_then (blockAt_ok h2 hvk.1 hn hf) (fun g176 h176 => Ok_then (blockAt_ok h3 hvk.2 hn hf) (fun g181 h181 => Ok_ite (fun q => ?_) (fun q => ?_)))
  · rw [i32_eq, h176, h181] at q
    have hs := comes_same hV hn hc (by omega) hRf' hCk
    refine Ok_some ⟨hs.1, Fr_refl, fun z => absurd z hT, fun _ => ⟨by rw [ht0]; exact i32_0, by rw [hb0, hs.2]; exact i32_1⟩, hf1, hf2⟩
  · have la := bnm_lt (k := k) (fa := fa) (fb := fb) hV' hvk.1
    have lb := bnm_lt (k := k) (fa := fa) (fb := fb) hV' hvk.2
    have sa := bnm_same (k := k) (fa := fa) (fb := fb) hV' hvk.1
    have sb := bnm_same (k := k) (fa := fa) (fb := fb) hV' hvk.2
    refine Ok_then (blockAt_ok h2 hvk.1 hn hf) (fun g190 h190 => Ok_then (blockAt_ok h3 hvk.2 hn hf) (fun g195 h195 => Ok_then (onWay_ok hV' hn r2 h190 h195 la.1 la.2 lb.1 lb.2 (sa.1.trans (hc.trans sb.1.symm))) (fun g198 h198 => Ok_then (count_ok (x := x)) (fun g207 h207 => ?_))))
    have hset : ∀ j, j < 32 → (bt g198 j = true ↔ j ∈ rgS n fa fb k) := fun j hj => (h198 j hj).trans (rg_way hV hc)
    have hnd : (rgS n fa fb k).Nodup := nm_nodup (nm := bnm n fa fb k) hV' (NmQ_b hV') rfl hvk.1 hc
    have hcnt := count_set hnd (fun j hj => Nat.lt_of_lt_of_le (rgS_node hV hc hj).1 hn) hset
    have hlen : (rgS n fa fb k).length = (fw fa fb (qb fa fb k) k (fa k) (fb k)).length + 1 := by unfold rgS; rw [List.length_cons, nmL, List.length_map]
    refine Ok_then (shrinks_ok (x := Md_set_became x g207) hV hn hk hc hnm r0 r1 r2 r3 hCk hset h1) (fun g217 h217 => Ok_some ?_)
    obtain ⟨q1, q2, q3⟩ := h217
    rw [Lq_became] at q3
    have e1 : Md_turned g217 = Md_turned x := congrArg (fun p : Int32 × Int32 × Int32 × Int32 => p.1) q3
    have e2 : Md_became g217 = g207 := congrArg (fun p : Int32 × Int32 × Int32 × Int32 => p.2.1) q3
    have e3 : Md_firstName g217 = Md_firstName x := congrArg (fun p : Int32 × Int32 × Int32 × Int32 => p.2.2.1) q3
    have e4 : Md_secondName g217 = Md_secondName x := congrArg (fun p : Int32 × Int32 × Int32 × Int32 => p.2.2.2) q3
    refine ⟨q1, Fr_trans Fr_became q2, fun z => absurd z hT, fun _ => ⟨by rw [e1, ht0]; exact i32_0, ?_⟩, by rw [e3]; exact hf1, by rw [e4]; exact hf2⟩
    rw [e2, h207, hcnt, hlen]
    omega
end R7
