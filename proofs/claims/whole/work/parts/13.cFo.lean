set_option maxHeartbeats 4000000 in
set_option maxRecDepth 100000 in
theorem c_X0_readNodes (l : Launch) (dC : Nat → ClassId) (dI : Nat → Nat → Nat) (cI cJ : ClassId) (A : Nat → Nat) (B : Nat → Nat) (hq : Nat) (x : FoS) (y : WbS) (r0 : FoS) (hf : Fo_m_readNodes x y = some r0) : MWv l yX0_readNodes (wAll yX0_readNodes cX0_readNodes 5 none) ({ frames := 2, cells := 0, slots := 0, locals := 61 } : Room) [.ref (A 0), .ref (B 0)] hq (dC, dI) (vTy cI cJ) (wFo cI cJ A x ++ (wWb cI cJ B y)) (wFo cI cJ A r0 ++ (wWb cI cJ B y)) := by
  refine kg_metW (Qc := fun Q => QWv (dC, dI) Q (wFo cI cJ A r0 ++ (wWb cI cJ B y))) (cc := cX0_readNodes) (maxL := 5) (ret := none) (by decide) rfl (Nat.le_of_ble_eq_true rfl) ?_
  intro p e s m args below meth c Q hx hb hr hts hown hlk hml hP hK hN hD hA hS ls hl
  have hl : lv_has ls 5 [(0, .ref (A 0)), (1, .ref (B 0))] := hl
  have ww0 := hts (.fieldLink RX0 49 "SafeBlocks$Forest" "names" "I") (List.mem_cons_of_mem _ wd_4_4)
  have ww1 := hts (.fieldLink RX0 64 "SafeBlocks$Web" "blocks" "LSafeBlocks$Names;") (List.mem_cons_of_mem _ wd_5_19)
  have ww2 := hts (.fieldLink RX0 75 "SafeBlocks$Names" "of" "[I") (List.mem_cons_of_mem _ wd_6_0)
  have ww3 := hts (.fieldLink RX0 27 "SafeBlocks$Forest" "below" "[I") (List.mem_cons_of_mem _ wd_3_21)
  have ww4 := hts (.fieldLink RX0 80 "SafeBlocks$Web" "upLink" "[I") (List.mem_cons_of_mem _ wd_6_1)
  have ww5 := hts (.fieldLink RX0 9 "SafeBlocks$Forest" "parent" "[I") (List.mem_cons_of_mem _ wd_3_16)
  have ww6 := hts (.fieldLink RX0 85 "SafeBlocks$Web" "up" "[I") (List.mem_cons_of_mem _ wd_6_2)
  have ww7 := hts (.fieldLink RX0 15 "SafeBlocks$Forest" "upLink" "[I") (List.mem_cons_of_mem _ wd_3_17)
  have hiX0 : ∀ w ∈ u_ws RX0 TX0 13, w ∈ wAll yX0_readNodes cX0_readNodes 5 none := fun w h => List.mem_cons_of_mem _ (inlX0 w h)
  have hiX4 : ∀ w ∈ u_ws RX4 TX4 16, w ∈ wAll yX0_readNodes cX0_readNodes 5 none := fun w h => List.mem_cons_of_mem _ (inlX4 w h)
  have hiX1 : ∀ w ∈ u_ws RX1 TX1 6, w ∈ wAll yX0_readNodes cX0_readNodes 5 none := fun w h => List.mem_cons_of_mem _ (inlX1 w h)
  suffices hgo : ∀ (H : Heap) (locs : List Loc), va_P (dC, dI) vwCl (wFo cI cJ A x ++ (wWb cI cJ B y)) H → va_S Q s.heap H locs → W p l e ({ frames := 2, cells := 0, slots := 0, locals := 61 } : Room) s m args below meth c H locs 0 0 (MQ below (QWv (dC, dI) Q (wFo cI cJ A r0 ++ (wWb cI cJ B y))) args s 0 0 Q) (F0 m 0 ls []) from hgo _ _ hP hS
  clear hP hS
  intro H locs hP hS
  unfold Fo_m_readNodes at hf
  refine lv_iconst (v := 0) hx hb dX0_readNodes_0 (by decide) ?_
  refine lv_istore_n (lv' := [(2, .int 0), (0, .ref (A 0)), (1, .ref (B 0))]) hx hb dX0_readNodes_1 rfl hl (by decide) rfl (fun ls hl => ?_)
  have hlp2 : ∀ (n : Nat) (x : FoS) (v2 : Int32), iter (fun p : FoS × Int32 => Fo_m_readNodes_s2 y p.1 p.2) n (x, v2) = some r0 → ∀ (H : Heap) (locs : List Loc) (ls : Array Slot), va_P (dC, dI) vwCl (wFo cI cJ A x ++ (wWb cI cJ B y)) H → va_D Q (wFo cI cJ A x ++ (wWb cI cJ B y)) → va_S Q s.heap H locs → lv_has ls 5 [(0, .ref (A 0)), (1, .ref (B 0)), (2, .int v2)] → W p l e ({ frames := 2, cells := 0, slots := 0, locals := 61 } : Room) s m args below meth c H locs 0 0 (MQ below (QWv (dC, dI) Q (wFo cI cJ A r0 ++ (wWb cI cJ B y))) args s 0 0 Q) (F0 m 2 ls []) := by
    intro  n
    induction n with
    | zero => intro x v2 hf; exact iter_zero hf
    | succ n ih1 =>
      intro x v2 hf H locs ls hP hD hS hl
      obtain ⟨q1, hf, hk1⟩ := iter_succ hf
      have hf : Fo_m_readNodes_s2 y x v2 = some q1 := hf
      unfold Fo_m_readNodes_s2 at hf
      refine lv_iload_n hx hb dX0_readNodes_2 rfl (lv_at hl 2 rfl) ?_
      refine lv_aload_n hx hb dX0_readNodes_3 rfl (lv_at hl 0 rfl) ?_
      refine va_get (D := (dC, dI)) (ci := 0) (v := .int (Fo_names x)) (C := RX0) (T := TX0) (N := 13) hx hb hts hiX0 hown hK hP 0 rfl rfl 12 (by decide) ww0 (fun _ h9 => h9) rfl dX0_readNodes_4 ?_
      refine kg_icmp_ge (tgt := 87) hx hb hf dX0_readNodes_7 (by decide) (fun hc hf => ?_) (fun hc hf => ?_)
      · obtain ⟨qq, hf, hqq⟩ := omap_some hf
        have hkq : qq = r0 := by rw [← hqq] at hk1; exact hk1
        rw [hkq] at hf
        clear hkq hqq
        obtain rfl := Option.some.inj hf
        exact kg_vretW hx hb hr hlk hP hD hS dX0_readNodes_87
      · refine lv_aload_n hx hb dX0_readNodes_10 rfl (lv_at hl 1 rfl) ?_
        refine va_get (D := (dC, dI)) (ci := 4) (v := .ref (B 8)) (C := RX4) (T := TX4) (N := 16) hx hb hts hiX4 hown hK hP 12 rfl rfl 7 (by decide) ww1 (fun _ h9 => h9) rfl dX0_readNodes_11 ?_
        refine va_get (D := (dC, dI)) (ci := 1) (v := .ref (B 9)) (C := RX1) (T := TX1) (N := 6) hx hb hts hiX1 hown hK hP 20 rfl rfl 0 (by decide) ww2 (fun _ h9 => h9) rfl dX0_readNodes_14 ?_
        refine lv_iload_n hx hb dX0_readNodes_17 rfl (lv_at hl 2 rfl) ?_
        obtain ⟨g18, hv, hf⟩ := ob_bind hf
        refine kg_iald hx hb hK hP 21 0 rfl rfl hv dX0_readNodes_18 ?_
        refine lv_istore_n (lv' := [(3, .int g18), (0, .ref (A 0)), (1, .ref (B 0)), (2, .int v2)]) hx hb dX0_readNodes_19 rfl hl (by decide) rfl (fun ls hl => ?_)
        refine lv_aload_n hx hb dX0_readNodes_20 rfl (lv_at hl 1 rfl) ?_
        refine va_get (D := (dC, dI)) (ci := 0) (v := .ref (A 6)) (C := RX0) (T := TX0) (N := 13) hx hb hts hiX0 hown hK hP 0 rfl rfl 5 (by decide) ww3 (fun _ h9 => h9) rfl dX0_readNodes_21 ?_
        refine lv_iload_n hx hb dX0_readNodes_24 rfl (lv_at hl 0 rfl) ?_
        refine lv_dup2_11 hx hb dX0_readNodes_25 rfl rfl ?_
        obtain ⟨g26, hv, hf⟩ := ob_bind hf
        refine kg_iald hx hb hK hP 6 0 rfl rfl hv dX0_readNodes_26 ?_
        refine lv_iconst (v := 1) hx hb dX0_readNodes_27 (by decide) ?_
        refine lv_iadd hx hb dX0_readNodes_28 ?_
        obtain ⟨f29, hv, hf⟩ := ob_bind hf
        refine kg_iast (wz := (wFo cI cJ A (Fo_set_below x f29) ++ (wWb cI cJ B y))) hx hb hK hP hD hS 6 0 rfl rfl hv dX0_readNodes_29 (sce_Fo_below _ _ _ _ _ _) (fun H locs hP hD hS => ?_)
        refine lv_aload_n hx hb dX0_readNodes_30 rfl (lv_at hl 2 rfl) ?_
        refine va_get (D := (dC, dI)) (ci := 4) (v := .ref (B 5)) (C := RX4) (T := TX4) (N := 16) hx hb hts hiX4 hown hK hP 12 rfl rfl 4 (by decide) ww4 (fun _ h9 => h9) rfl dX0_readNodes_31 ?_
        refine lv_iload_n hx hb dX0_readNodes_34 rfl (lv_at hl 3 rfl) ?_
        obtain ⟨g35, hv, hf⟩ := ob_bind hf
        refine kg_iald hx hb hK hP 17 0 rfl rfl hv dX0_readNodes_35 ?_
        refine lv_istore (lv' := [(4, .int g35), (3, .int g18), (0, .ref (A 0)), (1, .ref (B 0)), (2, .int v2)]) hx hb dX0_readNodes_36 hl (by decide) rfl (fun ls hl => ?_)
        refine lv_iload hx hb dX0_readNodes_38 (lv_at hl 0 rfl) ?_
        refine lv_iconst (v := (-1)) hx hb dX0_readNodes_40 (by decide) ?_
        refine kg_icmp_eq (tgt := 81) hx hb hf dX0_readNodes_41 (by decide) (fun hc hf => ?_) (fun hc hf => ?_)
        · refine lv_iinc (v := (v2 + 1)) (lv' := [(2, .int (v2 + 1)), (4, .int g35), (3, .int g18), (0, .ref (A 0)), (1, .ref (B 0))]) hx hb dX0_readNodes_81 hl (k := 4) rfl rfl (by decide) rfl (fun ls hl => ?_)
          refine lv_goto (tgt := 2) hx hb dX0_readNodes_84 (by decide) ?_
          obtain rfl := Option.some.inj hf
          exact ih1 (Fo_set_below x f29) (v2 + 1) hk1 _ _ _ hP hD hS (lv_sub hl [3, 4, 0] rfl)
        · refine lv_aload_n hx hb dX0_readNodes_44 rfl (lv_at hl 3 rfl) ?_
          refine lv_iload hx hb dX0_readNodes_45 (lv_at hl 0 rfl) ?_
          obtain ⟨g47, hc, hf⟩ := ob_bind hf
          have hPc : va_P (dC, dI) vwCl (wWb cI cJ B y) H := hP.sub [12, 13, 14, 15, 16, 17, 18, 19, 20, 21, 22, 23, 24, 25, 26, 27, 28, 29, 30, 31, 32, 33, 34] rfl
          refine kg_retRi (va_runV (As := [.int g35]) (rest := []) ⟨hx, hb, hml, hown, hts⟩ (c_X4_isBridge l dC dI cI cJ B H y g35 _ hc) (cwV 1 hts (gw_V wd_6_6 wd_6_3 wd_6_4 wd_6_5 wd_1_14) rfl rfl rfl qX4_isBridge ⟨Nat.le_of_ble_eq_true rfl, Nat.le_of_ble_eq_true rfl⟩) (kg_preVR (ci := 4) (q := (RX4, TX4, 16)) (q0 := 0) hPc hK hN rfl rfl) rfl rfl hl.1 rfl (lv_room (Nat.le_of_ble_eq_true rfl)) dX0_readNodes_47 ⟨Nat.zero_le _, Nat.zero_le _⟩) ?_
          refine kg_b_eq (tgt := 81) hx hb hf dX0_readNodes_50 (by decide) (fun hc hf => ?_) (fun hc hf => ?_)
          · refine lv_iinc (v := (v2 + 1)) (lv' := [(2, .int (v2 + 1)), (4, .int g35), (3, .int g18), (0, .ref (A 0)), (1, .ref (B 0))]) hx hb dX0_readNodes_81 hl (k := 4) rfl rfl (by decide) rfl (fun ls hl => ?_)
            refine lv_goto (tgt := 2) hx hb dX0_readNodes_84 (by decide) ?_
            obtain rfl := Option.some.inj hf
            exact ih1 (Fo_set_below x f29) (v2 + 1) hk1 _ _ _ hP hD hS (lv_sub hl [3, 4, 0] rfl)
          · refine lv_aload_n hx hb dX0_readNodes_53 rfl (lv_at hl 2 rfl) ?_
            refine va_get (D := (dC, dI)) (ci := 0) (v := .ref (A 1)) (C := RX0) (T := TX0) (N := 13) hx hb hts hiX0 hown hK hP 0 rfl rfl 0 (by decide) ww5 (fun _ h9 => h9) rfl dX0_readNodes_54 ?_
            refine lv_iload_n hx hb dX0_readNodes_57 rfl (lv_at hl 1 rfl) ?_
            refine lv_aload_n hx hb dX0_readNodes_58 rfl (lv_at hl 3 rfl) ?_
            refine va_get (D := (dC, dI)) (ci := 4) (v := .ref (B 8)) (C := RX4) (T := TX4) (N := 16) hx hb hts hiX4 hown hK hP 12 rfl rfl 7 (by decide) ww1 (fun _ h9 => h9) rfl dX0_readNodes_59 ?_
            refine va_get (D := (dC, dI)) (ci := 1) (v := .ref (B 9)) (C := RX1) (T := TX1) (N := 6) hx hb hts hiX1 hown hK hP 20 rfl rfl 0 (by decide) ww2 (fun _ h9 => h9) rfl dX0_readNodes_62 ?_
            refine lv_aload_n hx hb dX0_readNodes_65 rfl (lv_at hl 3 rfl) ?_
            refine va_get (D := (dC, dI)) (ci := 4) (v := .ref (B 4)) (C := RX4) (T := TX4) (N := 16) hx hb hts hiX4 hown hK hP 12 rfl rfl 3 (by decide) ww6 (fun _ h9 => h9) rfl dX0_readNodes_66 ?_
            refine lv_iload_n hx hb dX0_readNodes_69 rfl (lv_at hl 4 rfl) ?_
            obtain ⟨g70, hv, hf⟩ := ob_bind hf
            refine kg_iald hx hb hK hP 16 0 rfl rfl hv dX0_readNodes_70 ?_
            obtain ⟨g71, hv, hf⟩ := ob_bind hf
            refine kg_iald hx hb hK hP 21 0 rfl rfl hv dX0_readNodes_71 ?_
            obtain ⟨f72, hv, hf⟩ := ob_bind hf
            refine kg_iast (wz := (wFo cI cJ A (Fo_set_parent (Fo_set_below x f29) f72) ++ (wWb cI cJ B y))) hx hb hK hP hD hS 1 0 rfl rfl hv dX0_readNodes_72 (sce_Fo_parent _ _ _ _ _ _) (fun H locs hP hD hS => ?_)
            refine lv_aload_n hx hb dX0_readNodes_73 rfl (lv_at hl 2 rfl) ?_
            refine va_get (D := (dC, dI)) (ci := 0) (v := .ref (A 2)) (C := RX0) (T := TX0) (N := 13) hx hb hts hiX0 hown hK hP 0 rfl rfl 1 (by decide) ww7 (fun _ h9 => h9) rfl dX0_readNodes_74 ?_
            refine lv_iload_n hx hb dX0_readNodes_77 rfl (lv_at hl 1 rfl) ?_
            refine lv_iload hx hb dX0_readNodes_78 (lv_at hl 0 rfl) ?_
            obtain ⟨f80, hv, hf⟩ := ob_bind hf
            refine kg_iast (wz := (wFo cI cJ A (Fo_set_upLink (Fo_set_parent (Fo_set_below x f29) f72) f80) ++ (wWb cI cJ B y))) hx hb hK hP hD hS 2 0 rfl rfl hv dX0_readNodes_80 (sce_Fo_upLink _ _ _ _ _ _) (fun H locs hP hD hS => ?_)
            refine lv_iinc (v := (v2 + 1)) (lv' := [(2, .int (v2 + 1)), (4, .int g35), (3, .int g18), (0, .ref (A 0)), (1, .ref (B 0))]) hx hb dX0_readNodes_81 hl (k := 4) rfl rfl (by decide) rfl (fun ls hl => ?_)
            refine lv_goto (tgt := 2) hx hb dX0_readNodes_84 (by decide) ?_
            obtain rfl := Option.some.inj hf
            exact ih1 (Fo_set_upLink (Fo_set_parent (Fo_set_below x f29) f72) f80) (v2 + 1) hk1 _ _ _ hP hD hS (lv_sub hl [3, 4, 0] rfl)
  exact hlp2  FU x 0 hf _ _ _ hP hD hS (lv_sub hl [1, 2, 0] rfl)
set_option maxHeartbeats 4000000 in
set_option maxRecDepth 100000 in
theorem c_X0_hangChildren (l : Launch) (dC : Nat → ClassId) (dI : Nat → Nat → Nat) (cI cJ : ClassId) (A : Nat → Nat) (hq : Nat) (x : FoS) (r0 : FoS) (hf : Fo_m_hangChildren x = some r0) : MWv l yX0_hangChildren (wAll yX0_hangChildren cX0_hangChildren 3 none) ({ frames := 1, cells := 0, slots := 0, locals := 40 } : Room) [.ref (A 0)] hq (dC, dI) (vTy cI cJ) (wFo cI cJ A x) (wFo cI cJ A r0) := by
  refine kg_metW (Qc := fun Q => QWv (dC, dI) Q (wFo cI cJ A r0)) (cc := cX0_hangChildren) (maxL := 3) (ret := none) (by decide) rfl (Nat.le_of_ble_eq_true rfl) ?_
  intro p e s m args below meth c Q hx hb hr hts hown hlk hml hP hK hN hD hA hS ls hl
  have hl : lv_has ls 3 [(0, .ref (A 0))] := hl
  have ww0 := hts (.fieldLink RX0 49 "SafeBlocks$Forest" "names" "I") (List.mem_cons_of_mem _ wd_4_4)
  have ww1 := hts (.fieldLink RX0 9 "SafeBlocks$Forest" "parent" "[I") (List.mem_cons_of_mem _ wd_3_16)
  have ww2 := hts (.fieldLink RX0 39 "SafeBlocks$Forest" "childBefore" "[I") (List.mem_cons_of_mem _ wd_4_1)
  have ww3 := hts (.fieldLink RX0 36 "SafeBlocks$Forest" "lastChild" "[I") (List.mem_cons_of_mem _ wd_4_0)
  have ww4 := hts (.fieldLink RX0 21 "SafeBlocks$Forest" "children" "[I") (List.mem_cons_of_mem _ wd_3_19)
  have ww5 := hts (.fieldLink RX0 24 "SafeBlocks$Forest" "bridgesAt" "[I") (List.mem_cons_of_mem _ wd_3_20)
  have hiX0 : ∀ w ∈ u_ws RX0 TX0 13, w ∈ wAll yX0_hangChildren cX0_hangChildren 3 none := fun w h => List.mem_cons_of_mem _ (inlX0 w h)
  suffices hgo : ∀ (H : Heap) (locs : List Loc), va_P (dC, dI) vwCl (wFo cI cJ A x) H → va_S Q s.heap H locs → W p l e ({ frames := 1, cells := 0, slots := 0, locals := 40 } : Room) s m args below meth c H locs 0 0 (MQ below (QWv (dC, dI) Q (wFo cI cJ A r0)) args s 0 0 Q) (F0 m 0 ls []) from hgo _ _ hP hS
  clear hP hS
  intro H locs hP hS
  unfold Fo_m_hangChildren at hf
  refine lv_iconst (v := 0) hx hb dX0_hangChildren_0 (by decide) ?_
  refine lv_istore_n (lv' := [(1, .int 0), (0, .ref (A 0))]) hx hb dX0_hangChildren_1 rfl hl (by decide) rfl (fun ls hl => ?_)
  have hlp2 : ∀ (n : Nat) (x : FoS) (v1 : Int32), iter (fun p : FoS × Int32 => Fo_m_hangChildren_s2 p.1 p.2) n (x, v1) = some r0 → ∀ (H : Heap) (locs : List Loc) (ls : Array Slot), va_P (dC, dI) vwCl (wFo cI cJ A x) H → va_D Q (wFo cI cJ A x) → va_S Q s.heap H locs → lv_has ls 3 [(0, .ref (A 0)), (1, .int v1)] → W p l e ({ frames := 1, cells := 0, slots := 0, locals := 40 } : Room) s m args below meth c H locs 0 0 (MQ below (QWv (dC, dI) Q (wFo cI cJ A r0)) args s 0 0 Q) (F0 m 2 ls []) := by
    intro  n
    induction n with
    | zero => intro x v1 hf; exact iter_zero hf
    | succ n ih1 =>
      intro x v1 hf H locs ls hP hD hS hl
      obtain ⟨q1, hf, hk1⟩ := iter_succ hf
      have hf : Fo_m_hangChildren_s2 x v1 = some q1 := hf
      unfold Fo_m_hangChildren_s2 at hf
      refine lv_iload_n hx hb dX0_hangChildren_2 rfl (lv_at hl 1 rfl) ?_
      refine lv_aload_n hx hb dX0_hangChildren_3 rfl (lv_at hl 0 rfl) ?_
      refine va_get (D := (dC, dI)) (ci := 0) (v := .int (Fo_names x)) (C := RX0) (T := TX0) (N := 13) hx hb hts hiX0 hown hK hP 0 rfl rfl 12 (by decide) ww0 (fun _ h9 => h9) rfl dX0_hangChildren_4 ?_
      refine kg_icmp_ge (tgt := 77) hx hb hf dX0_hangChildren_7 (by decide) (fun hc hf => ?_) (fun hc hf => ?_)
      · obtain ⟨qq, hf, hqq⟩ := omap_some hf
        have hkq : qq = r0 := by rw [← hqq] at hk1; exact hk1
        rw [hkq] at hf
        clear hkq hqq
        obtain rfl := Option.some.inj hf
        exact kg_vretW hx hb hr hlk hP hD hS dX0_hangChildren_77
      · refine lv_aload_n hx hb dX0_hangChildren_10 rfl (lv_at hl 0 rfl) ?_
        refine va_get (D := (dC, dI)) (ci := 0) (v := .ref (A 1)) (C := RX0) (T := TX0) (N := 13) hx hb hts hiX0 hown hK hP 0 rfl rfl 0 (by decide) ww1 (fun _ h9 => h9) rfl dX0_hangChildren_11 ?_
        refine lv_iload_n hx hb dX0_hangChildren_14 rfl (lv_at hl 1 rfl) ?_
        obtain ⟨g15, hv, hf⟩ := ob_bind hf
        refine kg_iald hx hb hK hP 1 0 rfl rfl hv dX0_hangChildren_15 ?_
        refine lv_istore_n (lv' := [(2, .int g15), (0, .ref (A 0)), (1, .int v1)]) hx hb dX0_hangChildren_16 rfl hl (by decide) rfl (fun ls hl => ?_)
        refine lv_iload_n hx hb dX0_hangChildren_17 rfl (lv_at hl 0 rfl) ?_
        refine lv_iconst (v := (-1)) hx hb dX0_hangChildren_18 (by decide) ?_
        refine kg_icmp_eq (tgt := 71) hx hb hf dX0_hangChildren_19 (by decide) (fun hc hf => ?_) (fun hc hf => ?_)
        · refine lv_iinc (v := (v1 + 1)) (lv' := [(1, .int (v1 + 1)), (2, .int g15), (0, .ref (A 0))]) hx hb dX0_hangChildren_71 hl (k := 2) rfl rfl (by decide) rfl (fun ls hl => ?_)
          refine lv_goto (tgt := 2) hx hb dX0_hangChildren_74 (by decide) ?_
          obtain rfl := Option.some.inj hf
          exact ih1 x (v1 + 1) hk1 _ _ _ hP hD hS (lv_sub hl [2, 0] rfl)
        · refine lv_aload_n hx hb dX0_hangChildren_22 rfl (lv_at hl 1 rfl) ?_
          refine va_get (D := (dC, dI)) (ci := 0) (v := .ref (A 10)) (C := RX0) (T := TX0) (N := 13) hx hb hts hiX0 hown hK hP 0 rfl rfl 9 (by decide) ww2 (fun _ h9 => h9) rfl dX0_hangChildren_23 ?_
          refine lv_iload_n hx hb dX0_hangChildren_26 rfl (lv_at hl 2 rfl) ?_
          refine lv_aload_n hx hb dX0_hangChildren_27 rfl (lv_at hl 1 rfl) ?_
          refine va_get (D := (dC, dI)) (ci := 0) (v := .ref (A 9)) (C := RX0) (T := TX0) (N := 13) hx hb hts hiX0 hown hK hP 0 rfl rfl 8 (by decide) ww3 (fun _ h9 => h9) rfl dX0_hangChildren_28 ?_
          refine lv_iload_n hx hb dX0_hangChildren_31 rfl (lv_at hl 0 rfl) ?_
          obtain ⟨g32, hv, hf⟩ := ob_bind hf
          refine kg_iald hx hb hK hP 9 0 rfl rfl hv dX0_hangChildren_32 ?_
          obtain ⟨f33, hv, hf⟩ := ob_bind hf
          refine kg_iast (wz := (wFo cI cJ A (Fo_set_childBefore x f33))) hx hb hK hP hD hS 10 0 rfl rfl hv dX0_hangChildren_33 (sc_Fo_childBefore _ _ _ _ _) (fun H locs hP hD hS => ?_)
          refine lv_aload_n hx hb dX0_hangChildren_34 rfl (lv_at hl 1 rfl) ?_
          refine va_get (D := (dC, dI)) (ci := 0) (v := .ref (A 9)) (C := RX0) (T := TX0) (N := 13) hx hb hts hiX0 hown hK hP 0 rfl rfl 8 (by decide) ww3 (fun _ h9 => h9) rfl dX0_hangChildren_35 ?_
          refine lv_iload_n hx hb dX0_hangChildren_38 rfl (lv_at hl 0 rfl) ?_
          refine lv_iload_n hx hb dX0_hangChildren_39 rfl (lv_at hl 2 rfl) ?_
          obtain ⟨f40, hv, hf⟩ := ob_bind hf
          refine kg_iast (wz := (wFo cI cJ A (Fo_set_lastChild (Fo_set_childBefore x f33) f40))) hx hb hK hP hD hS 9 0 rfl rfl hv dX0_hangChildren_40 (sc_Fo_lastChild _ _ _ _ _) (fun H locs hP hD hS => ?_)
          refine lv_aload_n hx hb dX0_hangChildren_41 rfl (lv_at hl 1 rfl) ?_
          refine va_get (D := (dC, dI)) (ci := 0) (v := .ref (A 4)) (C := RX0) (T := TX0) (N := 13) hx hb hts hiX0 hown hK hP 0 rfl rfl 3 (by decide) ww4 (fun _ h9 => h9) rfl dX0_hangChildren_42 ?_
          refine lv_iload_n hx hb dX0_hangChildren_45 rfl (lv_at hl 0 rfl) ?_
          refine lv_dup2_11 hx hb dX0_hangChildren_46 rfl rfl ?_
          obtain ⟨g47, hv, hf⟩ := ob_bind hf
          refine kg_iald hx hb hK hP 4 0 rfl rfl hv dX0_hangChildren_47 ?_
          refine lv_iconst (v := 1) hx hb dX0_hangChildren_48 (by decide) ?_
          refine lv_iadd hx hb dX0_hangChildren_49 ?_
          obtain ⟨f50, hv, hf⟩ := ob_bind hf
          refine kg_iast (wz := (wFo cI cJ A (Fo_set_children (Fo_set_lastChild (Fo_set_childBefore x f33) f40) f50))) hx hb hK hP hD hS 4 0 rfl rfl hv dX0_hangChildren_50 (sc_Fo_children _ _ _ _ _) (fun H locs hP hD hS => ?_)
          refine lv_aload_n hx hb dX0_hangChildren_51 rfl (lv_at hl 1 rfl) ?_
          refine va_get (D := (dC, dI)) (ci := 0) (v := .ref (A 5)) (C := RX0) (T := TX0) (N := 13) hx hb hts hiX0 hown hK hP 0 rfl rfl 4 (by decide) ww5 (fun _ h9 => h9) rfl dX0_hangChildren_52 ?_
          refine lv_iload_n hx hb dX0_hangChildren_55 rfl (lv_at hl 0 rfl) ?_
          refine lv_dup2_11 hx hb dX0_hangChildren_56 rfl rfl ?_
          obtain ⟨g57, hv, hf⟩ := ob_bind hf
          refine kg_iald hx hb hK hP 5 0 rfl rfl hv dX0_hangChildren_57 ?_
          refine lv_iconst (v := 1) hx hb dX0_hangChildren_58 (by decide) ?_
          refine lv_iadd hx hb dX0_hangChildren_59 ?_
          obtain ⟨f60, hv, hf⟩ := ob_bind hf
          refine kg_iast (wz := (wFo cI cJ A (Fo_set_bridgesAt (Fo_set_children (Fo_set_lastChild (Fo_set_childBefore x f33) f40) f50) f60))) hx hb hK hP hD hS 5 0 rfl rfl hv dX0_hangChildren_60 (sc_Fo_bridgesAt _ _ _ _ _) (fun H locs hP hD hS => ?_)
          refine lv_aload_n hx hb dX0_hangChildren_61 rfl (lv_at hl 1 rfl) ?_
          refine va_get (D := (dC, dI)) (ci := 0) (v := .ref (A 5)) (C := RX0) (T := TX0) (N := 13) hx hb hts hiX0 hown hK hP 0 rfl rfl 4 (by decide) ww5 (fun _ h9 => h9) rfl dX0_hangChildren_62 ?_
          refine lv_iload_n hx hb dX0_hangChildren_65 rfl (lv_at hl 2 rfl) ?_
          refine lv_dup2_11 hx hb dX0_hangChildren_66 rfl rfl ?_
          obtain ⟨g67, hv, hf⟩ := ob_bind hf
          refine kg_iald hx hb hK hP 5 0 rfl rfl hv dX0_hangChildren_67 ?_
          refine lv_iconst (v := 1) hx hb dX0_hangChildren_68 (by decide) ?_
          refine lv_iadd hx hb dX0_hangChildren_69 ?_
          obtain ⟨f70, hv, hf⟩ := ob_bind hf
          refine kg_iast (wz := (wFo cI cJ A (Fo_set_bridgesAt (Fo_set_bridgesAt (Fo_set_children (Fo_set_lastChild (Fo_set_childBefore x f33) f40) f50) f60) f70))) hx hb hK hP hD hS 5 0 rfl rfl hv dX0_hangChildren_70 (sc_Fo_bridgesAt _ _ _ _ _) (fun H locs hP hD hS => ?_)
          refine lv_iinc (v := (v1 + 1)) (lv' := [(1, .int (v1 + 1)), (2, .int g15), (0, .ref (A 0))]) hx hb dX0_hangChildren_71 hl (k := 2) rfl rfl (by decide) rfl (fun ls hl => ?_)
          refine lv_goto (tgt := 2) hx hb dX0_hangChildren_74 (by decide) ?_
          obtain rfl := Option.some.inj hf
          exact ih1 (Fo_set_bridgesAt (Fo_set_bridgesAt (Fo_set_children (Fo_set_lastChild (Fo_set_childBefore x f33) f40) f50) f60) f70) (v1 + 1) hk1 _ _ _ hP hD hS (lv_sub hl [2, 0] rfl)
  exact hlp2  FU x 0 hf _ _ _ hP hD hS (lv_sub hl [1, 0] rfl)
set_option maxHeartbeats 4000000 in
set_option maxRecDepth 100000 in
theorem c_X0_putInOrder (l : Launch) (dC : Nat → ClassId) (dI : Nat → Nat → Nat) (cI cJ : ClassId) (A : Nat → Nat) (B : Nat → Nat) (hq : Nat) (x : FoS) (M : Nat) (y : NmS) (r0 : FoS) (hf : Fo_m_putInOrder x M y = some r0) : MWv l yX0_putInOrder (wAll yX0_putInOrder cX0_putInOrder 7 none) ({ frames := 2, cells := 0, slots := 0, locals := 61 } : Room) [.ref (A 0), .ref (B 0)] hq (dC, dI) (vTy cI cJ) (wFo cI cJ A x ++ (wNm cI cJ M B y)) (wFo cI cJ A r0 ++ (wNm cI cJ M B y)) := by
  refine kg_metW (Qc := fun Q => QWv (dC, dI) Q (wFo cI cJ A r0 ++ (wNm cI cJ M B y))) (cc := cX0_putInOrder) (maxL := 7) (ret := none) (by decide) rfl (Nat.le_of_ble_eq_true rfl) ?_
  intro p e s m args below meth c Q hx hb hr hts hown hlk hml hP hK hN hD hA hS ls hl
  have hl : lv_has ls 7 [(0, .ref (A 0)), (1, .ref (B 0))] := hl
  have ww0 := hts (.fieldLink RX0 45 "SafeBlocks$Forest" "count" "I") (List.mem_cons_of_mem _ wd_4_3)
  have ww1 := hts (.fieldLink RX0 49 "SafeBlocks$Forest" "names" "I") (List.mem_cons_of_mem _ wd_4_4)
  have ww2 := hts (.fieldLink RX0 33 "SafeBlocks$Forest" "order" "[I") (List.mem_cons_of_mem _ wd_3_23)
  have ww3 := hts (.fieldLink RX0 36 "SafeBlocks$Forest" "lastChild" "[I") (List.mem_cons_of_mem _ wd_4_0)
  have ww4 := hts (.fieldLink RX0 42 "SafeBlocks$Forest" "waiting" "[I") (List.mem_cons_of_mem _ wd_4_2)
  have ww5 := hts (.fieldLink RX0 39 "SafeBlocks$Forest" "childBefore" "[I") (List.mem_cons_of_mem _ wd_4_1)
  have ww6 := hts (.fieldLink RX0 18 "SafeBlocks$Forest" "deep" "[I") (List.mem_cons_of_mem _ wd_3_18)
  have ww7 := hts (.fieldLink RX0 9 "SafeBlocks$Forest" "parent" "[I") (List.mem_cons_of_mem _ wd_3_16)
  have hiX0 : ∀ w ∈ u_ws RX0 TX0 13, w ∈ wAll yX0_putInOrder cX0_putInOrder 7 none := fun w h => List.mem_cons_of_mem _ (inlX0 w h)
  suffices hgo : ∀ (H : Heap) (locs : List Loc), va_P (dC, dI) vwCl (wFo cI cJ A x ++ (wNm cI cJ M B y)) H → va_S Q s.heap H locs → W p l e ({ frames := 2, cells := 0, slots := 0, locals := 61 } : Room) s m args below meth c H locs 0 0 (MQ below (QWv (dC, dI) Q (wFo cI cJ A r0 ++ (wNm cI cJ M B y))) args s 0 0 Q) (F0 m 0 ls []) from hgo _ _ hP hS
  clear hP hS
  intro H locs hP hS
  unfold Fo_m_putInOrder at hf
  refine lv_aload_n hx hb dX0_putInOrder_0 rfl (lv_at hl 0 rfl) ?_
  refine lv_iconst (v := 0) hx hb dX0_putInOrder_1 (by decide) ?_
  refine kg_put (ci := 0) (v := .int 0) (ty := .int) (C := RX0) (T := TX0) (N := 13) (wz := (wFo cI cJ A (Fo_set_count x 0) ++ (wNm cI cJ M B y))) hx hb hts hiX0 tyX0 tyX0_ok nmX0 hown hK hP hD hS 0 rfl rfl 11 (by decide) ww0 (fun _ h9 => h9) rfl (tyX0_ok 11 (by decide)) rfl rfl (Nat.le_of_ble_eq_true rfl) dX0_putInOrder_2 (sce_Fo_count _ _ _ _ _ _) (fun H locs hP hD hS => ?_)
  refine lv_iconst (v := 0) hx hb dX0_putInOrder_5 (by decide) ?_
  refine lv_istore_n (lv' := [(2, .int 0), (0, .ref (A 0)), (1, .ref (B 0))]) hx hb dX0_putInOrder_6 rfl hl (by decide) rfl (fun ls hl => ?_)
  refine lv_aload_n hx hb dX0_putInOrder_7 rfl (lv_at hl 1 rfl) ?_
  refine va_get (D := (dC, dI)) (ci := 0) (v := .int (Fo_names (Fo_set_count x 0))) (C := RX0) (T := TX0) (N := 13) hx hb hts hiX0 hown hK hP 0 rfl rfl 12 (by decide) ww1 (fun _ h9 => h9) rfl dX0_putInOrder_8 ?_
  refine lv_iconst (v := 1) hx hb dX0_putInOrder_11 (by decide) ?_
  refine lv_isub hx hb dX0_putInOrder_12 ?_
  refine lv_istore_n (lv' := [(3, .int ((Fo_names (Fo_set_count x 0)) - 1)), (2, .int 0), (0, .ref (A 0)), (1, .ref (B 0))]) hx hb dX0_putInOrder_13 rfl hl (by decide) rfl (fun ls hl => ?_)
  have hlp14 : ∀ (n : Nat) (x : FoS) (v2 : Int32) (v3 : Int32), iter (fun p : FoS × Int32 × Int32 => Fo_m_putInOrder_s14 M y p.1 p.2.1 p.2.2) n (x, v2, v3) = some r0 → ∀ (H : Heap) (locs : List Loc) (ls : Array Slot), va_P (dC, dI) vwCl (wFo cI cJ A x ++ (wNm cI cJ M B y)) H → va_D Q (wFo cI cJ A x ++ (wNm cI cJ M B y)) → va_S Q s.heap H locs → lv_has ls 7 [(0, .ref (A 0)), (1, .ref (B 0)), (2, .int v2), (3, .int v3)] → W p l e ({ frames := 2, cells := 0, slots := 0, locals := 61 } : Room) s m args below meth c H locs 0 0 (MQ below (QWv (dC, dI) Q (wFo cI cJ A r0 ++ (wNm cI cJ M B y))) args s 0 0 Q) (F0 m 14 ls []) := by
    intro  n
    induction n with
    | zero => intro x v2 v3 hf; exact iter_zero hf
    | succ n ih1 =>
      intro x v2 v3 hf H locs ls hP hD hS hl
      obtain ⟨q1, hf, hk1⟩ := iter_succ hf
      have hf : Fo_m_putInOrder_s14 M y x v2 v3 = some q1 := hf
      unfold Fo_m_putInOrder_s14 at hf
      refine lv_iload_n hx hb dX0_putInOrder_14 rfl (lv_at hl 3 rfl) ?_
      refine kg_if_lt (tgt := 52) hx hb hf dX0_putInOrder_15 (by decide) (fun hc hf => ?_) (fun hc hf => ?_)
      · obtain ⟨qq, hf, hqq⟩ := omap_some hf
        have hkq : qq = r0 := by rw [← hqq] at hk1; exact hk1
        rw [hkq] at hf
        clear hkq hqq
        refine lv_iconst (v := 0) hx hb dX0_putInOrder_52 (by decide) ?_
        refine lv_istore_n (lv' := [(3, .int 0), (0, .ref (A 0)), (1, .ref (B 0)), (2, .int v2)]) hx hb dX0_putInOrder_53 rfl hl (by decide) rfl (fun ls hl => ?_)
        have hlp54 : ∀ (n : Nat) (x : FoS) (v2 : Int32) (v3 : Int32), iter (fun p : FoS × Int32 × Int32 => Fo_m_putInOrder_s54 M y p.1 p.2.1 p.2.2) n (x, v2, v3) = some r0 → ∀ (H : Heap) (locs : List Loc) (ls : Array Slot), va_P (dC, dI) vwCl (wFo cI cJ A x ++ (wNm cI cJ M B y)) H → va_D Q (wFo cI cJ A x ++ (wNm cI cJ M B y)) → va_S Q s.heap H locs → lv_has ls 7 [(0, .ref (A 0)), (2, .int v2), (3, .int v3)] → W p l e ({ frames := 2, cells := 0, slots := 0, locals := 61 } : Room) s m args below meth c H locs 0 0 (MQ below (QWv (dC, dI) Q (wFo cI cJ A r0 ++ (wNm cI cJ M B y))) args s 0 0 Q) (F0 m 54 ls []) := by
          intro  n
          induction n with
          | zero => intro x v2 v3 hf; exact iter_zero hf
          | succ n ih1 =>
            intro x v2 v3 hf H locs ls hP hD hS hl
            obtain ⟨q1, hf, hk1⟩ := iter_succ hf
            have hf : Fo_m_putInOrder_s54 M y x v2 v3 = some q1 := hf
            unfold Fo_m_putInOrder_s54 at hf
            have hj112 : ∀ (x : FoS) (v2 : Int32) (v3 : Int32) (v4 : Int32) (w1 : Int32) (w2 : Int32), Fo_m_putInOrder_j112 x M y v2 v3 v4 w1 w2 = some q1 → ∀ (H : Heap) (locs : List Loc) (ls : Array Slot), va_P (dC, dI) vwCl (wFo cI cJ A x ++ (wNm cI cJ M B y)) H → va_D Q (wFo cI cJ A x ++ (wNm cI cJ M B y)) → va_S Q s.heap H locs → lv_has ls 7 [(0, .ref (A 0)), (2, .int v2), (3, .int v3), (4, .int v4)] → W p l e ({ frames := 2, cells := 0, slots := 0, locals := 61 } : Room) s m args below meth c H locs 0 0 (MQ below (QWv (dC, dI) Q (wFo cI cJ A r0 ++ (wNm cI cJ M B y))) args s 0 0 Q) (F0 m 112 ls [.int w2, .int w1, .ref (A 3)]) := by
              intro x v2 v3 v4 w1 w2 hf H locs ls hP hD hS hl
              unfold Fo_m_putInOrder_j112 at hf
              obtain ⟨f112, hv, hf⟩ := ob_bind hf
              refine kg_iast (wz := (wFo cI cJ A (Fo_set_deep x f112) ++ (wNm cI cJ M B y))) hx hb hK hP hD hS 3 0 rfl rfl hv dX0_putInOrder_112 (sce_Fo_deep _ _ _ _ _ _) (fun H locs hP hD hS => ?_)
              refine lv_aload_n hx hb dX0_putInOrder_113 rfl (lv_at hl 0 rfl) ?_
              refine va_get (D := (dC, dI)) (ci := 0) (v := .ref (A 8)) (C := RX0) (T := TX0) (N := 13) hx hb hts hiX0 hown hK hP 0 rfl rfl 7 (by decide) ww2 (fun _ h9 => h9) rfl dX0_putInOrder_114 ?_
              refine lv_aload_n hx hb dX0_putInOrder_117 rfl (lv_at hl 0 rfl) ?_
              refine va_get (D := (dC, dI)) (ci := 0) (v := .int (Fo_count (Fo_set_deep x f112))) (C := RX0) (T := TX0) (N := 13) hx hb hts hiX0 hown hK hP 0 rfl rfl 11 (by decide) ww0 (fun _ h9 => h9) rfl dX0_putInOrder_118 ?_
              refine lv_iload hx hb dX0_putInOrder_121 (lv_at hl 3 rfl) ?_
              obtain ⟨f123, hv, hf⟩ := ob_bind hf
              refine kg_iast (wz := (wFo cI cJ A (Fo_set_order (Fo_set_deep x f112) f123) ++ (wNm cI cJ M B y))) hx hb hK hP hD hS 8 0 rfl rfl hv dX0_putInOrder_123 (sce_Fo_order _ _ _ _ _ _) (fun H locs hP hD hS => ?_)
              refine lv_aload_n hx hb dX0_putInOrder_124 rfl (lv_at hl 0 rfl) ?_
              refine lv_dup hx hb dX0_putInOrder_125 rfl ?_
              refine va_get (D := (dC, dI)) (ci := 0) (v := .int (Fo_count (Fo_set_order (Fo_set_deep x f112) f123))) (C := RX0) (T := TX0) (N := 13) hx hb hts hiX0 hown hK hP 0 rfl rfl 11 (by decide) ww0 (fun _ h9 => h9) rfl dX0_putInOrder_126 ?_
              refine lv_iconst (v := 1) hx hb dX0_putInOrder_129 (by decide) ?_
              refine lv_iadd hx hb dX0_putInOrder_130 ?_
              refine kg_put (ci := 0) (v := .int ((Fo_count (Fo_set_order (Fo_set_deep x f112) f123)) + 1)) (ty := .int) (C := RX0) (T := TX0) (N := 13) (wz := (wFo cI cJ A (Fo_set_count (Fo_set_order (Fo_set_deep x f112) f123) ((Fo_count (Fo_set_order (Fo_set_deep x f112) f123)) + 1)) ++ (wNm cI cJ M B y))) hx hb hts hiX0 tyX0 tyX0_ok nmX0 hown hK hP hD hS 0 rfl rfl 11 (by decide) ww0 (fun _ h9 => h9) rfl (tyX0_ok 11 (by decide)) rfl rfl (Nat.le_of_ble_eq_true rfl) dX0_putInOrder_131 (sce_Fo_count _ _ _ _ _ _) (fun H locs hP hD hS => ?_)
              refine lv_aload_n hx hb dX0_putInOrder_134 rfl (lv_at hl 0 rfl) ?_
              refine va_get (D := (dC, dI)) (ci := 0) (v := .ref (A 9)) (C := RX0) (T := TX0) (N := 13) hx hb hts hiX0 hown hK hP 0 rfl rfl 8 (by decide) ww3 (fun _ h9 => h9) rfl dX0_putInOrder_135 ?_
              refine lv_iload hx hb dX0_putInOrder_138 (lv_at hl 3 rfl) ?_
              obtain ⟨g140, hv, hf⟩ := ob_bind hf
              refine kg_iald hx hb hK hP 9 0 rfl rfl hv dX0_putInOrder_140 ?_
              refine lv_istore (lv' := [(5, .int g140), (0, .ref (A 0)), (2, .int v2), (3, .int v3), (4, .int v4)]) hx hb dX0_putInOrder_141 hl (by decide) rfl (fun ls hl => ?_)
              refine lv_iconst (v := 0) hx hb dX0_putInOrder_143 (by decide) ?_
              refine lv_istore (lv' := [(6, .int 0), (5, .int g140), (0, .ref (A 0)), (2, .int v2), (3, .int v3), (4, .int v4)]) hx hb dX0_putInOrder_144 hl (by decide) rfl (fun ls hl => ?_)
              have hlp146 : ∀ (v3 : Int32), ∀ (n : Nat) (x : FoS) (v2 : Int32) (v5 : Int32) (v6 : Int32), iter (fun p : FoS × Int32 × Int32 × Int32 => Fo_m_putInOrder_s146 M y v3 p.1 p.2.1 p.2.2.1 p.2.2.2) n (x, v2, v5, v6) = some q1 → ∀ (H : Heap) (locs : List Loc) (ls : Array Slot), va_P (dC, dI) vwCl (wFo cI cJ A x ++ (wNm cI cJ M B y)) H → va_D Q (wFo cI cJ A x ++ (wNm cI cJ M B y)) → va_S Q s.heap H locs → lv_has ls 7 [(0, .ref (A 0)), (2, .int v2), (3, .int v3), (5, .int v5), (6, .int v6)] → W p l e ({ frames := 2, cells := 0, slots := 0, locals := 61 } : Room) s m args below meth c H locs 0 0 (MQ below (QWv (dC, dI) Q (wFo cI cJ A r0 ++ (wNm cI cJ M B y))) args s 0 0 Q) (F0 m 146 ls []) := by
                intro v3 n
                induction n with
                | zero => intro x v2 v5 v6 hf; exact iter_zero hf
                | succ n ih2 =>
                  intro x v2 v5 v6 hf H locs ls hP hD hS hl
                  obtain ⟨q2, hf, hk2⟩ := iter_succ hf
                  have hf : Fo_m_putInOrder_s146 M y v3 x v2 v5 v6 = some q2 := hf
                  unfold Fo_m_putInOrder_s146 at hf
                  refine lv_iload hx hb dX0_putInOrder_146 (lv_at hl 4 rfl) ?_
                  refine lv_aload_n hx hb dX0_putInOrder_148 rfl (lv_at hl 0 rfl) ?_
                  refine va_get (D := (dC, dI)) (ci := 0) (v := .int (Fo_names x)) (C := RX0) (T := TX0) (N := 13) hx hb hts hiX0 hown hK hP 0 rfl rfl 12 (by decide) ww1 (fun _ h9 => h9) rfl dX0_putInOrder_149 ?_
                  refine kg_icmp_ge (tgt := 187) hx hb hf dX0_putInOrder_152 (by decide) (fun hc hf => ?_) (fun hc hf => ?_)
                  · obtain ⟨qq, hf, hqq⟩ := omap_some hf
                    have hkq : qq = q1 := by rw [← hqq] at hk2; exact hk2
                    rw [hkq] at hf
                    clear hkq hqq
                    refine lv_iinc (v := (v3 + 1)) (lv' := [(3, .int (v3 + 1)), (0, .ref (A 0)), (2, .int v2), (5, .int v5), (6, .int v6)]) hx hb dX0_putInOrder_187 hl (k := 2) rfl rfl (by decide) rfl (fun ls hl => ?_)
                    refine lv_goto (tgt := 54) hx hb dX0_putInOrder_190 (by decide) ?_
                    obtain rfl := Option.some.inj hf
                    exact ih1 x v2 (v3 + 1) hk1 _ _ _ hP hD hS (lv_sub hl [1, 2, 0] rfl)
                  · refine lv_iload hx hb dX0_putInOrder_155 (lv_at hl 3 rfl) ?_
                    refine lv_iconst (v := (-1)) hx hb dX0_putInOrder_157 (by decide) ?_
                    refine kg_icmp_eq (tgt := 187) hx hb hf dX0_putInOrder_158 (by decide) (fun hc hf => ?_) (fun hc hf => ?_)
                    · obtain ⟨qq, hf, hqq⟩ := omap_some hf
                      have hkq : qq = q1 := by rw [← hqq] at hk2; exact hk2
                      rw [hkq] at hf
                      clear hkq hqq
                      refine lv_iinc (v := (v3 + 1)) (lv' := [(3, .int (v3 + 1)), (0, .ref (A 0)), (2, .int v2), (5, .int v5), (6, .int v6)]) hx hb dX0_putInOrder_187 hl (k := 2) rfl rfl (by decide) rfl (fun ls hl => ?_)
                      refine lv_goto (tgt := 54) hx hb dX0_putInOrder_190 (by decide) ?_
                      obtain rfl := Option.some.inj hf
                      exact ih1 x v2 (v3 + 1) hk1 _ _ _ hP hD hS (lv_sub hl [1, 2, 0] rfl)
                    · refine lv_aload_n hx hb dX0_putInOrder_161 rfl (lv_at hl 0 rfl) ?_
                      refine va_get (D := (dC, dI)) (ci := 0) (v := .ref (A 11)) (C := RX0) (T := TX0) (N := 13) hx hb hts hiX0 hown hK hP 0 rfl rfl 10 (by decide) ww4 (fun _ h9 => h9) rfl dX0_putInOrder_162 ?_
                      refine lv_iload_n hx hb dX0_putInOrder_165 rfl (lv_at hl 1 rfl) ?_
                      refine lv_iload hx hb dX0_putInOrder_166 (lv_at hl 3 rfl) ?_
                      obtain ⟨f168, hv, hf⟩ := ob_bind hf
                      refine kg_iast (wz := (wFo cI cJ A (Fo_set_waiting x f168) ++ (wNm cI cJ M B y))) hx hb hK hP hD hS 11 0 rfl rfl hv dX0_putInOrder_168 (sce_Fo_waiting _ _ _ _ _ _) (fun H locs hP hD hS => ?_)
                      refine lv_iinc (v := (v2 + 1)) (lv' := [(2, .int (v2 + 1)), (0, .ref (A 0)), (3, .int v3), (5, .int v5), (6, .int v6)]) hx hb dX0_putInOrder_169 hl (k := 1) rfl rfl (by decide) rfl (fun ls hl => ?_)
                      refine lv_aload_n hx hb dX0_putInOrder_172 rfl (lv_at hl 1 rfl) ?_
                      refine va_get (D := (dC, dI)) (ci := 0) (v := .ref (A 10)) (C := RX0) (T := TX0) (N := 13) hx hb hts hiX0 hown hK hP 0 rfl rfl 9 (by decide) ww5 (fun _ h9 => h9) rfl dX0_putInOrder_173 ?_
                      refine lv_iload hx hb dX0_putInOrder_176 (lv_at hl 3 rfl) ?_
                      obtain ⟨g178, hv, hf⟩ := ob_bind hf
                      refine kg_iald hx hb hK hP 10 0 rfl rfl hv dX0_putInOrder_178 ?_
                      refine lv_istore (lv' := [(5, .int g178), (2, .int (v2 + 1)), (0, .ref (A 0)), (3, .int v3), (6, .int v6)]) hx hb dX0_putInOrder_179 hl (by decide) rfl (fun ls hl => ?_)
                      refine lv_iinc (v := (v6 + 1)) (lv' := [(6, .int (v6 + 1)), (5, .int g178), (2, .int (v2 + 1)), (0, .ref (A 0)), (3, .int v3)]) hx hb dX0_putInOrder_181 hl (k := 4) rfl rfl (by decide) rfl (fun ls hl => ?_)
                      refine lv_goto (tgt := 146) hx hb dX0_putInOrder_184 (by decide) ?_
                      obtain rfl := Option.some.inj hf
                      exact ih2 (Fo_set_waiting x f168) (v2 + 1) g178 (v6 + 1) hk2 _ _ _ hP hD hS (lv_sub hl [3, 2, 4, 1, 0] rfl)
              exact hlp146 v3 FU (Fo_set_count (Fo_set_order (Fo_set_deep x f112) f123) ((Fo_count (Fo_set_order (Fo_set_deep x f112) f123)) + 1)) v2 g140 0 hf _ _ _ hP hD hS (lv_sub hl [2, 3, 4, 1, 0] rfl)
            refine lv_iload_n hx hb dX0_putInOrder_54 rfl (lv_at hl 2 rfl) ?_
            refine lv_aload_n hx hb dX0_putInOrder_55 rfl (lv_at hl 0 rfl) ?_
            refine va_get (D := (dC, dI)) (ci := 0) (v := .int (Fo_names x)) (C := RX0) (T := TX0) (N := 13) hx hb hts hiX0 hown hK hP 0 rfl rfl 12 (by decide) ww1 (fun _ h9 => h9) rfl dX0_putInOrder_56 ?_
            refine kg_icmp_ge (tgt := 193) hx hb hf dX0_putInOrder_59 (by decide) (fun hc hf => ?_) (fun hc hf => ?_)
            · obtain ⟨qq, hf, hqq⟩ := omap_some hf
              have hkq : qq = r0 := by rw [← hqq] at hk1; exact hk1
              rw [hkq] at hf
              clear hkq hqq
              obtain rfl := Option.some.inj hf
              exact kg_vretW hx hb hr hlk hP hD hS dX0_putInOrder_193
            · refine lv_iload_n hx hb dX0_putInOrder_62 rfl (lv_at hl 1 rfl) ?_
              refine kg_if_le (tgt := 193) hx hb hf dX0_putInOrder_63 (by decide) (fun hc hf => ?_) (fun hc hf => ?_)
              · obtain ⟨qq, hf, hqq⟩ := omap_some hf
                have hkq : qq = r0 := by rw [← hqq] at hk1; exact hk1
                rw [hkq] at hf
                clear hkq hqq
                obtain rfl := Option.some.inj hf
                exact kg_vretW hx hb hr hlk hP hD hS dX0_putInOrder_193
              · refine lv_iinc (v := (v2 + (-1))) (lv' := [(2, .int (v2 + (-1))), (0, .ref (A 0)), (3, .int v3)]) hx hb dX0_putInOrder_66 hl (k := 1) rfl rfl (by decide) rfl (fun ls hl => ?_)
                refine lv_aload_n hx hb dX0_putInOrder_69 rfl (lv_at hl 1 rfl) ?_
                refine va_get (D := (dC, dI)) (ci := 0) (v := .ref (A 11)) (C := RX0) (T := TX0) (N := 13) hx hb hts hiX0 hown hK hP 0 rfl rfl 10 (by decide) ww4 (fun _ h9 => h9) rfl dX0_putInOrder_70 ?_
                refine lv_iload_n hx hb dX0_putInOrder_73 rfl (lv_at hl 0 rfl) ?_
                obtain ⟨g74, hv, hf⟩ := ob_bind hf
                refine kg_iald hx hb hK hP 11 0 rfl rfl hv dX0_putInOrder_74 ?_
                refine lv_istore (lv' := [(4, .int g74), (2, .int (v2 + (-1))), (0, .ref (A 0)), (3, .int v3)]) hx hb dX0_putInOrder_75 hl (by decide) rfl (fun ls hl => ?_)
                refine lv_aload_n hx hb dX0_putInOrder_77 rfl (lv_at hl 2 rfl) ?_
                refine va_get (D := (dC, dI)) (ci := 0) (v := .ref (A 3)) (C := RX0) (T := TX0) (N := 13) hx hb hts hiX0 hown hK hP 0 rfl rfl 2 (by decide) ww6 (fun _ h9 => h9) rfl dX0_putInOrder_78 ?_
                refine lv_iload hx hb dX0_putInOrder_81 (lv_at hl 0 rfl) ?_
                refine lv_aload_n hx hb dX0_putInOrder_83 rfl (lv_at hl 2 rfl) ?_
                refine va_get (D := (dC, dI)) (ci := 0) (v := .ref (A 1)) (C := RX0) (T := TX0) (N := 13) hx hb hts hiX0 hown hK hP 0 rfl rfl 0 (by decide) ww7 (fun _ h9 => h9) rfl dX0_putInOrder_84 ?_
                refine lv_iload hx hb dX0_putInOrder_87 (lv_at hl 0 rfl) ?_
                obtain ⟨g89, hv, hf⟩ := ob_bind hf
                refine kg_iald hx hb hK hP 1 0 rfl rfl hv dX0_putInOrder_89 ?_
                refine lv_iconst (v := (-1)) hx hb dX0_putInOrder_90 (by decide) ?_
                refine kg_icmp_ne (tgt := 98) hx hb hf dX0_putInOrder_91 (by decide) (fun hc hf => ?_) (fun hc hf => ?_)
                · refine lv_aload_n hx hb dX0_putInOrder_98 rfl (lv_at hl 2 rfl) ?_
                  refine va_get (D := (dC, dI)) (ci := 0) (v := .ref (A 3)) (C := RX0) (T := TX0) (N := 13) hx hb hts hiX0 hown hK hP 0 rfl rfl 2 (by decide) ww6 (fun _ h9 => h9) rfl dX0_putInOrder_99 ?_
                  refine lv_aload_n hx hb dX0_putInOrder_102 rfl (lv_at hl 2 rfl) ?_
                  refine va_get (D := (dC, dI)) (ci := 0) (v := .ref (A 1)) (C := RX0) (T := TX0) (N := 13) hx hb hts hiX0 hown hK hP 0 rfl rfl 0 (by decide) ww7 (fun _ h9 => h9) rfl dX0_putInOrder_103 ?_
                  refine lv_iload hx hb dX0_putInOrder_106 (lv_at hl 0 rfl) ?_
                  obtain ⟨g108, hv, hf⟩ := ob_bind hf
                  refine kg_iald hx hb hK hP 1 0 rfl rfl hv dX0_putInOrder_108 ?_
                  obtain ⟨g109, hv, hf⟩ := ob_bind hf
                  refine kg_iald hx hb hK hP 3 0 rfl rfl hv dX0_putInOrder_109 ?_
                  refine lv_iconst (v := 1) hx hb dX0_putInOrder_110 (by decide) ?_
                  refine lv_iadd hx hb dX0_putInOrder_111 ?_
                  exact hj112 x (v2 + (-1)) v3 g74 g74 (g109 + 1) hf _ _ _ hP hD hS (lv_sub hl [2, 1, 3, 0] rfl)
                · refine lv_iconst (v := 0) hx hb dX0_putInOrder_94 (by decide) ?_
                  refine lv_goto (tgt := 112) hx hb dX0_putInOrder_95 (by decide) ?_
                  exact hj112 x (v2 + (-1)) v3 g74 g74 0 hf _ _ _ hP hD hS (lv_sub hl [2, 1, 3, 0] rfl)
        exact hlp54  FU x v2 0 hf _ _ _ hP hD hS (lv_sub hl [1, 3, 0] rfl)
      · refine lv_aload_n hx hb dX0_putInOrder_18 rfl (lv_at hl 1 rfl) ?_
        refine lv_iload_n hx hb dX0_putInOrder_19 rfl (lv_at hl 3 rfl) ?_
        obtain ⟨g20, hc, hf⟩ := ob_bind hf
        have hPc : va_P (dC, dI) vwCl (wNm cI cJ M B y) H := hP.sub [12, 13, 14, 15, 16] rfl
        refine kg_retRi (va_runV (As := [.int v3]) (rest := []) ⟨hx, hb, hml, hown, hts⟩ (c_X1_lives l dC dI cI cJ B H M y v3 _ hc) (cwV 1 hts (gw_V wd_6_18 wd_6_15 wd_6_16 wd_6_17 wd_2_20) rfl rfl rfl qX1_lives ⟨Nat.le_of_ble_eq_true rfl, Nat.le_of_ble_eq_true rfl⟩) (kg_preVR (ci := 1) (q := (RX1, TX1, 6)) (q0 := 0) hPc hK hN rfl rfl) rfl rfl hl.1 rfl (lv_room (Nat.le_of_ble_eq_true rfl)) dX0_putInOrder_20 ⟨Nat.zero_le _, Nat.zero_le _⟩) ?_
        refine kg_b_eq (tgt := 46) hx hb hf dX0_putInOrder_23 (by decide) (fun hc hf => ?_) (fun hc hf => ?_)
        · refine lv_iinc (v := (v3 + (-1))) (lv' := [(3, .int (v3 + (-1))), (0, .ref (A 0)), (1, .ref (B 0)), (2, .int v2)]) hx hb dX0_putInOrder_46 hl (k := 3) rfl rfl (by decide) rfl (fun ls hl => ?_)
          refine lv_goto (tgt := 14) hx hb dX0_putInOrder_49 (by decide) ?_
          obtain rfl := Option.some.inj hf
          exact ih1 x v2 (v3 + (-1)) hk1 _ _ _ hP hD hS (lv_sub hl [1, 2, 3, 0] rfl)
        · refine lv_aload_n hx hb dX0_putInOrder_26 rfl (lv_at hl 0 rfl) ?_
          refine va_get (D := (dC, dI)) (ci := 0) (v := .ref (A 1)) (C := RX0) (T := TX0) (N := 13) hx hb hts hiX0 hown hK hP 0 rfl rfl 0 (by decide) ww7 (fun _ h9 => h9) rfl dX0_putInOrder_27 ?_
          refine lv_iload_n hx hb dX0_putInOrder_30 rfl (lv_at hl 3 rfl) ?_
          obtain ⟨g31, hv, hf⟩ := ob_bind hf
          refine kg_iald hx hb hK hP 1 0 rfl rfl hv dX0_putInOrder_31 ?_
          refine lv_iconst (v := (-1)) hx hb dX0_putInOrder_32 (by decide) ?_
          refine kg_icmp_ne (tgt := 46) hx hb hf dX0_putInOrder_33 (by decide) (fun hc hf => ?_) (fun hc hf => ?_)
          · refine lv_iinc (v := (v3 + (-1))) (lv' := [(3, .int (v3 + (-1))), (0, .ref (A 0)), (1, .ref (B 0)), (2, .int v2)]) hx hb dX0_putInOrder_46 hl (k := 3) rfl rfl (by decide) rfl (fun ls hl => ?_)
            refine lv_goto (tgt := 14) hx hb dX0_putInOrder_49 (by decide) ?_
            obtain rfl := Option.some.inj hf
            exact ih1 x v2 (v3 + (-1)) hk1 _ _ _ hP hD hS (lv_sub hl [1, 2, 3, 0] rfl)
          · refine lv_aload_n hx hb dX0_putInOrder_36 rfl (lv_at hl 0 rfl) ?_
            refine va_get (D := (dC, dI)) (ci := 0) (v := .ref (A 11)) (C := RX0) (T := TX0) (N := 13) hx hb hts hiX0 hown hK hP 0 rfl rfl 10 (by decide) ww4 (fun _ h9 => h9) rfl dX0_putInOrder_37 ?_
            refine lv_iload_n hx hb dX0_putInOrder_40 rfl (lv_at hl 2 rfl) ?_
            refine lv_iload_n hx hb dX0_putInOrder_41 rfl (lv_at hl 3 rfl) ?_
            obtain ⟨f42, hv, hf⟩ := ob_bind hf
            refine kg_iast (wz := (wFo cI cJ A (Fo_set_waiting x f42) ++ (wNm cI cJ M B y))) hx hb hK hP hD hS 11 0 rfl rfl hv dX0_putInOrder_42 (sce_Fo_waiting _ _ _ _ _ _) (fun H locs hP hD hS => ?_)
            refine lv_iinc (v := (v2 + 1)) (lv' := [(2, .int (v2 + 1)), (0, .ref (A 0)), (1, .ref (B 0)), (3, .int v3)]) hx hb dX0_putInOrder_43 hl (k := 2) rfl rfl (by decide) rfl (fun ls hl => ?_)
            refine lv_iinc (v := (v3 + (-1))) (lv' := [(3, .int (v3 + (-1))), (2, .int (v2 + 1)), (0, .ref (A 0)), (1, .ref (B 0))]) hx hb dX0_putInOrder_46 hl (k := 3) rfl rfl (by decide) rfl (fun ls hl => ?_)
            refine lv_goto (tgt := 14) hx hb dX0_putInOrder_49 (by decide) ?_
            obtain rfl := Option.some.inj hf
            exact ih1 (Fo_set_waiting x f42) (v2 + 1) (v3 + (-1)) hk1 _ _ _ hP hD hS (lv_sub hl [2, 3, 1, 0] rfl)
  exact hlp14  FU (Fo_set_count x 0) 0 ((Fo_names (Fo_set_count x 0)) - 1) hf _ _ _ hP hD hS (lv_sub hl [2, 3, 1, 0] rfl)
set_option maxHeartbeats 4000000 in
set_option maxRecDepth 100000 in
theorem c_X0_sumUp (l : Launch) (dC : Nat → ClassId) (dI : Nat → Nat → Nat) (cI cJ : ClassId) (A : Nat → Nat) (hq : Nat) (x : FoS) (r0 : FoS) (hf : Fo_m_sumUp x = some r0) : MWv l yX0_sumUp (wAll yX0_sumUp cX0_sumUp 3 none) ({ frames := 1, cells := 0, slots := 0, locals := 40 } : Room) [.ref (A 0)] hq (dC, dI) (vTy cI cJ) (wFo cI cJ A x) (wFo cI cJ A r0) := by
  refine kg_metW (Qc := fun Q => QWv (dC, dI) Q (wFo cI cJ A r0)) (cc := cX0_sumUp) (maxL := 3) (ret := none) (by decide) rfl (Nat.le_of_ble_eq_true rfl) ?_
  intro p e s m args below meth c Q hx hb hr hts hown hlk hml hP hK hN hD hA hS ls hl
  have hl : lv_has ls 3 [(0, .ref (A 0))] := hl
  have ww0 := hts (.fieldLink RX0 45 "SafeBlocks$Forest" "count" "I") (List.mem_cons_of_mem _ wd_4_3)
  have ww1 := hts (.fieldLink RX0 33 "SafeBlocks$Forest" "order" "[I") (List.mem_cons_of_mem _ wd_3_23)
  have ww2 := hts (.fieldLink RX0 9 "SafeBlocks$Forest" "parent" "[I") (List.mem_cons_of_mem _ wd_3_16)
  have ww3 := hts (.fieldLink RX0 27 "SafeBlocks$Forest" "below" "[I") (List.mem_cons_of_mem _ wd_3_21)
  have hiX0 : ∀ w ∈ u_ws RX0 TX0 13, w ∈ wAll yX0_sumUp cX0_sumUp 3 none := fun w h => List.mem_cons_of_mem _ (inlX0 w h)
  suffices hgo : ∀ (H : Heap) (locs : List Loc), va_P (dC, dI) vwCl (wFo cI cJ A x) H → va_S Q s.heap H locs → W p l e ({ frames := 1, cells := 0, slots := 0, locals := 40 } : Room) s m args below meth c H locs 0 0 (MQ below (QWv (dC, dI) Q (wFo cI cJ A r0)) args s 0 0 Q) (F0 m 0 ls []) from hgo _ _ hP hS
  clear hP hS
  intro H locs hP hS
  unfold Fo_m_sumUp at hf
  refine lv_aload_n hx hb dX0_sumUp_0 rfl (lv_at hl 0 rfl) ?_
  refine va_get (D := (dC, dI)) (ci := 0) (v := .int (Fo_count x)) (C := RX0) (T := TX0) (N := 13) hx hb hts hiX0 hown hK hP 0 rfl rfl 11 (by decide) ww0 (fun _ h9 => h9) rfl dX0_sumUp_1 ?_
  refine lv_iconst (v := 1) hx hb dX0_sumUp_4 (by decide) ?_
  refine lv_isub hx hb dX0_sumUp_5 ?_
  refine lv_istore_n (lv' := [(1, .int ((Fo_count x) - 1)), (0, .ref (A 0))]) hx hb dX0_sumUp_6 rfl hl (by decide) rfl (fun ls hl => ?_)
  have hlp7 : ∀ (n : Nat) (x : FoS) (v1 : Int32), iter (fun p : FoS × Int32 => Fo_m_sumUp_s7 p.1 p.2) n (x, v1) = some r0 → ∀ (H : Heap) (locs : List Loc) (ls : Array Slot), va_P (dC, dI) vwCl (wFo cI cJ A x) H → va_D Q (wFo cI cJ A x) → va_S Q s.heap H locs → lv_has ls 3 [(0, .ref (A 0)), (1, .int v1)] → W p l e ({ frames := 1, cells := 0, slots := 0, locals := 40 } : Room) s m args below meth c H locs 0 0 (MQ below (QWv (dC, dI) Q (wFo cI cJ A r0)) args s 0 0 Q) (F0 m 7 ls []) := by
    intro  n
    induction n with
    | zero => intro x v1 hf; exact iter_zero hf
    | succ n ih1 =>
      intro x v1 hf H locs ls hP hD hS hl
      obtain ⟨q1, hf, hk1⟩ := iter_succ hf
      have hf : Fo_m_sumUp_s7 x v1 = some q1 := hf
      unfold Fo_m_sumUp_s7 at hf
      refine lv_iload_n hx hb dX0_sumUp_7 rfl (lv_at hl 1 rfl) ?_
      refine kg_if_lt (tgt := 54) hx hb hf dX0_sumUp_8 (by decide) (fun hc hf => ?_) (fun hc hf => ?_)
      · obtain ⟨qq, hf, hqq⟩ := omap_some hf
        have hkq : qq = r0 := by rw [← hqq] at hk1; exact hk1
        rw [hkq] at hf
        clear hkq hqq
        obtain rfl := Option.some.inj hf
        exact kg_vretW hx hb hr hlk hP hD hS dX0_sumUp_54
      · refine lv_aload_n hx hb dX0_sumUp_11 rfl (lv_at hl 0 rfl) ?_
        refine va_get (D := (dC, dI)) (ci := 0) (v := .ref (A 8)) (C := RX0) (T := TX0) (N := 13) hx hb hts hiX0 hown hK hP 0 rfl rfl 7 (by decide) ww1 (fun _ h9 => h9) rfl dX0_sumUp_12 ?_
        refine lv_iload_n hx hb dX0_sumUp_15 rfl (lv_at hl 1 rfl) ?_
        obtain ⟨g16, hv, hf⟩ := ob_bind hf
        refine kg_iald hx hb hK hP 8 0 rfl rfl hv dX0_sumUp_16 ?_
        refine lv_istore_n (lv' := [(2, .int g16), (0, .ref (A 0)), (1, .int v1)]) hx hb dX0_sumUp_17 rfl hl (by decide) rfl (fun ls hl => ?_)
        refine lv_aload_n hx hb dX0_sumUp_18 rfl (lv_at hl 1 rfl) ?_
        refine va_get (D := (dC, dI)) (ci := 0) (v := .ref (A 1)) (C := RX0) (T := TX0) (N := 13) hx hb hts hiX0 hown hK hP 0 rfl rfl 0 (by decide) ww2 (fun _ h9 => h9) rfl dX0_sumUp_19 ?_
        refine lv_iload_n hx hb dX0_sumUp_22 rfl (lv_at hl 0 rfl) ?_
        obtain ⟨g23, hv, hf⟩ := ob_bind hf
        refine kg_iald hx hb hK hP 1 0 rfl rfl hv dX0_sumUp_23 ?_
        refine lv_iconst (v := (-1)) hx hb dX0_sumUp_24 (by decide) ?_
        refine kg_icmp_eq (tgt := 48) hx hb hf dX0_sumUp_25 (by decide) (fun hc hf => ?_) (fun hc hf => ?_)
        · refine lv_iinc (v := (v1 + (-1))) (lv' := [(1, .int (v1 + (-1))), (2, .int g16), (0, .ref (A 0))]) hx hb dX0_sumUp_48 hl (k := 2) rfl rfl (by decide) rfl (fun ls hl => ?_)
          refine lv_goto (tgt := 7) hx hb dX0_sumUp_51 (by decide) ?_
          obtain rfl := Option.some.inj hf
          exact ih1 x (v1 + (-1)) hk1 _ _ _ hP hD hS (lv_sub hl [2, 0] rfl)
        · refine lv_aload_n hx hb dX0_sumUp_28 rfl (lv_at hl 1 rfl) ?_
          refine va_get (D := (dC, dI)) (ci := 0) (v := .ref (A 6)) (C := RX0) (T := TX0) (N := 13) hx hb hts hiX0 hown hK hP 0 rfl rfl 5 (by decide) ww3 (fun _ h9 => h9) rfl dX0_sumUp_29 ?_
          refine lv_aload_n hx hb dX0_sumUp_32 rfl (lv_at hl 1 rfl) ?_
          refine va_get (D := (dC, dI)) (ci := 0) (v := .ref (A 1)) (C := RX0) (T := TX0) (N := 13) hx hb hts hiX0 hown hK hP 0 rfl rfl 0 (by decide) ww2 (fun _ h9 => h9) rfl dX0_sumUp_33 ?_
          refine lv_iload_n hx hb dX0_sumUp_36 rfl (lv_at hl 0 rfl) ?_
          obtain ⟨g37, hv, hf⟩ := ob_bind hf
          refine kg_iald hx hb hK hP 1 0 rfl rfl hv dX0_sumUp_37 ?_
          refine lv_dup2_11 hx hb dX0_sumUp_38 rfl rfl ?_
          obtain ⟨g39, hv, hf⟩ := ob_bind hf
          refine kg_iald hx hb hK hP 6 0 rfl rfl hv dX0_sumUp_39 ?_
          refine lv_aload_n hx hb dX0_sumUp_40 rfl (lv_at hl 1 rfl) ?_
          refine va_get (D := (dC, dI)) (ci := 0) (v := .ref (A 6)) (C := RX0) (T := TX0) (N := 13) hx hb hts hiX0 hown hK hP 0 rfl rfl 5 (by decide) ww3 (fun _ h9 => h9) rfl dX0_sumUp_41 ?_
          refine lv_iload_n hx hb dX0_sumUp_44 rfl (lv_at hl 0 rfl) ?_
          obtain ⟨g45, hv, hf⟩ := ob_bind hf
          refine kg_iald hx hb hK hP 6 0 rfl rfl hv dX0_sumUp_45 ?_
          refine lv_iadd hx hb dX0_sumUp_46 ?_
          obtain ⟨f47, hv, hf⟩ := ob_bind hf
          refine kg_iast (wz := (wFo cI cJ A (Fo_set_below x f47))) hx hb hK hP hD hS 6 0 rfl rfl hv dX0_sumUp_47 (sc_Fo_below _ _ _ _ _) (fun H locs hP hD hS => ?_)
          refine lv_iinc (v := (v1 + (-1))) (lv' := [(1, .int (v1 + (-1))), (2, .int g16), (0, .ref (A 0))]) hx hb dX0_sumUp_48 hl (k := 2) rfl rfl (by decide) rfl (fun ls hl => ?_)
          refine lv_goto (tgt := 7) hx hb dX0_sumUp_51 (by decide) ?_
          obtain rfl := Option.some.inj hf
          exact ih1 (Fo_set_below x f47) (v1 + (-1)) hk1 _ _ _ hP hD hS (lv_sub hl [2, 0] rfl)
  exact hlp7  FU x ((Fo_count x) - 1) hf _ _ _ hP hD hS (lv_sub hl [1, 0] rfl)
set_option maxHeartbeats 4000000 in
set_option maxRecDepth 100000 in
theorem c_X0_read (l : Launch) (dC : Nat → ClassId) (dI : Nat → Nat → Nat) (cI cJ : ClassId) (A : Nat → Nat) (B : Nat → Nat) (hq : Nat) (x : FoS) (y : WbS) (r0 : FoS) (hf : Fo_m_read x y = some r0) : MWv l yX0_read (wAll yX0_read cX0_read 3 none) ({ frames := 3, cells := 0, slots := 0, locals := 87 } : Room) [.ref (A 0), .ref (B 0)] hq (dC, dI) (vTy cI cJ) (wFo cI cJ A x ++ (wWb cI cJ B y)) (wFo cI cJ A r0 ++ (wWb cI cJ B y)) := by
  refine kg_metW (Qc := fun Q => QWv (dC, dI) Q (wFo cI cJ A r0 ++ (wWb cI cJ B y))) (cc := cX0_read) (maxL := 3) (ret := none) (by decide) rfl (Nat.le_of_ble_eq_true rfl) ?_
  intro p e s m args below meth c Q hx hb hr hts hown hlk hml hP hK hN hD hA hS ls hl
  have hl : lv_has ls 3 [(0, .ref (A 0)), (1, .ref (B 0))] := hl
  have ww0 := hts (.fieldLink RX0 52 "SafeBlocks$Web" "nodes" "I") (List.mem_cons_of_mem _ wd_5_18)
  have ww1 := hts (.fieldLink RX0 49 "SafeBlocks$Forest" "names" "I") (List.mem_cons_of_mem _ wd_4_4)
  have ww2 := hts (.fieldLink RX0 64 "SafeBlocks$Web" "blocks" "LSafeBlocks$Names;") (List.mem_cons_of_mem _ wd_5_19)
  have ww3 := hts (.fieldLink RX0 9 "SafeBlocks$Forest" "parent" "[I") (List.mem_cons_of_mem _ wd_3_16)
  have ww4 := hts (.fieldLink RX0 15 "SafeBlocks$Forest" "upLink" "[I") (List.mem_cons_of_mem _ wd_3_17)
  have ww5 := hts (.fieldLink RX0 21 "SafeBlocks$Forest" "children" "[I") (List.mem_cons_of_mem _ wd_3_19)
  have ww6 := hts (.fieldLink RX0 24 "SafeBlocks$Forest" "bridgesAt" "[I") (List.mem_cons_of_mem _ wd_3_20)
  have ww7 := hts (.fieldLink RX0 27 "SafeBlocks$Forest" "below" "[I") (List.mem_cons_of_mem _ wd_3_21)
  have ww8 := hts (.fieldLink RX0 36 "SafeBlocks$Forest" "lastChild" "[I") (List.mem_cons_of_mem _ wd_4_0)
  have ww9 := hts (.fieldLink RX0 39 "SafeBlocks$Forest" "childBefore" "[I") (List.mem_cons_of_mem _ wd_4_1)
  have hiX4 : ∀ w ∈ u_ws RX4 TX4 16, w ∈ wAll yX0_read cX0_read 3 none := fun w h => List.mem_cons_of_mem _ (inlX4 w h)
  have hiX0 : ∀ w ∈ u_ws RX0 TX0 13, w ∈ wAll yX0_read cX0_read 3 none := fun w h => List.mem_cons_of_mem _ (inlX0 w h)
  suffices hgo : ∀ (H : Heap) (locs : List Loc), va_P (dC, dI) vwCl (wFo cI cJ A x ++ (wWb cI cJ B y)) H → va_S Q s.heap H locs → W p l e ({ frames := 3, cells := 0, slots := 0, locals := 87 } : Room) s m args below meth c H locs 0 0 (MQ below (QWv (dC, dI) Q (wFo cI cJ A r0 ++ (wWb cI cJ B y))) args s 0 0 Q) (F0 m 0 ls []) from hgo _ _ hP hS
  clear hP hS
  intro H locs hP hS
  unfold Fo_m_read at hf
  refine lv_aload_n hx hb dX0_read_0 rfl (lv_at hl 0 rfl) ?_
  refine lv_aload_n hx hb dX0_read_1 rfl (lv_at hl 1 rfl) ?_
  refine va_get (D := (dC, dI)) (ci := 4) (v := .int (Wb_nodes y)) (C := RX4) (T := TX4) (N := 16) hx hb hts hiX4 hown hK hP 12 rfl rfl 10 (by decide) ww0 (fun _ h9 => h9) rfl dX0_read_2 ?_
  refine kg_put (ci := 0) (v := .int (Wb_nodes y)) (ty := .int) (C := RX0) (T := TX0) (N := 13) (wz := (wFo cI cJ A (Fo_set_names x (Wb_nodes y)) ++ (wWb cI cJ B y))) hx hb hts hiX0 tyX0 tyX0_ok nmX0 hown hK hP hD hS 0 rfl rfl 12 (by decide) ww1 (fun _ h9 => h9) rfl (tyX0_ok 12 (by decide)) rfl rfl (Nat.le_of_ble_eq_true rfl) dX0_read_5 (sce_Fo_names _ _ _ _ _ _) (fun H locs hP hD hS => ?_)
  refine lv_iconst (v := 0) hx hb dX0_read_8 (by decide) ?_
  refine lv_istore_n (lv' := [(2, .int 0), (0, .ref (A 0)), (1, .ref (B 0))]) hx hb dX0_read_9 rfl hl (by decide) rfl (fun ls hl => ?_)
  have hlp10 : ∀ (n : Nat) (x : FoS) (v2 : Int32), iter (fun p : FoS × Int32 => Fo_m_read_s10 y p.1 p.2) n (x, v2) = some r0 → ∀ (H : Heap) (locs : List Loc) (ls : Array Slot), va_P (dC, dI) vwCl (wFo cI cJ A x ++ (wWb cI cJ B y)) H → va_D Q (wFo cI cJ A x ++ (wWb cI cJ B y)) → va_S Q s.heap H locs → lv_has ls 3 [(0, .ref (A 0)), (1, .ref (B 0)), (2, .int v2)] → W p l e ({ frames := 3, cells := 0, slots := 0, locals := 87 } : Room) s m args below meth c H locs 0 0 (MQ below (QWv (dC, dI) Q (wFo cI cJ A r0 ++ (wWb cI cJ B y))) args s 0 0 Q) (F0 m 10 ls []) := by
    intro  n
    induction n with
    | zero => intro x v2 hf; exact iter_zero hf
    | succ n ih1 =>
      intro x v2 hf H locs ls hP hD hS hl
      obtain ⟨q1, hf, hk1⟩ := iter_succ hf
      have hf : Fo_m_read_s10 y x v2 = some q1 := hf
      unfold Fo_m_read_s10 at hf
      refine lv_iload_n hx hb dX0_read_10 rfl (lv_at hl 2 rfl) ?_
      refine lv_aload_n hx hb dX0_read_11 rfl (lv_at hl 0 rfl) ?_
      refine va_get (D := (dC, dI)) (ci := 0) (v := .int (Fo_names x)) (C := RX0) (T := TX0) (N := 13) hx hb hts hiX0 hown hK hP 0 rfl rfl 12 (by decide) ww1 (fun _ h9 => h9) rfl dX0_read_12 ?_
      refine kg_icmp_ge (tgt := 73) hx hb hf dX0_read_15 (by decide) (fun hc hf => ?_) (fun hc hf => ?_)
      · obtain ⟨qq, hf, hqq⟩ := omap_some hf
        have hkq : qq = r0 := by rw [← hqq] at hk1; exact hk1
        rw [hkq] at hf
        clear hkq hqq
        refine lv_aload_n hx hb dX0_read_73 rfl (lv_at hl 0 rfl) ?_
        refine lv_aload_n hx hb dX0_read_74 rfl (lv_at hl 1 rfl) ?_
        obtain ⟨g75, hc, hf⟩ := ob_bind hf
        have hPx : va_P (dC, dI) vwCl (([] : va_W) ++ ((wFo cI cJ A x ++ (wWb cI cJ B y)) ++ ([] : va_W))) H := hP.sub [0, 1, 2, 3, 4, 5, 6, 7, 8, 9, 10, 11, 12, 13, 14, 15, 16, 17, 18, 19, 20, 21, 22, 23, 24, 25, 26, 27, 28, 29, 30, 31, 32, 33, 34] rfl
        have hDx : va_D Q (([] : va_W) ++ ((wFo cI cJ A x ++ (wWb cI cJ B y)) ++ ([] : va_W))) := hD.sub [0, 1, 2, 3, 4, 5, 6, 7, 8, 9, 10, 11, 12, 13, 14, 15, 16, 17, 18, 19, 20, 21, 22, 23, 24, 25, 26, 27, 28, 29, 30, 31, 32, 33, 34] (by decide) rfl
        refine kg_retWv (pre := []) (wc := wFo cI cJ A x ++ (wWb cI cJ B y)) (post := ([] : va_W)) (w1 := wFo cI cJ A g75 ++ (wWb cI cJ B y)) rfl hPx hDx hS hA (va_runV (As := [.ref (B 0)]) (rest := []) ⟨hx, hb, hml, hown, hts⟩ (c_X0_readNodes l dC dI cI cJ A B H.size x y _ hc) (cwV 1 hts (gw_V wd_5_23 wd_5_20 wd_5_21 wd_5_22 wd_1_19) rfl rfl rfl qX0_readNodes ⟨Nat.le_of_ble_eq_true rfl, Nat.le_of_ble_eq_true rfl⟩) (kg_preVW (ci := 0) (q := (RX0, TX0, 13)) (q0 := 0) (kg_cutP hPx) (kg_cutD hDx) hK hN rfl rfl) rfl rfl hl.1 rfl (lv_room (Nat.le_of_ble_eq_true rfl)) dX0_read_75 ⟨Nat.zero_le _, Nat.zero_le _⟩) (fun H locs hP hD hS => ?_)
        have hP : va_P (dC, dI) vwCl (wFo cI cJ A g75 ++ (wWb cI cJ B y)) H := hP.sub [0, 1, 2, 3, 4, 5, 6, 7, 8, 9, 10, 11, 12, 13, 14, 15, 16, 17, 18, 19, 20, 21, 22, 23, 24, 25, 26, 27, 28, 29, 30, 31, 32, 33, 34] rfl
        have hD : va_D Q (wFo cI cJ A g75 ++ (wWb cI cJ B y)) := hD.sub [0, 1, 2, 3, 4, 5, 6, 7, 8, 9, 10, 11, 12, 13, 14, 15, 16, 17, 18, 19, 20, 21, 22, 23, 24, 25, 26, 27, 28, 29, 30, 31, 32, 33, 34] (by decide) rfl
        refine lv_aload_n hx hb dX0_read_78 rfl (lv_at hl 0 rfl) ?_
        obtain ⟨g79, hc, hf⟩ := ob_bind hf
        have hPx : va_P (dC, dI) vwCl ((([] : va_W)) ++ ((wFo cI cJ A g75) ++ ((oWb cI cJ B y) ++ ((wNm cI cJ 32 (fun i => B (i + 8)) (Wb_blocks y)) ++ ((wNm cI cJ 32 (fun i => B (i + 13)) (Wb_lands y)) ++ ((wNm cI cJ 64 (fun i => B (i + 18)) (Wb_parts y)))))))) H := hP
        have hDx : va_D Q ((([] : va_W)) ++ ((wFo cI cJ A g75) ++ ((oWb cI cJ B y) ++ ((wNm cI cJ 32 (fun i => B (i + 8)) (Wb_blocks y)) ++ ((wNm cI cJ 32 (fun i => B (i + 13)) (Wb_lands y)) ++ ((wNm cI cJ 64 (fun i => B (i + 18)) (Wb_parts y)))))))) := hD
        refine kg_retWv (pre := ([] : va_W)) (wc := wFo cI cJ A g75) (post := (oWb cI cJ B y) ++ ((wNm cI cJ 32 (fun i => B (i + 8)) (Wb_blocks y)) ++ ((wNm cI cJ 32 (fun i => B (i + 13)) (Wb_lands y)) ++ ((wNm cI cJ 64 (fun i => B (i + 18)) (Wb_parts y)))))) (w1 := wFo cI cJ A g79) (wz := (wFo cI cJ A g79 ++ (wWb cI cJ B y))) rfl hPx hDx hS hA (va_runV (As := []) (rest := []) ⟨hx, hb, hml, hown, hts⟩ (c_X0_hangChildren l dC dI cI cJ A H.size g75 _ hc) (cwV 0 hts (gw_V wd_6_10 wd_6_7 wd_6_8 wd_6_9 wd_1_19) rfl rfl rfl qX0_hangChildren ⟨Nat.le_of_ble_eq_true rfl, Nat.le_of_ble_eq_true rfl⟩) (kg_preVW (ci := 0) (q := (RX0, TX0, 13)) (q0 := 0) (kg_cutP hPx) (kg_cutD hDx) hK hN rfl rfl) rfl rfl hl.1 rfl (lv_room (Nat.le_of_ble_eq_true rfl)) dX0_read_79 ⟨Nat.zero_le _, Nat.zero_le _⟩) (fun H locs hP hD hS => ?_)
        refine lv_aload_n hx hb dX0_read_82 rfl (lv_at hl 0 rfl) ?_
        refine lv_aload_n hx hb dX0_read_83 rfl (lv_at hl 1 rfl) ?_
        refine va_get (D := (dC, dI)) (ci := 4) (v := .ref (B 8)) (C := RX4) (T := TX4) (N := 16) hx hb hts hiX4 hown hK hP 12 rfl rfl 7 (by decide) ww2 (fun _ h9 => h9) rfl dX0_read_84 ?_
        obtain ⟨g87, hc, hf⟩ := ob_bind hf
        have hPx : va_P (dC, dI) vwCl (([] : va_W) ++ ((wFo cI cJ A g79 ++ (wNm cI cJ 32 (fun i => B (i + 8)) (Wb_blocks y))) ++ (((oWb cI cJ B y) ++ ((wNm cI cJ 32 (fun i => B (i + 13)) (Wb_lands y)) ++ (wNm cI cJ 64 (fun i => B (i + 18)) (Wb_parts y))))))) H := hP.sub [0, 1, 2, 3, 4, 5, 6, 7, 8, 9, 10, 11, 20, 21, 22, 23, 24, 12, 13, 14, 15, 16, 17, 18, 19, 25, 26, 27, 28, 29, 30, 31, 32, 33, 34] rfl
        have hDx : va_D Q (([] : va_W) ++ ((wFo cI cJ A g79 ++ (wNm cI cJ 32 (fun i => B (i + 8)) (Wb_blocks y))) ++ (((oWb cI cJ B y) ++ ((wNm cI cJ 32 (fun i => B (i + 13)) (Wb_lands y)) ++ (wNm cI cJ 64 (fun i => B (i + 18)) (Wb_parts y))))))) := hD.sub [0, 1, 2, 3, 4, 5, 6, 7, 8, 9, 10, 11, 20, 21, 22, 23, 24, 12, 13, 14, 15, 16, 17, 18, 19, 25, 26, 27, 28, 29, 30, 31, 32, 33, 34] (by decide) rfl
        refine kg_retWv (pre := []) (wc := wFo cI cJ A g79 ++ (wNm cI cJ 32 (fun i => B (i + 8)) (Wb_blocks y))) (post := (((oWb cI cJ B y) ++ ((wNm cI cJ 32 (fun i => B (i + 13)) (Wb_lands y)) ++ (wNm cI cJ 64 (fun i => B (i + 18)) (Wb_parts y)))))) (w1 := wFo cI cJ A g87 ++ (wNm cI cJ 32 (fun i => B (i + 8)) (Wb_blocks y))) rfl hPx hDx hS hA (va_runV (As := [.ref (B 8)]) (rest := []) ⟨hx, hb, hml, hown, hts⟩ (c_X0_putInOrder l dC dI cI cJ A (fun i => B (i + 8)) H.size g79 32 (Wb_blocks y) _ hc) (cwV 1 hts (gw_V wd_6_14 wd_6_11 wd_6_12 wd_6_13 wd_1_19) rfl rfl rfl qX0_putInOrder ⟨Nat.le_of_ble_eq_true rfl, Nat.le_of_ble_eq_true rfl⟩) (kg_preVW (ci := 0) (q := (RX0, TX0, 13)) (q0 := 0) (kg_cutP hPx) (kg_cutD hDx) hK hN rfl rfl) rfl rfl hl.1 rfl (lv_room (Nat.le_of_ble_eq_true rfl)) dX0_read_87 ⟨Nat.zero_le _, Nat.zero_le _⟩) (fun H locs hP hD hS => ?_)
        have hP : va_P (dC, dI) vwCl (wFo cI cJ A g87 ++ (wWb cI cJ B y)) H := hP.sub [0, 1, 2, 3, 4, 5, 6, 7, 8, 9, 10, 11, 17, 18, 19, 20, 21, 22, 23, 24, 12, 13, 14, 15, 16, 25, 26, 27, 28, 29, 30, 31, 32, 33, 34] rfl
        have hD : va_D Q (wFo cI cJ A g87 ++ (wWb cI cJ B y)) := hD.sub [0, 1, 2, 3, 4, 5, 6, 7, 8, 9, 10, 11, 17, 18, 19, 20, 21, 22, 23, 24, 12, 13, 14, 15, 16, 25, 26, 27, 28, 29, 30, 31, 32, 33, 34] (by decide) rfl
        refine lv_aload_n hx hb dX0_read_90 rfl (lv_at hl 0 rfl) ?_
        obtain ⟨g91, hc, hf⟩ := ob_bind hf
        have hPx : va_P (dC, dI) vwCl ((([] : va_W)) ++ ((wFo cI cJ A g87) ++ ((oWb cI cJ B y) ++ ((wNm cI cJ 32 (fun i => B (i + 8)) (Wb_blocks y)) ++ ((wNm cI cJ 32 (fun i => B (i + 13)) (Wb_lands y)) ++ ((wNm cI cJ 64 (fun i => B (i + 18)) (Wb_parts y)))))))) H := hP
        have hDx : va_D Q ((([] : va_W)) ++ ((wFo cI cJ A g87) ++ ((oWb cI cJ B y) ++ ((wNm cI cJ 32 (fun i => B (i + 8)) (Wb_blocks y)) ++ ((wNm cI cJ 32 (fun i => B (i + 13)) (Wb_lands y)) ++ ((wNm cI cJ 64 (fun i => B (i + 18)) (Wb_parts y)))))))) := hD
        refine kg_retWv (pre := ([] : va_W)) (wc := wFo cI cJ A g87) (post := (oWb cI cJ B y) ++ ((wNm cI cJ 32 (fun i => B (i + 8)) (Wb_blocks y)) ++ ((wNm cI cJ 32 (fun i => B (i + 13)) (Wb_lands y)) ++ ((wNm cI cJ 64 (fun i => B (i + 18)) (Wb_parts y)))))) (w1 := wFo cI cJ A g91) (wz := (wFo cI cJ A g91 ++ (wWb cI cJ B y))) rfl hPx hDx hS hA (va_runV (As := []) (rest := []) ⟨hx, hb, hml, hown, hts⟩ (c_X0_sumUp l dC dI cI cJ A H.size g87 _ hc) (cwV 0 hts (gw_V wd_6_22 wd_6_19 wd_6_20 wd_6_21 wd_1_19) rfl rfl rfl qX0_sumUp ⟨Nat.le_of_ble_eq_true rfl, Nat.le_of_ble_eq_true rfl⟩) (kg_preVW (ci := 0) (q := (RX0, TX0, 13)) (q0 := 0) (kg_cutP hPx) (kg_cutD hDx) hK hN rfl rfl) rfl rfl hl.1 rfl (lv_room (Nat.le_of_ble_eq_true rfl)) dX0_read_91 ⟨Nat.zero_le _, Nat.zero_le _⟩) (fun H locs hP hD hS => ?_)
        obtain rfl := Option.some.inj hf
        exact kg_vretW hx hb hr hlk hP hD hS dX0_read_94
      · refine lv_aload_n hx hb dX0_read_18 rfl (lv_at hl 0 rfl) ?_
        refine va_get (D := (dC, dI)) (ci := 0) (v := .ref (A 1)) (C := RX0) (T := TX0) (N := 13) hx hb hts hiX0 hown hK hP 0 rfl rfl 0 (by decide) ww3 (fun _ h9 => h9) rfl dX0_read_19 ?_
        refine lv_iload_n hx hb dX0_read_22 rfl (lv_at hl 2 rfl) ?_
        refine lv_iconst (v := (-1)) hx hb dX0_read_23 (by decide) ?_
        obtain ⟨f24, hv, hf⟩ := ob_bind hf
        refine kg_iast (wz := (wFo cI cJ A (Fo_set_parent x f24) ++ (wWb cI cJ B y))) hx hb hK hP hD hS 1 0 rfl rfl hv dX0_read_24 (sce_Fo_parent _ _ _ _ _ _) (fun H locs hP hD hS => ?_)
        refine lv_aload_n hx hb dX0_read_25 rfl (lv_at hl 0 rfl) ?_
        refine va_get (D := (dC, dI)) (ci := 0) (v := .ref (A 2)) (C := RX0) (T := TX0) (N := 13) hx hb hts hiX0 hown hK hP 0 rfl rfl 1 (by decide) ww4 (fun _ h9 => h9) rfl dX0_read_26 ?_
        refine lv_iload_n hx hb dX0_read_29 rfl (lv_at hl 2 rfl) ?_
        refine lv_iconst (v := (-1)) hx hb dX0_read_30 (by decide) ?_
        obtain ⟨f31, hv, hf⟩ := ob_bind hf
        refine kg_iast (wz := (wFo cI cJ A (Fo_set_upLink (Fo_set_parent x f24) f31) ++ (wWb cI cJ B y))) hx hb hK hP hD hS 2 0 rfl rfl hv dX0_read_31 (sce_Fo_upLink _ _ _ _ _ _) (fun H locs hP hD hS => ?_)
        refine lv_aload_n hx hb dX0_read_32 rfl (lv_at hl 0 rfl) ?_
        refine va_get (D := (dC, dI)) (ci := 0) (v := .ref (A 4)) (C := RX0) (T := TX0) (N := 13) hx hb hts hiX0 hown hK hP 0 rfl rfl 3 (by decide) ww5 (fun _ h9 => h9) rfl dX0_read_33 ?_
        refine lv_iload_n hx hb dX0_read_36 rfl (lv_at hl 2 rfl) ?_
        refine lv_iconst (v := 0) hx hb dX0_read_37 (by decide) ?_
        obtain ⟨f38, hv, hf⟩ := ob_bind hf
        refine kg_iast (wz := (wFo cI cJ A (Fo_set_children (Fo_set_upLink (Fo_set_parent x f24) f31) f38) ++ (wWb cI cJ B y))) hx hb hK hP hD hS 4 0 rfl rfl hv dX0_read_38 (sce_Fo_children _ _ _ _ _ _) (fun H locs hP hD hS => ?_)
        refine lv_aload_n hx hb dX0_read_39 rfl (lv_at hl 0 rfl) ?_
        refine va_get (D := (dC, dI)) (ci := 0) (v := .ref (A 5)) (C := RX0) (T := TX0) (N := 13) hx hb hts hiX0 hown hK hP 0 rfl rfl 4 (by decide) ww6 (fun _ h9 => h9) rfl dX0_read_40 ?_
        refine lv_iload_n hx hb dX0_read_43 rfl (lv_at hl 2 rfl) ?_
        refine lv_iconst (v := 0) hx hb dX0_read_44 (by decide) ?_
        obtain ⟨f45, hv, hf⟩ := ob_bind hf
        refine kg_iast (wz := (wFo cI cJ A (Fo_set_bridgesAt (Fo_set_children (Fo_set_upLink (Fo_set_parent x f24) f31) f38) f45) ++ (wWb cI cJ B y))) hx hb hK hP hD hS 5 0 rfl rfl hv dX0_read_45 (sce_Fo_bridgesAt _ _ _ _ _ _) (fun H locs hP hD hS => ?_)
        refine lv_aload_n hx hb dX0_read_46 rfl (lv_at hl 0 rfl) ?_
        refine va_get (D := (dC, dI)) (ci := 0) (v := .ref (A 6)) (C := RX0) (T := TX0) (N := 13) hx hb hts hiX0 hown hK hP 0 rfl rfl 5 (by decide) ww7 (fun _ h9 => h9) rfl dX0_read_47 ?_
        refine lv_iload_n hx hb dX0_read_50 rfl (lv_at hl 2 rfl) ?_
        refine lv_iconst (v := 0) hx hb dX0_read_51 (by decide) ?_
        obtain ⟨f52, hv, hf⟩ := ob_bind hf
        refine kg_iast (wz := (wFo cI cJ A (Fo_set_below (Fo_set_bridgesAt (Fo_set_children (Fo_set_upLink (Fo_set_parent x f24) f31) f38) f45) f52) ++ (wWb cI cJ B y))) hx hb hK hP hD hS 6 0 rfl rfl hv dX0_read_52 (sce_Fo_below _ _ _ _ _ _) (fun H locs hP hD hS => ?_)
        refine lv_aload_n hx hb dX0_read_53 rfl (lv_at hl 0 rfl) ?_
        refine va_get (D := (dC, dI)) (ci := 0) (v := .ref (A 9)) (C := RX0) (T := TX0) (N := 13) hx hb hts hiX0 hown hK hP 0 rfl rfl 8 (by decide) ww8 (fun _ h9 => h9) rfl dX0_read_54 ?_
        refine lv_iload_n hx hb dX0_read_57 rfl (lv_at hl 2 rfl) ?_
        refine lv_iconst (v := (-1)) hx hb dX0_read_58 (by decide) ?_
        obtain ⟨f59, hv, hf⟩ := ob_bind hf
        refine kg_iast (wz := (wFo cI cJ A (Fo_set_lastChild (Fo_set_below (Fo_set_bridgesAt (Fo_set_children (Fo_set_upLink (Fo_set_parent x f24) f31) f38) f45) f52) f59) ++ (wWb cI cJ B y))) hx hb hK hP hD hS 9 0 rfl rfl hv dX0_read_59 (sce_Fo_lastChild _ _ _ _ _ _) (fun H locs hP hD hS => ?_)
        refine lv_aload_n hx hb dX0_read_60 rfl (lv_at hl 0 rfl) ?_
        refine va_get (D := (dC, dI)) (ci := 0) (v := .ref (A 10)) (C := RX0) (T := TX0) (N := 13) hx hb hts hiX0 hown hK hP 0 rfl rfl 9 (by decide) ww9 (fun _ h9 => h9) rfl dX0_read_61 ?_
        refine lv_iload_n hx hb dX0_read_64 rfl (lv_at hl 2 rfl) ?_
        refine lv_iconst (v := (-1)) hx hb dX0_read_65 (by decide) ?_
        obtain ⟨f66, hv, hf⟩ := ob_bind hf
        refine kg_iast (wz := (wFo cI cJ A (Fo_set_childBefore (Fo_set_lastChild (Fo_set_below (Fo_set_bridgesAt (Fo_set_children (Fo_set_upLink (Fo_set_parent x f24) f31) f38) f45) f52) f59) f66) ++ (wWb cI cJ B y))) hx hb hK hP hD hS 10 0 rfl rfl hv dX0_read_66 (sce_Fo_childBefore _ _ _ _ _ _) (fun H locs hP hD hS => ?_)
        refine lv_iinc (v := (v2 + 1)) (lv' := [(2, .int (v2 + 1)), (0, .ref (A 0)), (1, .ref (B 0))]) hx hb dX0_read_67 hl (k := 2) rfl rfl (by decide) rfl (fun ls hl => ?_)
        refine lv_goto (tgt := 10) hx hb dX0_read_70 (by decide) ?_
        obtain rfl := Option.some.inj hf
        exact ih1 (Fo_set_childBefore (Fo_set_lastChild (Fo_set_below (Fo_set_bridgesAt (Fo_set_children (Fo_set_upLink (Fo_set_parent x f24) f31) f38) f45) f52) f59) f66) (v2 + 1) hk1 _ _ _ hP hD hS (lv_sub hl [1, 2, 0] rfl)
  exact hlp10  FU (Fo_set_names x (Wb_nodes y)) 0 hf _ _ _ hP hD hS (lv_sub hl [1, 2, 0] rfl)
set_option maxHeartbeats 4000000 in
set_option maxRecDepth 100000 in
theorem c_X0_measure (l : Launch) (dC : Nat → ClassId) (dI : Nat → Nat → Nat) (cI cJ : ClassId) (A : Nat → Nat) (hq : Nat) (x : FoS) (v1 : Int32) (r0 : FoS) (hf : Fo_m_measure x v1 = some r0) : MWv l yX0_measure (wAll yX0_measure cX0_measure 6 none) ({ frames := 2, cells := 0, slots := 0, locals := 64 } : Room) [.ref (A 0), .int v1] hq (dC, dI) (vTy cI cJ) (wFo cI cJ A x) (wFo cI cJ A r0) := by
  refine kg_metW (Qc := fun Q => QWv (dC, dI) Q (wFo cI cJ A r0)) (cc := cX0_measure) (maxL := 6) (ret := none) (by decide) rfl (Nat.le_of_ble_eq_true rfl) ?_
  intro p e s m args below meth c Q hx hb hr hts hown hlk hml hP hK hN hD hA hS ls hl
  have hl : lv_has ls 6 [(0, .ref (A 0)), (1, .int v1)] := hl
  have ww0 := hts (.fieldLink RX0 30 "SafeBlocks$Forest" "away" "[I") (List.mem_cons_of_mem _ wd_3_22)
  have ww1 := hts (.fieldLink RX0 49 "SafeBlocks$Forest" "names" "I") (List.mem_cons_of_mem _ wd_4_4)
  have ww2 := hts (.fieldLink RX0 45 "SafeBlocks$Forest" "count" "I") (List.mem_cons_of_mem _ wd_4_3)
  have ww3 := hts (.fieldLink RX0 33 "SafeBlocks$Forest" "order" "[I") (List.mem_cons_of_mem _ wd_3_23)
  have ww4 := hts (.fieldLink RX0 9 "SafeBlocks$Forest" "parent" "[I") (List.mem_cons_of_mem _ wd_3_16)
  have hiX0 : ∀ w ∈ u_ws RX0 TX0 13, w ∈ wAll yX0_measure cX0_measure 6 none := fun w h => List.mem_cons_of_mem _ (inlX0 w h)
  suffices hgo : ∀ (H : Heap) (locs : List Loc), va_P (dC, dI) vwCl (wFo cI cJ A x) H → va_S Q s.heap H locs → W p l e ({ frames := 2, cells := 0, slots := 0, locals := 64 } : Room) s m args below meth c H locs 0 0 (MQ below (QWv (dC, dI) Q (wFo cI cJ A r0)) args s 0 0 Q) (F0 m 0 ls []) from hgo _ _ hP hS
  clear hP hS
  intro H locs hP hS
  unfold Fo_m_measure at hf
  refine lv_aload_n hx hb dX0_measure_0 rfl (lv_at hl 0 rfl) ?_
  refine va_get (D := (dC, dI)) (ci := 0) (v := .ref (A 7)) (C := RX0) (T := TX0) (N := 13) hx hb hts hiX0 hown hK hP 0 rfl rfl 6 (by decide) ww0 (fun _ h9 => h9) rfl dX0_measure_1 ?_
  refine lv_iconst (v := (-1)) hx hb dX0_measure_4 (by decide) ?_
  have hcl : (wFo cI cJ A x)[7]? = some ((A 7), .inl (cI, 32, .inl (Fo_away x))) := rfl
  have hPx := kg_eqP (kg_take hcl) hP
  have hDx := kg_eqD (kg_take hcl) hD
  refine kg_retWv (pre := List.take 7 (wFo cI cJ A x)) (wc := [((A 7), .inl (cI, 32, .inl (Fo_away x)))]) (post := List.drop 8 (wFo cI cJ A x)) (w1 := [((A 7), .inl (cI, 32, .inl (fillF (Fo_away x) 32 (-1))))]) (wz := (wFo cI cJ A (Fo_set_away x (fillF (Fo_away x) 32 (-1))))) ((kg_takeS hcl).trans (sc_Fo_away _ _ _ _ _)) hPx hDx hS hA (va_runS (As := [.ref (A 7), .int (-1)]) (rest := []) ⟨hx, hb, hml, hown, hts⟩ (c_J7_fillI l dC dI cI cJ (A 7) 32 (Fo_away x) H.size (-1) (Nat.le_of_ble_eq_true rfl)) (va_cwS 2 hts (gw_X wd_7_15 wd_28_17 wd_7_14 wd_7_11) rfl rfl rfl qJ7_fill_53178_o ⟨Nat.le_of_ble_eq_true rfl, Nat.le_of_ble_eq_true rfl⟩) (kg_preSW (kg_cutP hPx) (kg_cutD hDx) hK hN) rfl rfl hl.1 rfl (lv_room (Nat.le_of_ble_eq_true rfl)) dX0_measure_5 ⟨Nat.zero_le _, Nat.zero_le _⟩) (fun H locs hP hD hS => ?_)
  refine lv_iload_n hx hb dX0_measure_8 rfl (lv_at hl 1 rfl) ?_
  refine lv_istore_n (lv' := [(2, .int v1), (0, .ref (A 0)), (1, .int v1)]) hx hb dX0_measure_9 rfl hl (by decide) rfl (fun ls hl => ?_)
  refine lv_iconst (v := 0) hx hb dX0_measure_10 (by decide) ?_
  refine lv_istore_n (lv' := [(3, .int 0), (2, .int v1), (0, .ref (A 0)), (1, .int v1)]) hx hb dX0_measure_11 rfl hl (by decide) rfl (fun ls hl => ?_)
  have hlp12 : ∀ (n : Nat) (x : FoS) (v2 : Int32) (v3 : Int32), iter (fun p : FoS × Int32 × Int32 => Fo_m_measure_s12 p.1 p.2.1 p.2.2) n (x, v2, v3) = some r0 → ∀ (H : Heap) (locs : List Loc) (ls : Array Slot), va_P (dC, dI) vwCl (wFo cI cJ A x) H → va_D Q (wFo cI cJ A x) → va_S Q s.heap H locs → lv_has ls 6 [(0, .ref (A 0)), (2, .int v2), (3, .int v3)] → W p l e ({ frames := 2, cells := 0, slots := 0, locals := 64 } : Room) s m args below meth c H locs 0 0 (MQ below (QWv (dC, dI) Q (wFo cI cJ A r0)) args s 0 0 Q) (F0 m 12 ls []) := by
    intro  n
    induction n with
    | zero => intro x v2 v3 hf; exact iter_zero hf
    | succ n ih1 =>
      intro x v2 v3 hf H locs ls hP hD hS hl
      obtain ⟨q1, hf, hk1⟩ := iter_succ hf
      have hf : Fo_m_measure_s12 x v2 v3 = some q1 := hf
      unfold Fo_m_measure_s12 at hf
      refine lv_iload_n hx hb dX0_measure_12 rfl (lv_at hl 2 rfl) ?_
      refine lv_aload_n hx hb dX0_measure_13 rfl (lv_at hl 0 rfl) ?_
      refine va_get (D := (dC, dI)) (ci := 0) (v := .int (Fo_names x)) (C := RX0) (T := TX0) (N := 13) hx hb hts hiX0 hown hK hP 0 rfl rfl 12 (by decide) ww1 (fun _ h9 => h9) rfl dX0_measure_14 ?_
      refine kg_icmp_ge (tgt := 45) hx hb hf dX0_measure_17 (by decide) (fun hc hf => ?_) (fun hc hf => ?_)
      · obtain ⟨qq, hf, hqq⟩ := omap_some hf
        have hkq : qq = r0 := by rw [← hqq] at hk1; exact hk1
        rw [hkq] at hf
        clear hkq hqq
        refine lv_iconst (v := 0) hx hb dX0_measure_45 (by decide) ?_
        refine lv_istore_n (lv' := [(3, .int 0), (0, .ref (A 0)), (2, .int v2)]) hx hb dX0_measure_46 rfl hl (by decide) rfl (fun ls hl => ?_)
        have hlp47 : ∀ (n : Nat) (x : FoS) (v3 : Int32), iter (fun p : FoS × Int32 => Fo_m_measure_s47 p.1 p.2) n (x, v3) = some r0 → ∀ (H : Heap) (locs : List Loc) (ls : Array Slot), va_P (dC, dI) vwCl (wFo cI cJ A x) H → va_D Q (wFo cI cJ A x) → va_S Q s.heap H locs → lv_has ls 6 [(0, .ref (A 0)), (3, .int v3)] → W p l e ({ frames := 2, cells := 0, slots := 0, locals := 64 } : Room) s m args below meth c H locs 0 0 (MQ below (QWv (dC, dI) Q (wFo cI cJ A r0)) args s 0 0 Q) (F0 m 47 ls []) := by
          intro  n
          induction n with
          | zero => intro x v3 hf; exact iter_zero hf
          | succ n ih1 =>
            intro x v3 hf H locs ls hP hD hS hl
            obtain ⟨q1, hf, hk1⟩ := iter_succ hf
            have hf : Fo_m_measure_s47 x v3 = some q1 := hf
            unfold Fo_m_measure_s47 at hf
            refine lv_iload_n hx hb dX0_measure_47 rfl (lv_at hl 1 rfl) ?_
            refine lv_aload_n hx hb dX0_measure_48 rfl (lv_at hl 0 rfl) ?_
            refine va_get (D := (dC, dI)) (ci := 0) (v := .int (Fo_count x)) (C := RX0) (T := TX0) (N := 13) hx hb hts hiX0 hown hK hP 0 rfl rfl 11 (by decide) ww2 (fun _ h9 => h9) rfl dX0_measure_49 ?_
            refine kg_icmp_ge (tgt := 122) hx hb hf dX0_measure_52 (by decide) (fun hc hf => ?_) (fun hc hf => ?_)
            · obtain ⟨qq, hf, hqq⟩ := omap_some hf
              have hkq : qq = r0 := by rw [← hqq] at hk1; exact hk1
              rw [hkq] at hf
              clear hkq hqq
              obtain rfl := Option.some.inj hf
              exact kg_vretW hx hb hr hlk hP hD hS dX0_measure_122
            · refine lv_aload_n hx hb dX0_measure_55 rfl (lv_at hl 0 rfl) ?_
              refine va_get (D := (dC, dI)) (ci := 0) (v := .ref (A 8)) (C := RX0) (T := TX0) (N := 13) hx hb hts hiX0 hown hK hP 0 rfl rfl 7 (by decide) ww3 (fun _ h9 => h9) rfl dX0_measure_56 ?_
              refine lv_iload_n hx hb dX0_measure_59 rfl (lv_at hl 1 rfl) ?_
              obtain ⟨g60, hv, hf⟩ := ob_bind hf
              refine kg_iald hx hb hK hP 8 0 rfl rfl hv dX0_measure_60 ?_
              refine lv_istore (lv' := [(4, .int g60), (0, .ref (A 0)), (3, .int v3)]) hx hb dX0_measure_61 hl (by decide) rfl (fun ls hl => ?_)
              refine lv_aload_n hx hb dX0_measure_63 rfl (lv_at hl 1 rfl) ?_
              refine va_get (D := (dC, dI)) (ci := 0) (v := .ref (A 1)) (C := RX0) (T := TX0) (N := 13) hx hb hts hiX0 hown hK hP 0 rfl rfl 0 (by decide) ww4 (fun _ h9 => h9) rfl dX0_measure_64 ?_
              refine lv_iload hx hb dX0_measure_67 (lv_at hl 0 rfl) ?_
              obtain ⟨g69, hv, hf⟩ := ob_bind hf
              refine kg_iald hx hb hK hP 1 0 rfl rfl hv dX0_measure_69 ?_
              refine lv_istore (lv' := [(5, .int g69), (4, .int g60), (0, .ref (A 0)), (3, .int v3)]) hx hb dX0_measure_70 hl (by decide) rfl (fun ls hl => ?_)
              refine lv_aload_n hx hb dX0_measure_72 rfl (lv_at hl 2 rfl) ?_
              refine va_get (D := (dC, dI)) (ci := 0) (v := .ref (A 7)) (C := RX0) (T := TX0) (N := 13) hx hb hts hiX0 hown hK hP 0 rfl rfl 6 (by decide) ww0 (fun _ h9 => h9) rfl dX0_measure_73 ?_
              refine lv_iload hx hb dX0_measure_76 (lv_at hl 1 rfl) ?_
              obtain ⟨g78, hv, hf⟩ := ob_bind hf
              refine kg_iald hx hb hK hP 7 0 rfl rfl hv dX0_measure_78 ?_
              refine lv_iconst (v := (-1)) hx hb dX0_measure_79 (by decide) ?_
              refine kg_icmp_ne (tgt := 116) hx hb hf dX0_measure_80 (by decide) (fun hc hf => ?_) (fun hc hf => ?_)
              · refine lv_iinc (v := (v3 + 1)) (lv' := [(3, .int (v3 + 1)), (5, .int g69), (4, .int g60), (0, .ref (A 0))]) hx hb dX0_measure_116 hl (k := 3) rfl rfl (by decide) rfl (fun ls hl => ?_)
                refine lv_goto (tgt := 47) hx hb dX0_measure_119 (by decide) ?_
                obtain rfl := Option.some.inj hf
                exact ih1 x (v3 + 1) hk1 _ _ _ hP hD hS (lv_sub hl [3, 0] rfl)
              · refine lv_iload hx hb dX0_measure_83 (lv_at hl 0 rfl) ?_
                refine lv_iconst (v := (-1)) hx hb dX0_measure_85 (by decide) ?_
                refine kg_icmp_eq (tgt := 116) hx hb hf dX0_measure_86 (by decide) (fun hc hf => ?_) (fun hc hf => ?_)
                · refine lv_iinc (v := (v3 + 1)) (lv' := [(3, .int (v3 + 1)), (5, .int g69), (4, .int g60), (0, .ref (A 0))]) hx hb dX0_measure_116 hl (k := 3) rfl rfl (by decide) rfl (fun ls hl => ?_)
                  refine lv_goto (tgt := 47) hx hb dX0_measure_119 (by decide) ?_
                  obtain rfl := Option.some.inj hf
                  exact ih1 x (v3 + 1) hk1 _ _ _ hP hD hS (lv_sub hl [3, 0] rfl)
                · refine lv_aload_n hx hb dX0_measure_89 rfl (lv_at hl 2 rfl) ?_
                  refine va_get (D := (dC, dI)) (ci := 0) (v := .ref (A 7)) (C := RX0) (T := TX0) (N := 13) hx hb hts hiX0 hown hK hP 0 rfl rfl 6 (by decide) ww0 (fun _ h9 => h9) rfl dX0_measure_90 ?_
                  refine lv_iload hx hb dX0_measure_93 (lv_at hl 0 rfl) ?_
                  obtain ⟨g95, hv, hf⟩ := ob_bind hf
                  refine kg_iald hx hb hK hP 7 0 rfl rfl hv dX0_measure_95 ?_
                  refine lv_iconst (v := (-1)) hx hb dX0_measure_96 (by decide) ?_
                  refine kg_icmp_eq (tgt := 116) hx hb hf dX0_measure_97 (by decide) (fun hc hf => ?_) (fun hc hf => ?_)
                  · refine lv_iinc (v := (v3 + 1)) (lv' := [(3, .int (v3 + 1)), (5, .int g69), (4, .int g60), (0, .ref (A 0))]) hx hb dX0_measure_116 hl (k := 3) rfl rfl (by decide) rfl (fun ls hl => ?_)
                    refine lv_goto (tgt := 47) hx hb dX0_measure_119 (by decide) ?_
                    obtain rfl := Option.some.inj hf
                    exact ih1 x (v3 + 1) hk1 _ _ _ hP hD hS (lv_sub hl [3, 0] rfl)
                  · refine lv_aload_n hx hb dX0_measure_100 rfl (lv_at hl 2 rfl) ?_
                    refine va_get (D := (dC, dI)) (ci := 0) (v := .ref (A 7)) (C := RX0) (T := TX0) (N := 13) hx hb hts hiX0 hown hK hP 0 rfl rfl 6 (by decide) ww0 (fun _ h9 => h9) rfl dX0_measure_101 ?_
                    refine lv_iload hx hb dX0_measure_104 (lv_at hl 1 rfl) ?_
                    refine lv_aload_n hx hb dX0_measure_106 rfl (lv_at hl 2 rfl) ?_
                    refine va_get (D := (dC, dI)) (ci := 0) (v := .ref (A 7)) (C := RX0) (T := TX0) (N := 13) hx hb hts hiX0 hown hK hP 0 rfl rfl 6 (by decide) ww0 (fun _ h9 => h9) rfl dX0_measure_107 ?_
                    refine lv_iload hx hb dX0_measure_110 (lv_at hl 0 rfl) ?_
                    obtain ⟨g112, hv, hf⟩ := ob_bind hf
                    refine kg_iald hx hb hK hP 7 0 rfl rfl hv dX0_measure_112 ?_
                    refine lv_iconst (v := 1) hx hb dX0_measure_113 (by decide) ?_
                    refine lv_iadd hx hb dX0_measure_114 ?_
                    obtain ⟨f115, hv, hf⟩ := ob_bind hf
                    refine kg_iast (wz := (wFo cI cJ A (Fo_set_away x f115))) hx hb hK hP hD hS 7 0 rfl rfl hv dX0_measure_115 (sc_Fo_away _ _ _ _ _) (fun H locs hP hD hS => ?_)
                    refine lv_iinc (v := (v3 + 1)) (lv' := [(3, .int (v3 + 1)), (5, .int g69), (4, .int g60), (0, .ref (A 0))]) hx hb dX0_measure_116 hl (k := 3) rfl rfl (by decide) rfl (fun ls hl => ?_)
                    refine lv_goto (tgt := 47) hx hb dX0_measure_119 (by decide) ?_
                    obtain rfl := Option.some.inj hf
                    exact ih1 (Fo_set_away x f115) (v3 + 1) hk1 _ _ _ hP hD hS (lv_sub hl [3, 0] rfl)
        exact hlp47  FU x 0 hf _ _ _ hP hD hS (lv_sub hl [1, 0] rfl)
      · refine lv_iload_n hx hb dX0_measure_20 rfl (lv_at hl 1 rfl) ?_
        refine lv_iconst (v := (-1)) hx hb dX0_measure_21 (by decide) ?_
        refine kg_icmp_eq (tgt := 45) hx hb hf dX0_measure_22 (by decide) (fun hc hf => ?_) (fun hc hf => ?_)
        · obtain ⟨qq, hf, hqq⟩ := omap_some hf
          have hkq : qq = r0 := by rw [← hqq] at hk1; exact hk1
          rw [hkq] at hf
          clear hkq hqq
          refine lv_iconst (v := 0) hx hb dX0_measure_45 (by decide) ?_
          refine lv_istore_n (lv' := [(3, .int 0), (0, .ref (A 0)), (2, .int v2)]) hx hb dX0_measure_46 rfl hl (by decide) rfl (fun ls hl => ?_)
          have hlp47 : ∀ (n : Nat) (x : FoS) (v3 : Int32), iter (fun p : FoS × Int32 => Fo_m_measure_s47 p.1 p.2) n (x, v3) = some r0 → ∀ (H : Heap) (locs : List Loc) (ls : Array Slot), va_P (dC, dI) vwCl (wFo cI cJ A x) H → va_D Q (wFo cI cJ A x) → va_S Q s.heap H locs → lv_has ls 6 [(0, .ref (A 0)), (3, .int v3)] → W p l e ({ frames := 2, cells := 0, slots := 0, locals := 64 } : Room) s m args below meth c H locs 0 0 (MQ below (QWv (dC, dI) Q (wFo cI cJ A r0)) args s 0 0 Q) (F0 m 47 ls []) := by
            intro  n
            induction n with
            | zero => intro x v3 hf; exact iter_zero hf
            | succ n ih1 =>
              intro x v3 hf H locs ls hP hD hS hl
              obtain ⟨q1, hf, hk1⟩ := iter_succ hf
              have hf : Fo_m_measure_s47 x v3 = some q1 := hf
              unfold Fo_m_measure_s47 at hf
              refine lv_iload_n hx hb dX0_measure_47 rfl (lv_at hl 1 rfl) ?_
              refine lv_aload_n hx hb dX0_measure_48 rfl (lv_at hl 0 rfl) ?_
              refine va_get (D := (dC, dI)) (ci := 0) (v := .int (Fo_count x)) (C := RX0) (T := TX0) (N := 13) hx hb hts hiX0 hown hK hP 0 rfl rfl 11 (by decide) ww2 (fun _ h9 => h9) rfl dX0_measure_49 ?_
              refine kg_icmp_ge (tgt := 122) hx hb hf dX0_measure_52 (by decide) (fun hc hf => ?_) (fun hc hf => ?_)
              · obtain ⟨qq, hf, hqq⟩ := omap_some hf
                have hkq : qq = r0 := by rw [← hqq] at hk1; exact hk1
                rw [hkq] at hf
                clear hkq hqq
                obtain rfl := Option.some.inj hf
                exact kg_vretW hx hb hr hlk hP hD hS dX0_measure_122
              · refine lv_aload_n hx hb dX0_measure_55 rfl (lv_at hl 0 rfl) ?_
                refine va_get (D := (dC, dI)) (ci := 0) (v := .ref (A 8)) (C := RX0) (T := TX0) (N := 13) hx hb hts hiX0 hown hK hP 0 rfl rfl 7 (by decide) ww3 (fun _ h9 => h9) rfl dX0_measure_56 ?_
                refine lv_iload_n hx hb dX0_measure_59 rfl (lv_at hl 1 rfl) ?_
                obtain ⟨g60, hv, hf⟩ := ob_bind hf
                refine kg_iald hx hb hK hP 8 0 rfl rfl hv dX0_measure_60 ?_
                refine lv_istore (lv' := [(4, .int g60), (0, .ref (A 0)), (3, .int v3)]) hx hb dX0_measure_61 hl (by decide) rfl (fun ls hl => ?_)
                refine lv_aload_n hx hb dX0_measure_63 rfl (lv_at hl 1 rfl) ?_
                refine va_get (D := (dC, dI)) (ci := 0) (v := .ref (A 1)) (C := RX0) (T := TX0) (N := 13) hx hb hts hiX0 hown hK hP 0 rfl rfl 0 (by decide) ww4 (fun _ h9 => h9) rfl dX0_measure_64 ?_
                refine lv_iload hx hb dX0_measure_67 (lv_at hl 0 rfl) ?_
                obtain ⟨g69, hv, hf⟩ := ob_bind hf
                refine kg_iald hx hb hK hP 1 0 rfl rfl hv dX0_measure_69 ?_
                refine lv_istore (lv' := [(5, .int g69), (4, .int g60), (0, .ref (A 0)), (3, .int v3)]) hx hb dX0_measure_70 hl (by decide) rfl (fun ls hl => ?_)
                refine lv_aload_n hx hb dX0_measure_72 rfl (lv_at hl 2 rfl) ?_
                refine va_get (D := (dC, dI)) (ci := 0) (v := .ref (A 7)) (C := RX0) (T := TX0) (N := 13) hx hb hts hiX0 hown hK hP 0 rfl rfl 6 (by decide) ww0 (fun _ h9 => h9) rfl dX0_measure_73 ?_
                refine lv_iload hx hb dX0_measure_76 (lv_at hl 1 rfl) ?_
                obtain ⟨g78, hv, hf⟩ := ob_bind hf
                refine kg_iald hx hb hK hP 7 0 rfl rfl hv dX0_measure_78 ?_
                refine lv_iconst (v := (-1)) hx hb dX0_measure_79 (by decide) ?_
                refine kg_icmp_ne (tgt := 116) hx hb hf dX0_measure_80 (by decide) (fun hc hf => ?_) (fun hc hf => ?_)
                · refine lv_iinc (v := (v3 + 1)) (lv' := [(3, .int (v3 + 1)), (5, .int g69), (4, .int g60), (0, .ref (A 0))]) hx hb dX0_measure_116 hl (k := 3) rfl rfl (by decide) rfl (fun ls hl => ?_)
                  refine lv_goto (tgt := 47) hx hb dX0_measure_119 (by decide) ?_
                  obtain rfl := Option.some.inj hf
                  exact ih1 x (v3 + 1) hk1 _ _ _ hP hD hS (lv_sub hl [3, 0] rfl)
                · refine lv_iload hx hb dX0_measure_83 (lv_at hl 0 rfl) ?_
                  refine lv_iconst (v := (-1)) hx hb dX0_measure_85 (by decide) ?_
                  refine kg_icmp_eq (tgt := 116) hx hb hf dX0_measure_86 (by decide) (fun hc hf => ?_) (fun hc hf => ?_)
                  · refine lv_iinc (v := (v3 + 1)) (lv' := [(3, .int (v3 + 1)), (5, .int g69), (4, .int g60), (0, .ref (A 0))]) hx hb dX0_measure_116 hl (k := 3) rfl rfl (by decide) rfl (fun ls hl => ?_)
                    refine lv_goto (tgt := 47) hx hb dX0_measure_119 (by decide) ?_
                    obtain rfl := Option.some.inj hf
                    exact ih1 x (v3 + 1) hk1 _ _ _ hP hD hS (lv_sub hl [3, 0] rfl)
                  · refine lv_aload_n hx hb dX0_measure_89 rfl (lv_at hl 2 rfl) ?_
                    refine va_get (D := (dC, dI)) (ci := 0) (v := .ref (A 7)) (C := RX0) (T := TX0) (N := 13) hx hb hts hiX0 hown hK hP 0 rfl rfl 6 (by decide) ww0 (fun _ h9 => h9) rfl dX0_measure_90 ?_
                    refine lv_iload hx hb dX0_measure_93 (lv_at hl 0 rfl) ?_
                    obtain ⟨g95, hv, hf⟩ := ob_bind hf
                    refine kg_iald hx hb hK hP 7 0 rfl rfl hv dX0_measure_95 ?_
                    refine lv_iconst (v := (-1)) hx hb dX0_measure_96 (by decide) ?_
                    refine kg_icmp_eq (tgt := 116) hx hb hf dX0_measure_97 (by decide) (fun hc hf => ?_) (fun hc hf => ?_)
                    · refine lv_iinc (v := (v3 + 1)) (lv' := [(3, .int (v3 + 1)), (5, .int g69), (4, .int g60), (0, .ref (A 0))]) hx hb dX0_measure_116 hl (k := 3) rfl rfl (by decide) rfl (fun ls hl => ?_)
                      refine lv_goto (tgt := 47) hx hb dX0_measure_119 (by decide) ?_
                      obtain rfl := Option.some.inj hf
                      exact ih1 x (v3 + 1) hk1 _ _ _ hP hD hS (lv_sub hl [3, 0] rfl)
                    · refine lv_aload_n hx hb dX0_measure_100 rfl (lv_at hl 2 rfl) ?_
                      refine va_get (D := (dC, dI)) (ci := 0) (v := .ref (A 7)) (C := RX0) (T := TX0) (N := 13) hx hb hts hiX0 hown hK hP 0 rfl rfl 6 (by decide) ww0 (fun _ h9 => h9) rfl dX0_measure_101 ?_
                      refine lv_iload hx hb dX0_measure_104 (lv_at hl 1 rfl) ?_
                      refine lv_aload_n hx hb dX0_measure_106 rfl (lv_at hl 2 rfl) ?_
                      refine va_get (D := (dC, dI)) (ci := 0) (v := .ref (A 7)) (C := RX0) (T := TX0) (N := 13) hx hb hts hiX0 hown hK hP 0 rfl rfl 6 (by decide) ww0 (fun _ h9 => h9) rfl dX0_measure_107 ?_
                      refine lv_iload hx hb dX0_measure_110 (lv_at hl 0 rfl) ?_
                      obtain ⟨g112, hv, hf⟩ := ob_bind hf
                      refine kg_iald hx hb hK hP 7 0 rfl rfl hv dX0_measure_112 ?_
                      refine lv_iconst (v := 1) hx hb dX0_measure_113 (by decide) ?_
                      refine lv_iadd hx hb dX0_measure_114 ?_
                      obtain ⟨f115, hv, hf⟩ := ob_bind hf
                      refine kg_iast (wz := (wFo cI cJ A (Fo_set_away x f115))) hx hb hK hP hD hS 7 0 rfl rfl hv dX0_measure_115 (sc_Fo_away _ _ _ _ _) (fun H locs hP hD hS => ?_)
                      refine lv_iinc (v := (v3 + 1)) (lv' := [(3, .int (v3 + 1)), (5, .int g69), (4, .int g60), (0, .ref (A 0))]) hx hb dX0_measure_116 hl (k := 3) rfl rfl (by decide) rfl (fun ls hl => ?_)
                      refine lv_goto (tgt := 47) hx hb dX0_measure_119 (by decide) ?_
                      obtain rfl := Option.some.inj hf
                      exact ih1 (Fo_set_away x f115) (v3 + 1) hk1 _ _ _ hP hD hS (lv_sub hl [3, 0] rfl)
          exact hlp47  FU x 0 hf _ _ _ hP hD hS (lv_sub hl [1, 0] rfl)
        · refine lv_aload_n hx hb dX0_measure_25 rfl (lv_at hl 0 rfl) ?_
          refine va_get (D := (dC, dI)) (ci := 0) (v := .ref (A 7)) (C := RX0) (T := TX0) (N := 13) hx hb hts hiX0 hown hK hP 0 rfl rfl 6 (by decide) ww0 (fun _ h9 => h9) rfl dX0_measure_26 ?_
          refine lv_iload_n hx hb dX0_measure_29 rfl (lv_at hl 1 rfl) ?_
          refine lv_iload_n hx hb dX0_measure_30 rfl (lv_at hl 2 rfl) ?_
          obtain ⟨f31, hv, hf⟩ := ob_bind hf
          refine kg_iast (wz := (wFo cI cJ A (Fo_set_away x f31))) hx hb hK hP hD hS 7 0 rfl rfl hv dX0_measure_31 (sc_Fo_away _ _ _ _ _) (fun H locs hP hD hS => ?_)
          refine lv_aload_n hx hb dX0_measure_32 rfl (lv_at hl 0 rfl) ?_
          refine va_get (D := (dC, dI)) (ci := 0) (v := .ref (A 1)) (C := RX0) (T := TX0) (N := 13) hx hb hts hiX0 hown hK hP 0 rfl rfl 0 (by decide) ww4 (fun _ h9 => h9) rfl dX0_measure_33 ?_
          refine lv_iload_n hx hb dX0_measure_36 rfl (lv_at hl 1 rfl) ?_
          obtain ⟨g37, hv, hf⟩ := ob_bind hf
          refine kg_iald hx hb hK hP 1 0 rfl rfl hv dX0_measure_37 ?_
          refine lv_istore_n (lv' := [(2, .int g37), (0, .ref (A 0)), (3, .int v3)]) hx hb dX0_measure_38 rfl hl (by decide) rfl (fun ls hl => ?_)
          refine lv_iinc (v := (v3 + 1)) (lv' := [(3, .int (v3 + 1)), (2, .int g37), (0, .ref (A 0))]) hx hb dX0_measure_39 hl (k := 2) rfl rfl (by decide) rfl (fun ls hl => ?_)
          refine lv_goto (tgt := 12) hx hb dX0_measure_42 (by decide) ?_
          obtain rfl := Option.some.inj hf
          exact ih1 (Fo_set_away x f31) g37 (v3 + 1) hk1 _ _ _ hP hD hS (lv_sub hl [2, 1, 0] rfl)
  exact hlp12  FU (Fo_set_away x (fillF (Fo_away x) 32 (-1))) v1 0 hf _ _ _ hP hD hS (lv_sub hl [2, 1, 0] rfl)
set_option maxHeartbeats 4000000 in
set_option maxRecDepth 100000 in
theorem c_X0_farthest (l : Launch) (dC : Nat → ClassId) (dI : Nat → Nat → Nat) (cI cJ : ClassId) (A : Nat → Nat) (hq : Nat) (x : FoS) (v1 : Int32) (r0 : (Int32 × FoS)) (hf : Fo_m_farthest x v1 = some r0) : MWi l yX0_farthest (wAll yX0_farthest cX0_farthest 4 (some .int)) ({ frames := 3, cells := 0, slots := 0, locals := 89 } : Room) [.ref (A 0), .int v1] hq (dC, dI) (vTy cI cJ) (wFo cI cJ A x) (wFo cI cJ A r0.2) r0.1 := by
  refine kg_metW (Qc := fun Q => QWi (dC, dI) Q (wFo cI cJ A r0.2) r0.1) (cc := cX0_farthest) (maxL := 4) (ret := (some .int)) (by decide) rfl (Nat.le_of_ble_eq_true rfl) ?_
  intro p e s m args below meth c Q hx hb hr hts hown hlk hml hP hK hN hD hA hS ls hl
  have hl : lv_has ls 4 [(0, .ref (A 0)), (1, .int v1)] := hl
  have ww0 := hts (.fieldLink RX0 49 "SafeBlocks$Forest" "names" "I") (List.mem_cons_of_mem _ wd_4_4)
  have ww1 := hts (.fieldLink RX0 30 "SafeBlocks$Forest" "away" "[I") (List.mem_cons_of_mem _ wd_3_22)
  have ww2 := hts (.methodLink RX0 101 Lib.Math.max.name) (List.mem_cons_of_mem _ wd_28_8)
  have ww3 := hts (.static Lib.Math.max.name) (List.mem_cons_of_mem _ wd_14_7)
  have ww4 := hts (.initialized "java/lang/Math") (List.mem_cons_of_mem _ wd_14_8)
  have ww5 := hts (.code Lib.Math.max.name Lib.Math.max.code 2 (some .int)) (List.mem_cons_of_mem _ wd_14_9)
  have hiX0 : ∀ w ∈ u_ws RX0 TX0 13, w ∈ wAll yX0_farthest cX0_farthest 4 (some .int) := fun w h => List.mem_cons_of_mem _ (inlX0 w h)
  suffices hgo : ∀ (H : Heap) (locs : List Loc), va_P (dC, dI) vwCl (wFo cI cJ A x) H → va_S Q s.heap H locs → W p l e ({ frames := 3, cells := 0, slots := 0, locals := 89 } : Room) s m args below meth c H locs 0 0 (MQ below (QWi (dC, dI) Q (wFo cI cJ A r0.2) r0.1) args s 0 0 Q) (F0 m 0 ls []) from hgo _ _ hP hS
  clear hP hS
  intro H locs hP hS
  unfold Fo_m_farthest at hf
  refine lv_aload_n hx hb dX0_farthest_0 rfl (lv_at hl 0 rfl) ?_
  refine lv_iload_n hx hb dX0_farthest_1 rfl (lv_at hl 1 rfl) ?_
  obtain ⟨g2, hc, hf⟩ := ob_bind hf
  have hPx := kg_eqP (kg_slf _) hP
  have hDx := kg_eqD (kg_slf _) hD
  refine kg_retWv (pre := ([] : va_W)) (wc := wFo cI cJ A x) (post := ([] : va_W)) (w1 := wFo cI cJ A g2) (wz := (wFo cI cJ A g2)) (kg_slf _).symm hPx hDx hS hA (va_runV (As := [.int v1]) (rest := []) ⟨hx, hb, hml, hown, hts⟩ (c_X0_measure l dC dI cI cJ A H.size x v1 _ hc) (cwV 1 hts (gw_V wd_28_16 wd_28_13 wd_28_14 wd_28_15 wd_1_19) rfl rfl rfl qX0_measure ⟨Nat.le_of_ble_eq_true rfl, Nat.le_of_ble_eq_true rfl⟩) (kg_preVW (ci := 0) (q := (RX0, TX0, 13)) (q0 := 0) (kg_cutP hPx) (kg_cutD hDx) hK hN rfl rfl) rfl rfl hl.1 rfl (lv_room (Nat.le_of_ble_eq_true rfl)) dX0_farthest_2 ⟨Nat.zero_le _, Nat.zero_le _⟩) (fun H locs hP hD hS => ?_)
  refine lv_iconst (v := 0) hx hb dX0_farthest_5 (by decide) ?_
  refine lv_istore_n (lv' := [(2, .int 0), (0, .ref (A 0)), (1, .int v1)]) hx hb dX0_farthest_6 rfl hl (by decide) rfl (fun ls hl => ?_)
  refine lv_iconst (v := 0) hx hb dX0_farthest_7 (by decide) ?_
  refine lv_istore_n (lv' := [(3, .int 0), (2, .int 0), (0, .ref (A 0)), (1, .int v1)]) hx hb dX0_farthest_8 rfl hl (by decide) rfl (fun ls hl => ?_)
  have hlp9 : ∀ (x : FoS), ∀ (n : Nat) (v2 : Int32) (v3 : Int32), iter (fun p : Int32 × Int32 => Fo_m_farthest_s9 x p.1 p.2) n (v2, v3) = some r0 → ∀ (H : Heap) (locs : List Loc) (ls : Array Slot), va_P (dC, dI) vwCl (wFo cI cJ A x) H → va_D Q (wFo cI cJ A x) → va_S Q s.heap H locs → lv_has ls 4 [(0, .ref (A 0)), (2, .int v2), (3, .int v3)] → W p l e ({ frames := 3, cells := 0, slots := 0, locals := 89 } : Room) s m args below meth c H locs 0 0 (MQ below (QWi (dC, dI) Q (wFo cI cJ A r0.2) r0.1) args s 0 0 Q) (F0 m 9 ls []) := by
    intro x n
    induction n with
    | zero => intro v2 v3 hf; exact iter_zero hf
    | succ n ih1 =>
      intro v2 v3 hf H locs ls hP hD hS hl
      obtain ⟨q1, hf, hk1⟩ := iter_succ hf
      have hf : Fo_m_farthest_s9 x v2 v3 = some q1 := hf
      unfold Fo_m_farthest_s9 at hf
      refine lv_iload_n hx hb dX0_farthest_9 rfl (lv_at hl 2 rfl) ?_
      refine lv_aload_n hx hb dX0_farthest_10 rfl (lv_at hl 0 rfl) ?_
      refine va_get (D := (dC, dI)) (ci := 0) (v := .int (Fo_names x)) (C := RX0) (T := TX0) (N := 13) hx hb hts hiX0 hown hK hP 0 rfl rfl 12 (by decide) ww0 (fun _ h9 => h9) rfl dX0_farthest_11 ?_
      refine kg_icmp_ge (tgt := 34) hx hb hf dX0_farthest_14 (by decide) (fun hc hf => ?_) (fun hc hf => ?_)
      · obtain ⟨qq, hf, hqq⟩ := omap_some hf
        have hkq : qq = r0 := by rw [← hqq] at hk1; exact hk1
        rw [hkq] at hf
        clear hkq hqq
        refine lv_iload_n hx hb dX0_farthest_34 rfl (lv_at hl 1 rfl) ?_
        obtain rfl := Option.some.inj hf
        exact kg_iretW hx hb hr hlk rfl hP hD hS dX0_farthest_35
      · refine lv_iload_n hx hb dX0_farthest_17 rfl (lv_at hl 1 rfl) ?_
        refine lv_aload_n hx hb dX0_farthest_18 rfl (lv_at hl 0 rfl) ?_
        refine va_get (D := (dC, dI)) (ci := 0) (v := .ref (A 7)) (C := RX0) (T := TX0) (N := 13) hx hb hts hiX0 hown hK hP 0 rfl rfl 6 (by decide) ww1 (fun _ h9 => h9) rfl dX0_farthest_19 ?_
        refine lv_iload_n hx hb dX0_farthest_22 rfl (lv_at hl 2 rfl) ?_
        obtain ⟨g23, hv, hf⟩ := ob_bind hf
        refine kg_iald hx hb hK hP 7 0 rfl rfl hv dX0_farthest_23 ?_
        refine va_mmax hx hb (by rw [hml]; exact hl.1.symm) hown ww2 ww3 ww4 ww5 (Nat.le_of_ble_eq_true rfl) (Nat.le_of_ble_eq_true rfl) (Nat.zero_le _) (Nat.zero_le _) dX0_farthest_24 ?_
        refine lv_istore_n (lv' := [(2, .int (if v2 < g23 then g23 else v2)), (0, .ref (A 0)), (3, .int v3)]) hx hb dX0_farthest_27 rfl hl (by decide) rfl (fun ls hl => ?_)
        refine lv_iinc (v := (v3 + 1)) (lv' := [(3, .int (v3 + 1)), (2, .int (if v2 < g23 then g23 else v2)), (0, .ref (A 0))]) hx hb dX0_farthest_28 hl (k := 2) rfl rfl (by decide) rfl (fun ls hl => ?_)
        refine lv_goto (tgt := 9) hx hb dX0_farthest_31 (by decide) ?_
        obtain rfl := Option.some.inj hf
        exact ih1 (if v2 < g23 then g23 else v2) (v3 + 1) hk1 _ _ _ hP hD hS (lv_sub hl [2, 1, 0] rfl)
  exact hlp9 g2 FU 0 0 hf _ _ _ hP hD hS (lv_sub hl [2, 1, 0] rfl)
set_option maxHeartbeats 4000000 in
set_option maxRecDepth 100000 in
theorem c_X0_longest (l : Launch) (dC : Nat → ClassId) (dI : Nat → Nat → Nat) (cI cJ : ClassId) (A : Nat → Nat) (B : Nat → Nat) (hq : Nat) (x : FoS) (M : Nat) (y : NmS) (v2 : Int32) (r0 : (Int32 × FoS)) (hf : Fo_m_longest x M y v2 = some r0) : MWi l yX0_longest (wAll yX0_longest cX0_longest 5 (some .int)) ({ frames := 4, cells := 0, slots := 0, locals := 112 } : Room) [.ref (A 0), .ref (B 0), .int v2] hq (dC, dI) (vTy cI cJ) (wFo cI cJ A x ++ (wNm cI cJ M B y)) (wFo cI cJ A r0.2 ++ (wNm cI cJ M B y)) r0.1 := by
  refine kg_metW (Qc := fun Q => QWi (dC, dI) Q (wFo cI cJ A r0.2 ++ (wNm cI cJ M B y)) r0.1) (cc := cX0_longest) (maxL := 5) (ret := (some .int)) (by decide) rfl (Nat.le_of_ble_eq_true rfl) ?_
  intro p e s m args below meth c Q hx hb hr hts hown hlk hml hP hK hN hD hA hS ls hl
  have hl : lv_has ls 5 [(0, .ref (A 0)), (1, .ref (B 0)), (2, .int v2)] := hl
  have ww0 := hts (.fieldLink RX0 45 "SafeBlocks$Forest" "count" "I") (List.mem_cons_of_mem _ wd_4_3)
  have ww1 := hts (.fieldLink RX0 75 "SafeBlocks$Names" "of" "[I") (List.mem_cons_of_mem _ wd_6_0)
  have ww2 := hts (.fieldLink RX0 33 "SafeBlocks$Forest" "order" "[I") (List.mem_cons_of_mem _ wd_3_23)
  have ww3 := hts (.methodLink RX0 101 Lib.Math.max.name) (List.mem_cons_of_mem _ wd_28_8)
  have ww4 := hts (.static Lib.Math.max.name) (List.mem_cons_of_mem _ wd_14_7)
  have ww5 := hts (.initialized "java/lang/Math") (List.mem_cons_of_mem _ wd_14_8)
  have ww6 := hts (.code Lib.Math.max.name Lib.Math.max.code 2 (some .int)) (List.mem_cons_of_mem _ wd_14_9)
  have hiX0 : ∀ w ∈ u_ws RX0 TX0 13, w ∈ wAll yX0_longest cX0_longest 5 (some .int) := fun w h => List.mem_cons_of_mem _ (inlX0 w h)
  have hiX1 : ∀ w ∈ u_ws RX1 TX1 6, w ∈ wAll yX0_longest cX0_longest 5 (some .int) := fun w h => List.mem_cons_of_mem _ (inlX1 w h)
  suffices hgo : ∀ (H : Heap) (locs : List Loc), va_P (dC, dI) vwCl (wFo cI cJ A x ++ (wNm cI cJ M B y)) H → va_S Q s.heap H locs → W p l e ({ frames := 4, cells := 0, slots := 0, locals := 112 } : Room) s m args below meth c H locs 0 0 (MQ below (QWi (dC, dI) Q (wFo cI cJ A r0.2 ++ (wNm cI cJ M B y)) r0.1) args s 0 0 Q) (F0 m 0 ls []) from hgo _ _ hP hS
  clear hP hS
  intro H locs hP hS
  unfold Fo_m_longest at hf
  refine lv_iconst (v := 0) hx hb dX0_longest_0 (by decide) ?_
  refine lv_istore_n (lv' := [(3, .int 0), (0, .ref (A 0)), (1, .ref (B 0)), (2, .int v2)]) hx hb dX0_longest_1 rfl hl (by decide) rfl (fun ls hl => ?_)
  refine lv_iconst (v := 0) hx hb dX0_longest_2 (by decide) ?_
  refine lv_istore (lv' := [(4, .int 0), (3, .int 0), (0, .ref (A 0)), (1, .ref (B 0)), (2, .int v2)]) hx hb dX0_longest_3 hl (by decide) rfl (fun ls hl => ?_)
  have hlp5 : ∀ (n : Nat) (x : FoS) (v3 : Int32) (v4 : Int32), iter (fun p : FoS × Int32 × Int32 => Fo_m_longest_s5 M y v2 p.1 p.2.1 p.2.2) n (x, v3, v4) = some r0 → ∀ (H : Heap) (locs : List Loc) (ls : Array Slot), va_P (dC, dI) vwCl (wFo cI cJ A x ++ (wNm cI cJ M B y)) H → va_D Q (wFo cI cJ A x ++ (wNm cI cJ M B y)) → va_S Q s.heap H locs → lv_has ls 5 [(0, .ref (A 0)), (1, .ref (B 0)), (2, .int v2), (3, .int v3), (4, .int v4)] → W p l e ({ frames := 4, cells := 0, slots := 0, locals := 112 } : Room) s m args below meth c H locs 0 0 (MQ below (QWi (dC, dI) Q (wFo cI cJ A r0.2 ++ (wNm cI cJ M B y)) r0.1) args s 0 0 Q) (F0 m 5 ls []) := by
    intro  n
    induction n with
    | zero => intro x v3 v4 hf; exact iter_zero hf
    | succ n ih1 =>
      intro x v3 v4 hf H locs ls hP hD hS hl
      obtain ⟨q1, hf, hk1⟩ := iter_succ hf
      have hf : Fo_m_longest_s5 M y v2 x v3 v4 = some q1 := hf
      unfold Fo_m_longest_s5 at hf
      refine lv_iload hx hb dX0_longest_5 (lv_at hl 4 rfl) ?_
      refine lv_aload_n hx hb dX0_longest_7 rfl (lv_at hl 0 rfl) ?_
      refine va_get (D := (dC, dI)) (ci := 0) (v := .int (Fo_count x)) (C := RX0) (T := TX0) (N := 13) hx hb hts hiX0 hown hK hP 0 rfl rfl 11 (by decide) ww0 (fun _ h9 => h9) rfl dX0_longest_8 ?_
      refine kg_icmp_ge (tgt := 52) hx hb hf dX0_longest_11 (by decide) (fun hc hf => ?_) (fun hc hf => ?_)
      · obtain ⟨qq, hf, hqq⟩ := omap_some hf
        have hkq : qq = r0 := by rw [← hqq] at hk1; exact hk1
        rw [hkq] at hf
        clear hkq hqq
        refine lv_iload_n hx hb dX0_longest_52 rfl (lv_at hl 3 rfl) ?_
        obtain rfl := Option.some.inj hf
        exact kg_iretW hx hb hr hlk rfl hP hD hS dX0_longest_53
      · refine lv_aload_n hx hb dX0_longest_14 rfl (lv_at hl 1 rfl) ?_
        refine va_get (D := (dC, dI)) (ci := 1) (v := .ref (B 1)) (C := RX1) (T := TX1) (N := 6) hx hb hts hiX1 hown hK hP 12 rfl rfl 0 (by decide) ww1 (fun _ h9 => h9) rfl dX0_longest_15 ?_
        refine lv_aload_n hx hb dX0_longest_18 rfl (lv_at hl 0 rfl) ?_
        refine va_get (D := (dC, dI)) (ci := 0) (v := .ref (A 8)) (C := RX0) (T := TX0) (N := 13) hx hb hts hiX0 hown hK hP 0 rfl rfl 7 (by decide) ww2 (fun _ h9 => h9) rfl dX0_longest_19 ?_
        refine lv_iload hx hb dX0_longest_22 (lv_at hl 4 rfl) ?_
        obtain ⟨g24, hv, hf⟩ := ob_bind hf
        refine kg_iald hx hb hK hP 8 0 rfl rfl hv dX0_longest_24 ?_
        obtain ⟨g25, hv, hf⟩ := ob_bind hf
        refine kg_iald hx hb hK hP 13 0 rfl rfl hv dX0_longest_25 ?_
        refine lv_iload_n hx hb dX0_longest_26 rfl (lv_at hl 2 rfl) ?_
        refine kg_icmp_ne (tgt := 46) hx hb hf dX0_longest_27 (by decide) (fun hc hf => ?_) (fun hc hf => ?_)
        · refine lv_iinc (v := (v4 + 1)) (lv' := [(4, .int (v4 + 1)), (0, .ref (A 0)), (1, .ref (B 0)), (2, .int v2), (3, .int v3)]) hx hb dX0_longest_46 hl (k := 4) rfl rfl (by decide) rfl (fun ls hl => ?_)
          refine lv_goto (tgt := 5) hx hb dX0_longest_49 (by decide) ?_
          obtain rfl := Option.some.inj hf
          exact ih1 x v3 (v4 + 1) hk1 _ _ _ hP hD hS (lv_sub hl [1, 2, 3, 4, 0] rfl)
        · refine lv_iload_n hx hb dX0_longest_30 rfl (lv_at hl 3 rfl) ?_
          refine lv_aload_n hx hb dX0_longest_31 rfl (lv_at hl 0 rfl) ?_
          refine lv_aload_n hx hb dX0_longest_32 rfl (lv_at hl 0 rfl) ?_
          refine va_get (D := (dC, dI)) (ci := 0) (v := .ref (A 8)) (C := RX0) (T := TX0) (N := 13) hx hb hts hiX0 hown hK hP 0 rfl rfl 7 (by decide) ww2 (fun _ h9 => h9) rfl dX0_longest_33 ?_
          refine lv_iload hx hb dX0_longest_36 (lv_at hl 4 rfl) ?_
          obtain ⟨g38, hv, hf⟩ := ob_bind hf
          refine kg_iald hx hb hK hP 8 0 rfl rfl hv dX0_longest_38 ?_
          obtain ⟨g39, hc, hf⟩ := ob_bind hf
          have hPx : va_P (dC, dI) vwCl ((([] : va_W)) ++ ((wFo cI cJ A x) ++ ((wNm cI cJ M B y)))) H := hP
          have hDx : va_D Q ((([] : va_W)) ++ ((wFo cI cJ A x) ++ ((wNm cI cJ M B y)))) := hD
          refine kg_retWi (pre := ([] : va_W)) (wc := wFo cI cJ A x) (post := (wNm cI cJ M B y)) (w1 := wFo cI cJ A g39.2) (wz := (wFo cI cJ A g39.2 ++ (wNm cI cJ M B y))) rfl hPx hDx hS hA (va_runV (As := [.int g38]) (rest := [.int v3]) ⟨hx, hb, hml, hown, hts⟩ (c_X0_farthest l dC dI cI cJ A H.size x g38 _ hc) (cwV 1 hts (gw_V wd_28_12 wd_28_9 wd_28_10 wd_28_11 wd_1_19) rfl rfl rfl qX0_farthest ⟨Nat.le_of_ble_eq_true rfl, Nat.le_of_ble_eq_true rfl⟩) (kg_preVW (ci := 0) (q := (RX0, TX0, 13)) (q0 := 0) (kg_cutP hPx) (kg_cutD hDx) hK hN rfl rfl) rfl rfl hl.1 rfl (lv_room (Nat.le_of_ble_eq_true rfl)) dX0_longest_39 ⟨Nat.zero_le _, Nat.zero_le _⟩) (fun H locs hP hD hS => ?_)
          refine va_mmax hx hb (by rw [hml]; exact hl.1.symm) hown ww3 ww4 ww5 ww6 (Nat.le_of_ble_eq_true rfl) (Nat.le_of_ble_eq_true rfl) (Nat.zero_le _) (Nat.zero_le _) dX0_longest_42 ?_
          refine lv_istore_n (lv' := [(3, .int (if v3 < g39.1 then g39.1 else v3)), (0, .ref (A 0)), (1, .ref (B 0)), (2, .int v2), (4, .int v4)]) hx hb dX0_longest_45 rfl hl (by decide) rfl (fun ls hl => ?_)
          refine lv_iinc (v := (v4 + 1)) (lv' := [(4, .int (v4 + 1)), (3, .int (if v3 < g39.1 then g39.1 else v3)), (0, .ref (A 0)), (1, .ref (B 0)), (2, .int v2)]) hx hb dX0_longest_46 hl (k := 4) rfl rfl (by decide) rfl (fun ls hl => ?_)
          refine lv_goto (tgt := 5) hx hb dX0_longest_49 (by decide) ?_
          obtain rfl := Option.some.inj hf
          exact ih1 g39.2 (if v3 < g39.1 then g39.1 else v3) (v4 + 1) hk1 _ _ _ hP hD hS (lv_sub hl [2, 3, 4, 1, 0] rfl)
  exact hlp5  FU x 0 0 hf _ _ _ hP hD hS (lv_sub hl [2, 3, 4, 1, 0] rfl)
set_option maxHeartbeats 4000000 in
set_option maxRecDepth 100000 in
theorem c_X0_isBlockOf (l : Launch) (dC : Nat → ClassId) (dI : Nat → Nat → Nat) (cI cJ : ClassId) (A : Nat → Nat) (B : Nat → Nat) (hq : Heap) (x : FoS) (M : Nat) (y : NmS) (v2 : Int32) (v3 : Int32) (r0 : Bool) (hf : Fo_m_isBlockOf x M y v2 v3 = some r0) : MRi l yX0_isBlockOf (wAll yX0_isBlockOf cX0_isBlockOf 4 (some .boolean)) ({ frames := 1, cells := 0, slots := 0, locals := 40 } : Room) [.ref (A 0), .ref (B 0), .int v2, .int v3] hq (dC, dI) (vTy cI cJ) (wFo cI cJ A x ++ (wNm cI cJ M B y)) (b2i r0) := by
  refine kg_metR (cc := cX0_isBlockOf) (maxL := 4) (ret := (some .boolean)) (by decide) rfl (Nat.le_of_ble_eq_true rfl) ?_
  intro p e s m args below meth c hx hb hr hts hown hlk hml hH hP hK hN ls hl
  subst hH
  have hl : lv_has ls 4 [(0, .ref (A 0)), (1, .ref (B 0)), (2, .int v2), (3, .int v3)] := hl
  have ww0 := hts (.fieldLink RX0 27 "SafeBlocks$Forest" "below" "[I") (List.mem_cons_of_mem _ wd_3_21)
  have ww1 := hts (.fieldLink RX0 75 "SafeBlocks$Names" "of" "[I") (List.mem_cons_of_mem _ wd_6_0)
  have hiX0 : ∀ w ∈ u_ws RX0 TX0 13, w ∈ wAll yX0_isBlockOf cX0_isBlockOf 4 (some .boolean) := fun w h => List.mem_cons_of_mem _ (inlX0 w h)
  have hiX1 : ∀ w ∈ u_ws RX1 TX1 6, w ∈ wAll yX0_isBlockOf cX0_isBlockOf 4 (some .boolean) := fun w h => List.mem_cons_of_mem _ (inlX1 w h)
  unfold Fo_m_isBlockOf at hf
  refine lv_aload_n hx hb dX0_isBlockOf_0 rfl (lv_at hl 0 rfl) ?_
  refine va_get (D := (dC, dI)) (ci := 0) (v := .ref (A 6)) (C := RX0) (T := TX0) (N := 13) hx hb hts hiX0 hown hK hP 0 rfl rfl 5 (by decide) ww0 (fun _ h9 => h9) rfl dX0_isBlockOf_1 ?_
  refine lv_iload_n hx hb dX0_isBlockOf_4 rfl (lv_at hl 3 rfl) ?_
  obtain ⟨g5, hv, hf⟩ := ob_bind hf
  refine kg_iald hx hb hK hP 6 0 rfl rfl hv dX0_isBlockOf_5 ?_
  refine kg_if_le (tgt := 23) hx hb hf dX0_isBlockOf_6 (by decide) (fun hc hf => ?_) (fun hc hf => ?_)
  · refine lv_iconst (v := 0) hx hb dX0_isBlockOf_23 (by decide) ?_
    obtain rfl := Option.some.inj hf
    exact kg_zretR (b := false) hx hb hr hlk rfl rfl dX0_isBlockOf_24
  · refine lv_aload_n hx hb dX0_isBlockOf_9 rfl (lv_at hl 1 rfl) ?_
    refine va_get (D := (dC, dI)) (ci := 1) (v := .ref (B 1)) (C := RX1) (T := TX1) (N := 6) hx hb hts hiX1 hown hK hP 12 rfl rfl 0 (by decide) ww1 (fun _ h9 => h9) rfl dX0_isBlockOf_10 ?_
    refine lv_iload_n hx hb dX0_isBlockOf_13 rfl (lv_at hl 3 rfl) ?_
    obtain ⟨g14, hv, hf⟩ := ob_bind hf
    refine kg_iald hx hb hK hP 13 0 rfl rfl hv dX0_isBlockOf_14 ?_
    refine lv_iload_n hx hb dX0_isBlockOf_15 rfl (lv_at hl 2 rfl) ?_
    refine kg_icmp_ne (tgt := 23) hx hb hf dX0_isBlockOf_16 (by decide) (fun hc hf => ?_) (fun hc hf => ?_)
    · refine lv_iconst (v := 0) hx hb dX0_isBlockOf_23 (by decide) ?_
      obtain rfl := Option.some.inj hf
      exact kg_zretR (b := false) hx hb hr hlk rfl rfl dX0_isBlockOf_24
    · refine lv_iconst (v := 1) hx hb dX0_isBlockOf_19 (by decide) ?_
      refine lv_goto (tgt := 24) hx hb dX0_isBlockOf_20 (by decide) ?_
      obtain rfl := Option.some.inj hf
      exact kg_zretR (b := true) hx hb hr hlk rfl rfl dX0_isBlockOf_24
set_option maxHeartbeats 4000000 in
set_option maxRecDepth 100000 in
theorem c_X0_longestLesser (l : Launch) (dC : Nat → ClassId) (dI : Nat → Nat → Nat) (cI cJ : ClassId) (A : Nat → Nat) (B : Nat → Nat) (hq : Nat) (x : FoS) (M : Nat) (y : NmS) (v2 : Int32) (r0 : (Int32 × FoS)) (hf : Fo_m_longestLesser x M y v2 = some r0) : MWi l yX0_longestLesser (wAll yX0_longestLesser cX0_longestLesser 5 (some .int)) ({ frames := 5, cells := 0, slots := 0, locals := 136 } : Room) [.ref (A 0), .ref (B 0), .int v2] hq (dC, dI) (vTy cI cJ) (wFo cI cJ A x ++ (wNm cI cJ M B y)) (wFo cI cJ A r0.2 ++ (wNm cI cJ M B y)) r0.1 := by
  refine kg_metW (Qc := fun Q => QWi (dC, dI) Q (wFo cI cJ A r0.2 ++ (wNm cI cJ M B y)) r0.1) (cc := cX0_longestLesser) (maxL := 5) (ret := (some .int)) (by decide) rfl (Nat.le_of_ble_eq_true rfl) ?_
  intro p e s m args below meth c Q hx hb hr hts hown hlk hml hP hK hN hD hA hS ls hl
  have hl : lv_has ls 5 [(0, .ref (A 0)), (1, .ref (B 0)), (2, .int v2)] := hl
  have ww0 := hts (.fieldLink RX0 49 "SafeBlocks$Forest" "names" "I") (List.mem_cons_of_mem _ wd_4_4)
  have hiX0 : ∀ w ∈ u_ws RX0 TX0 13, w ∈ wAll yX0_longestLesser cX0_longestLesser 5 (some .int) := fun w h => List.mem_cons_of_mem _ (inlX0 w h)
  suffices hgo : ∀ (H : Heap) (locs : List Loc), va_P (dC, dI) vwCl (wFo cI cJ A x ++ (wNm cI cJ M B y)) H → va_S Q s.heap H locs → W p l e ({ frames := 5, cells := 0, slots := 0, locals := 136 } : Room) s m args below meth c H locs 0 0 (MQ below (QWi (dC, dI) Q (wFo cI cJ A r0.2 ++ (wNm cI cJ M B y)) r0.1) args s 0 0 Q) (F0 m 0 ls []) from hgo _ _ hP hS
  clear hP hS
  intro H locs hP hS
  unfold Fo_m_longestLesser at hf
  refine lv_aload_n hx hb dX0_longestLesser_0 rfl (lv_at hl 0 rfl) ?_
  refine lv_aload_n hx hb dX0_longestLesser_1 rfl (lv_at hl 1 rfl) ?_
  refine lv_iload_n hx hb dX0_longestLesser_2 rfl (lv_at hl 2 rfl) ?_
  obtain ⟨g3, hc, hf⟩ := ob_bind hf
  have hPx : va_P (dC, dI) vwCl (([] : va_W) ++ ((wFo cI cJ A x ++ (wNm cI cJ M B y)) ++ ([] : va_W))) H := hP.sub [0, 1, 2, 3, 4, 5, 6, 7, 8, 9, 10, 11, 12, 13, 14, 15, 16] rfl
  have hDx : va_D Q (([] : va_W) ++ ((wFo cI cJ A x ++ (wNm cI cJ M B y)) ++ ([] : va_W))) := hD.sub [0, 1, 2, 3, 4, 5, 6, 7, 8, 9, 10, 11, 12, 13, 14, 15, 16] (by decide) rfl
  refine kg_retWi (pre := []) (wc := wFo cI cJ A x ++ (wNm cI cJ M B y)) (post := ([] : va_W)) (w1 := wFo cI cJ A g3.2 ++ (wNm cI cJ M B y)) rfl hPx hDx hS hA (va_runV (As := [.ref (B 0), .int v2]) (rest := []) ⟨hx, hb, hml, hown, hts⟩ (c_X0_longest l dC dI cI cJ A B H.size x M y v2 _ hc) (cwV 2 hts (gw_V wd_28_7 wd_28_22 wd_28_5 wd_28_6 wd_1_19) rfl rfl rfl qX0_longest ⟨Nat.le_of_ble_eq_true rfl, Nat.le_of_ble_eq_true rfl⟩) (kg_preVW (ci := 0) (q := (RX0, TX0, 13)) (q0 := 0) (kg_cutP hPx) (kg_cutD hDx) hK hN rfl rfl) rfl rfl hl.1 rfl (lv_room (Nat.le_of_ble_eq_true rfl)) dX0_longestLesser_3 ⟨Nat.zero_le _, Nat.zero_le _⟩) (fun H locs hP hD hS => ?_)
  have hP : va_P (dC, dI) vwCl (wFo cI cJ A g3.2 ++ (wNm cI cJ M B y)) H := hP.sub [0, 1, 2, 3, 4, 5, 6, 7, 8, 9, 10, 11, 12, 13, 14, 15, 16] rfl
  have hD : va_D Q (wFo cI cJ A g3.2 ++ (wNm cI cJ M B y)) := hD.sub [0, 1, 2, 3, 4, 5, 6, 7, 8, 9, 10, 11, 12, 13, 14, 15, 16] (by decide) rfl
  refine lv_istore_n (lv' := [(3, .int g3.1), (0, .ref (A 0)), (1, .ref (B 0)), (2, .int v2)]) hx hb dX0_longestLesser_6 rfl hl (by decide) rfl (fun ls hl => ?_)
  refine lv_iconst (v := 0) hx hb dX0_longestLesser_7 (by decide) ?_
  refine lv_istore (lv' := [(4, .int 0), (3, .int g3.1), (0, .ref (A 0)), (1, .ref (B 0)), (2, .int v2)]) hx hb dX0_longestLesser_8 hl (by decide) rfl (fun ls hl => ?_)
  have hlp10 : ∀ (v3 : Int32), ∀ (n : Nat) (x : FoS) (v4 : Int32), iter (fun p : FoS × Int32 => Fo_m_longestLesser_s10 M y v2 v3 p.1 p.2) n (x, v4) = some r0 → ∀ (H : Heap) (locs : List Loc) (ls : Array Slot), va_P (dC, dI) vwCl (wFo cI cJ A x ++ (wNm cI cJ M B y)) H → va_D Q (wFo cI cJ A x ++ (wNm cI cJ M B y)) → va_S Q s.heap H locs → lv_has ls 5 [(0, .ref (A 0)), (1, .ref (B 0)), (2, .int v2), (3, .int v3), (4, .int v4)] → W p l e ({ frames := 5, cells := 0, slots := 0, locals := 136 } : Room) s m args below meth c H locs 0 0 (MQ below (QWi (dC, dI) Q (wFo cI cJ A r0.2 ++ (wNm cI cJ M B y)) r0.1) args s 0 0 Q) (F0 m 10 ls []) := by
    intro v3 n
    induction n with
    | zero => intro x v4 hf; exact iter_zero hf
    | succ n ih1 =>
      intro x v4 hf H locs ls hP hD hS hl
      obtain ⟨q1, hf, hk1⟩ := iter_succ hf
      have hf : Fo_m_longestLesser_s10 M y v2 v3 x v4 = some q1 := hf
      unfold Fo_m_longestLesser_s10 at hf
      refine lv_iload hx hb dX0_longestLesser_10 (lv_at hl 4 rfl) ?_
      refine lv_aload_n hx hb dX0_longestLesser_12 rfl (lv_at hl 0 rfl) ?_
      refine va_get (D := (dC, dI)) (ci := 0) (v := .int (Fo_names x)) (C := RX0) (T := TX0) (N := 13) hx hb hts hiX0 hown hK hP 0 rfl rfl 12 (by decide) ww0 (fun _ h9 => h9) rfl dX0_longestLesser_13 ?_
      refine kg_icmp_ge (tgt := 49) hx hb hf dX0_longestLesser_16 (by decide) (fun hc hf => ?_) (fun hc hf => ?_)
      · obtain ⟨qq, hf, hqq⟩ := omap_some hf
        have hkq : qq = r0 := by rw [← hqq] at hk1; exact hk1
        rw [hkq] at hf
        clear hkq hqq
        refine lv_iconst (v := (-1)) hx hb dX0_longestLesser_49 (by decide) ?_
        obtain rfl := Option.some.inj hf
        exact kg_iretW hx hb hr hlk rfl hP hD hS dX0_longestLesser_50
      · refine lv_aload_n hx hb dX0_longestLesser_19 rfl (lv_at hl 0 rfl) ?_
        refine lv_aload_n hx hb dX0_longestLesser_20 rfl (lv_at hl 1 rfl) ?_
        refine lv_iload_n hx hb dX0_longestLesser_21 rfl (lv_at hl 2 rfl) ?_
        refine lv_iload hx hb dX0_longestLesser_22 (lv_at hl 4 rfl) ?_
        obtain ⟨g24, hc, hf⟩ := ob_bind hf
        have hPc : va_P (dC, dI) vwCl (wFo cI cJ A x ++ (wNm cI cJ M B y)) H := hP
        refine kg_retRi (va_runV (As := [.ref (B 0), .int v2, .int v4]) (rest := []) ⟨hx, hb, hml, hown, hts⟩ (c_X0_isBlockOf l dC dI cI cJ A B H x M y v2 v4 _ hc) (cwV 3 hts (gw_V wd_29_2 wd_28_23 wd_29_0 wd_29_1 wd_1_19) rfl rfl rfl qX0_isBlockOf ⟨Nat.le_of_ble_eq_true rfl, Nat.le_of_ble_eq_true rfl⟩) (kg_preVR (ci := 0) (q := (RX0, TX0, 13)) (q0 := 0) hPc hK hN rfl rfl) rfl rfl hl.1 rfl (lv_room (Nat.le_of_ble_eq_true rfl)) dX0_longestLesser_24 ⟨Nat.zero_le _, Nat.zero_le _⟩) ?_
        refine kg_b_eq (tgt := 43) hx hb hf dX0_longestLesser_27 (by decide) (fun hc hf => ?_) (fun hc hf => ?_)
        · refine lv_iinc (v := (v4 + 1)) (lv' := [(4, .int (v4 + 1)), (0, .ref (A 0)), (1, .ref (B 0)), (2, .int v2), (3, .int v3)]) hx hb dX0_longestLesser_43 hl (k := 4) rfl rfl (by decide) rfl (fun ls hl => ?_)
          refine lv_goto (tgt := 10) hx hb dX0_longestLesser_46 (by decide) ?_
          obtain rfl := Option.some.inj hf
          exact ih1 x (v4 + 1) hk1 _ _ _ hP hD hS (lv_sub hl [1, 2, 3, 4, 0] rfl)
        · refine lv_aload_n hx hb dX0_longestLesser_30 rfl (lv_at hl 0 rfl) ?_
          refine lv_iload hx hb dX0_longestLesser_31 (lv_at hl 4 rfl) ?_
          obtain ⟨g33, hc, hf⟩ := ob_bind hf
          have hPx : va_P (dC, dI) vwCl ((([] : va_W)) ++ ((wFo cI cJ A x) ++ ((wNm cI cJ M B y)))) H := hP
          have hDx : va_D Q ((([] : va_W)) ++ ((wFo cI cJ A x) ++ ((wNm cI cJ M B y)))) := hD
          refine kg_retWi (pre := ([] : va_W)) (wc := wFo cI cJ A x) (post := (wNm cI cJ M B y)) (w1 := wFo cI cJ A g33.2) (wz := (wFo cI cJ A g33.2 ++ (wNm cI cJ M B y))) rfl hPx hDx hS hA (va_runV (As := [.int v4]) (rest := []) ⟨hx, hb, hml, hown, hts⟩ (c_X0_farthest l dC dI cI cJ A H.size x v4 _ hc) (cwV 1 hts (gw_V wd_28_12 wd_28_9 wd_28_10 wd_28_11 wd_1_19) rfl rfl rfl qX0_farthest ⟨Nat.le_of_ble_eq_true rfl, Nat.le_of_ble_eq_true rfl⟩) (kg_preVW (ci := 0) (q := (RX0, TX0, 13)) (q0 := 0) (kg_cutP hPx) (kg_cutD hDx) hK hN rfl rfl) rfl rfl hl.1 rfl (lv_room (Nat.le_of_ble_eq_true rfl)) dX0_longestLesser_33 ⟨Nat.zero_le _, Nat.zero_le _⟩) (fun H locs hP hD hS => ?_)
          refine lv_iload_n hx hb dX0_longestLesser_36 rfl (lv_at hl 3 rfl) ?_
          refine kg_icmp_ne (tgt := 43) hx hb hf dX0_longestLesser_37 (by decide) (fun hc hf => ?_) (fun hc hf => ?_)
          · refine lv_iinc (v := (v4 + 1)) (lv' := [(4, .int (v4 + 1)), (0, .ref (A 0)), (1, .ref (B 0)), (2, .int v2), (3, .int v3)]) hx hb dX0_longestLesser_43 hl (k := 4) rfl rfl (by decide) rfl (fun ls hl => ?_)
            refine lv_goto (tgt := 10) hx hb dX0_longestLesser_46 (by decide) ?_
            obtain rfl := Option.some.inj hf
            exact ih1 g33.2 (v4 + 1) hk1 _ _ _ hP hD hS (lv_sub hl [1, 2, 3, 4, 0] rfl)
          · obtain ⟨qq, hf, hqq⟩ := omap_some hf
            have hkq : qq = r0 := by rw [← hqq] at hk1; exact hk1
            rw [hkq] at hf
            clear hkq hqq
            refine lv_iload hx hb dX0_longestLesser_40 (lv_at hl 4 rfl) ?_
            obtain rfl := Option.some.inj hf
            exact kg_iretW hx hb hr hlk rfl hP hD hS dX0_longestLesser_42
  exact hlp10 g3.1 FU g3.2 0 hf _ _ _ hP hD hS (lv_sub hl [2, 3, 4, 1, 0] rfl)
set_option maxHeartbeats 4000000 in
set_option maxRecDepth 100000 in
theorem c_X0_longestOther (l : Launch) (dC : Nat → ClassId) (dI : Nat → Nat → Nat) (cI cJ : ClassId) (A : Nat → Nat) (B : Nat → Nat) (hq : Nat) (x : FoS) (M : Nat) (y : NmS) (v2 : Int32) (r0 : (Int32 × FoS)) (hf : Fo_m_longestOther x M y v2 = some r0) : MWi l yX0_longestOther (wAll yX0_longestOther cX0_longestOther 6 (some .int)) ({ frames := 6, cells := 0, slots := 0, locals := 160 } : Room) [.ref (A 0), .ref (B 0), .int v2] hq (dC, dI) (vTy cI cJ) (wFo cI cJ A x ++ (wNm cI cJ M B y)) (wFo cI cJ A r0.2 ++ (wNm cI cJ M B y)) r0.1 := by
  refine kg_metW (Qc := fun Q => QWi (dC, dI) Q (wFo cI cJ A r0.2 ++ (wNm cI cJ M B y)) r0.1) (cc := cX0_longestOther) (maxL := 6) (ret := (some .int)) (by decide) rfl (Nat.le_of_ble_eq_true rfl) ?_
  intro p e s m args below meth c Q hx hb hr hts hown hlk hml hP hK hN hD hA hS ls hl
  have hl : lv_has ls 6 [(0, .ref (A 0)), (1, .ref (B 0)), (2, .int v2)] := hl
  have ww0 := hts (.fieldLink RX0 49 "SafeBlocks$Forest" "names" "I") (List.mem_cons_of_mem _ wd_4_4)
  have ww1 := hts (.fieldLink RX0 30 "SafeBlocks$Forest" "away" "[I") (List.mem_cons_of_mem _ wd_3_22)
  have hiX0 : ∀ w ∈ u_ws RX0 TX0 13, w ∈ wAll yX0_longestOther cX0_longestOther 6 (some .int) := fun w h => List.mem_cons_of_mem _ (inlX0 w h)
  suffices hgo : ∀ (H : Heap) (locs : List Loc), va_P (dC, dI) vwCl (wFo cI cJ A x ++ (wNm cI cJ M B y)) H → va_S Q s.heap H locs → W p l e ({ frames := 6, cells := 0, slots := 0, locals := 160 } : Room) s m args below meth c H locs 0 0 (MQ below (QWi (dC, dI) Q (wFo cI cJ A r0.2 ++ (wNm cI cJ M B y)) r0.1) args s 0 0 Q) (F0 m 0 ls []) from hgo _ _ hP hS
  clear hP hS
  intro H locs hP hS
  unfold Fo_m_longestOther at hf
  refine lv_aload_n hx hb dX0_longestOther_0 rfl (lv_at hl 0 rfl) ?_
  refine lv_aload_n hx hb dX0_longestOther_1 rfl (lv_at hl 1 rfl) ?_
  refine lv_iload_n hx hb dX0_longestOther_2 rfl (lv_at hl 2 rfl) ?_
  obtain ⟨g3, hc, hf⟩ := ob_bind hf
  have hPx : va_P (dC, dI) vwCl (([] : va_W) ++ ((wFo cI cJ A x ++ (wNm cI cJ M B y)) ++ ([] : va_W))) H := hP.sub [0, 1, 2, 3, 4, 5, 6, 7, 8, 9, 10, 11, 12, 13, 14, 15, 16] rfl
  have hDx : va_D Q (([] : va_W) ++ ((wFo cI cJ A x ++ (wNm cI cJ M B y)) ++ ([] : va_W))) := hD.sub [0, 1, 2, 3, 4, 5, 6, 7, 8, 9, 10, 11, 12, 13, 14, 15, 16] (by decide) rfl
  refine kg_retWi (pre := []) (wc := wFo cI cJ A x ++ (wNm cI cJ M B y)) (post := ([] : va_W)) (w1 := wFo cI cJ A g3.2 ++ (wNm cI cJ M B y)) rfl hPx hDx hS hA (va_runV (As := [.ref (B 0), .int v2]) (rest := []) ⟨hx, hb, hml, hown, hts⟩ (c_X0_longest l dC dI cI cJ A B H.size x M y v2 _ hc) (cwV 2 hts (gw_V wd_28_7 wd_28_22 wd_28_5 wd_28_6 wd_1_19) rfl rfl rfl qX0_longest ⟨Nat.le_of_ble_eq_true rfl, Nat.le_of_ble_eq_true rfl⟩) (kg_preVW (ci := 0) (q := (RX0, TX0, 13)) (q0 := 0) (kg_cutP hPx) (kg_cutD hDx) hK hN rfl rfl) rfl rfl hl.1 rfl (lv_room (Nat.le_of_ble_eq_true rfl)) dX0_longestOther_3 ⟨Nat.zero_le _, Nat.zero_le _⟩) (fun H locs hP hD hS => ?_)
  have hP : va_P (dC, dI) vwCl (wFo cI cJ A g3.2 ++ (wNm cI cJ M B y)) H := hP.sub [0, 1, 2, 3, 4, 5, 6, 7, 8, 9, 10, 11, 12, 13, 14, 15, 16] rfl
  have hD : va_D Q (wFo cI cJ A g3.2 ++ (wNm cI cJ M B y)) := hD.sub [0, 1, 2, 3, 4, 5, 6, 7, 8, 9, 10, 11, 12, 13, 14, 15, 16] (by decide) rfl
  refine lv_istore_n (lv' := [(3, .int g3.1), (0, .ref (A 0)), (1, .ref (B 0)), (2, .int v2)]) hx hb dX0_longestOther_6 rfl hl (by decide) rfl (fun ls hl => ?_)
  refine lv_aload_n hx hb dX0_longestOther_7 rfl (lv_at hl 1 rfl) ?_
  refine lv_aload_n hx hb dX0_longestOther_8 rfl (lv_at hl 2 rfl) ?_
  refine lv_iload_n hx hb dX0_longestOther_9 rfl (lv_at hl 3 rfl) ?_
  obtain ⟨g10, hc, hf⟩ := ob_bind hf
  have hPx : va_P (dC, dI) vwCl (([] : va_W) ++ ((wFo cI cJ A g3.2 ++ (wNm cI cJ M B y)) ++ ([] : va_W))) H := hP.sub [0, 1, 2, 3, 4, 5, 6, 7, 8, 9, 10, 11, 12, 13, 14, 15, 16] rfl
  have hDx : va_D Q (([] : va_W) ++ ((wFo cI cJ A g3.2 ++ (wNm cI cJ M B y)) ++ ([] : va_W))) := hD.sub [0, 1, 2, 3, 4, 5, 6, 7, 8, 9, 10, 11, 12, 13, 14, 15, 16] (by decide) rfl
  refine kg_retWi (pre := []) (wc := wFo cI cJ A g3.2 ++ (wNm cI cJ M B y)) (post := ([] : va_W)) (w1 := wFo cI cJ A g10.2 ++ (wNm cI cJ M B y)) rfl hPx hDx hS hA (va_runV (As := [.ref (B 0), .int v2]) (rest := []) ⟨hx, hb, hml, hown, hts⟩ (c_X0_longestLesser l dC dI cI cJ A B H.size g3.2 M y v2 _ hc) (cwV 2 hts (gw_V wd_28_21 wd_29_7 wd_28_19 wd_28_20 wd_1_19) rfl rfl rfl qX0_longestLesser ⟨Nat.le_of_ble_eq_true rfl, Nat.le_of_ble_eq_true rfl⟩) (kg_preVW (ci := 0) (q := (RX0, TX0, 13)) (q0 := 0) (kg_cutP hPx) (kg_cutD hDx) hK hN rfl rfl) rfl rfl hl.1 rfl (lv_room (Nat.le_of_ble_eq_true rfl)) dX0_longestOther_10 ⟨Nat.zero_le _, Nat.zero_le _⟩) (fun H locs hP hD hS => ?_)
  have hP : va_P (dC, dI) vwCl (wFo cI cJ A g10.2 ++ (wNm cI cJ M B y)) H := hP.sub [0, 1, 2, 3, 4, 5, 6, 7, 8, 9, 10, 11, 12, 13, 14, 15, 16] rfl
  have hD : va_D Q (wFo cI cJ A g10.2 ++ (wNm cI cJ M B y)) := hD.sub [0, 1, 2, 3, 4, 5, 6, 7, 8, 9, 10, 11, 12, 13, 14, 15, 16] (by decide) rfl
  refine lv_istore (lv' := [(4, .int g10.1), (3, .int g3.1), (0, .ref (A 0)), (1, .ref (B 0)), (2, .int v2)]) hx hb dX0_longestOther_13 hl (by decide) rfl (fun ls hl => ?_)
  refine lv_iload hx hb dX0_longestOther_15 (lv_at hl 0 rfl) ?_
  refine lv_iconst (v := (-1)) hx hb dX0_longestOther_17 (by decide) ?_
  refine kg_icmp_ne (tgt := 23) hx hb hf dX0_longestOther_18 (by decide) (fun hc hf => ?_) (fun hc hf => ?_)
  · refine lv_aload_n hx hb dX0_longestOther_23 rfl (lv_at hl 2 rfl) ?_
    refine lv_iload hx hb dX0_longestOther_24 (lv_at hl 0 rfl) ?_
    obtain ⟨g26, hc, hf⟩ := ob_bind hf
    have hPx : va_P (dC, dI) vwCl ((([] : va_W)) ++ ((wFo cI cJ A g10.2) ++ ((wNm cI cJ M B y)))) H := hP
    have hDx : va_D Q ((([] : va_W)) ++ ((wFo cI cJ A g10.2) ++ ((wNm cI cJ M B y)))) := hD
    refine kg_retWv (pre := ([] : va_W)) (wc := wFo cI cJ A g10.2) (post := (wNm cI cJ M B y)) (w1 := wFo cI cJ A g26) (wz := (wFo cI cJ A g26 ++ (wNm cI cJ M B y))) rfl hPx hDx hS hA (va_runV (As := [.int g10.1]) (rest := []) ⟨hx, hb, hml, hown, hts⟩ (c_X0_measure l dC dI cI cJ A H.size g10.2 g10.1 _ hc) (cwV 1 hts (gw_V wd_28_16 wd_28_13 wd_28_14 wd_28_15 wd_1_19) rfl rfl rfl qX0_measure ⟨Nat.le_of_ble_eq_true rfl, Nat.le_of_ble_eq_true rfl⟩) (kg_preVW (ci := 0) (q := (RX0, TX0, 13)) (q0 := 0) (kg_cutP hPx) (kg_cutD hDx) hK hN rfl rfl) rfl rfl hl.1 rfl (lv_room (Nat.le_of_ble_eq_true rfl)) dX0_longestOther_26 ⟨Nat.zero_le _, Nat.zero_le _⟩) (fun H locs hP hD hS => ?_)
    refine lv_iconst (v := 0) hx hb dX0_longestOther_29 (by decide) ?_
    refine lv_istore (lv' := [(5, .int 0), (4, .int g10.1), (3, .int g3.1), (0, .ref (A 0)), (1, .ref (B 0)), (2, .int v2)]) hx hb dX0_longestOther_30 hl (by decide) rfl (fun ls hl => ?_)
    have hlp32 : ∀ (x : FoS) (v3 : Int32), ∀ (n : Nat) (v5 : Int32), iter (fun p : Int32 => Fo_m_longestOther_s32 x M y v3 p) n (v5) = some r0 → ∀ (H : Heap) (locs : List Loc) (ls : Array Slot), va_P (dC, dI) vwCl (wFo cI cJ A x ++ (wNm cI cJ M B y)) H → va_D Q (wFo cI cJ A x ++ (wNm cI cJ M B y)) → va_S Q s.heap H locs → lv_has ls 6 [(0, .ref (A 0)), (3, .int v3), (5, .int v5)] → W p l e ({ frames := 6, cells := 0, slots := 0, locals := 160 } : Room) s m args below meth c H locs 0 0 (MQ below (QWi (dC, dI) Q (wFo cI cJ A r0.2 ++ (wNm cI cJ M B y)) r0.1) args s 0 0 Q) (F0 m 32 ls []) := by
      intro x v3 n
      induction n with
      | zero => intro v5 hf; exact iter_zero hf
      | succ n ih1 =>
        intro v5 hf H locs ls hP hD hS hl
        obtain ⟨q1, hf, hk1⟩ := iter_succ hf
        have hf : Fo_m_longestOther_s32 x M y v3 v5 = some q1 := hf
        unfold Fo_m_longestOther_s32 at hf
        refine lv_iload hx hb dX0_longestOther_32 (lv_at hl 2 rfl) ?_
        refine lv_aload_n hx hb dX0_longestOther_34 rfl (lv_at hl 0 rfl) ?_
        refine va_get (D := (dC, dI)) (ci := 0) (v := .int (Fo_names x)) (C := RX0) (T := TX0) (N := 13) hx hb hts hiX0 hown hK hP 0 rfl rfl 12 (by decide) ww0 (fun _ h9 => h9) rfl dX0_longestOther_35 ?_
        refine kg_icmp_ge (tgt := 61) hx hb hf dX0_longestOther_38 (by decide) (fun hc hf => ?_) (fun hc hf => ?_)
        · obtain ⟨qq, hf, hqq⟩ := omap_some hf
          have hkq : qq = r0 := by rw [← hqq] at hk1; exact hk1
          rw [hkq] at hf
          clear hkq hqq
          refine lv_iconst (v := (-1)) hx hb dX0_longestOther_61 (by decide) ?_
          obtain rfl := Option.some.inj hf
          exact kg_iretW hx hb hr hlk rfl hP hD hS dX0_longestOther_62
        · refine lv_aload_n hx hb dX0_longestOther_41 rfl (lv_at hl 0 rfl) ?_
          refine va_get (D := (dC, dI)) (ci := 0) (v := .ref (A 7)) (C := RX0) (T := TX0) (N := 13) hx hb hts hiX0 hown hK hP 0 rfl rfl 6 (by decide) ww1 (fun _ h9 => h9) rfl dX0_longestOther_42 ?_
          refine lv_iload hx hb dX0_longestOther_45 (lv_at hl 2 rfl) ?_
          obtain ⟨g47, hv, hf⟩ := ob_bind hf
          refine kg_iald hx hb hK hP 7 0 rfl rfl hv dX0_longestOther_47 ?_
          refine lv_iload_n hx hb dX0_longestOther_48 rfl (lv_at hl 1 rfl) ?_
          refine kg_icmp_ne (tgt := 55) hx hb hf dX0_longestOther_49 (by decide) (fun hc hf => ?_) (fun hc hf => ?_)
          · refine lv_iinc (v := (v5 + 1)) (lv' := [(5, .int (v5 + 1)), (0, .ref (A 0)), (3, .int v3)]) hx hb dX0_longestOther_55 hl (k := 2) rfl rfl (by decide) rfl (fun ls hl => ?_)
            refine lv_goto (tgt := 32) hx hb dX0_longestOther_58 (by decide) ?_
            obtain rfl := Option.some.inj hf
            exact ih1 (v5 + 1) hk1 _ _ _ hP hD hS (lv_sub hl [1, 2, 0] rfl)
          · obtain ⟨qq, hf, hqq⟩ := omap_some hf
            have hkq : qq = r0 := by rw [← hqq] at hk1; exact hk1
            rw [hkq] at hf
            clear hkq hqq
            refine lv_iload hx hb dX0_longestOther_52 (lv_at hl 2 rfl) ?_
            obtain rfl := Option.some.inj hf
            exact kg_iretW hx hb hr hlk rfl hP hD hS dX0_longestOther_54
    exact hlp32 g26 g3.1 FU 0 hf _ _ _ hP hD hS (lv_sub hl [3, 2, 0] rfl)
  · refine lv_iconst (v := (-1)) hx hb dX0_longestOther_21 (by decide) ?_
    obtain rfl := Option.some.inj hf
    exact kg_iretW hx hb hr hlk rfl hP hD hS dX0_longestOther_22
set_option maxHeartbeats 4000000 in
set_option maxRecDepth 100000 in
theorem c_X0_middle (l : Launch) (dC : Nat → ClassId) (dI : Nat → Nat → Nat) (cI cJ : ClassId) (A : Nat → Nat) (B : Nat → Nat) (hq : Nat) (x : FoS) (M : Nat) (y : NmS) (v2 : Int32) (r0 : (Int32 × FoS)) (hf : Fo_m_middle x M y v2 = some r0) : MWi l yX0_middle (wAll yX0_middle cX0_middle 7 (some .int)) ({ frames := 4, cells := 0, slots := 0, locals := 112 } : Room) [.ref (A 0), .ref (B 0), .int v2] hq (dC, dI) (vTy cI cJ) (wFo cI cJ A x ++ (wNm cI cJ M B y)) (wFo cI cJ A r0.2 ++ (wNm cI cJ M B y)) r0.1 := by
  refine kg_metW (Qc := fun Q => QWi (dC, dI) Q (wFo cI cJ A r0.2 ++ (wNm cI cJ M B y)) r0.1) (cc := cX0_middle) (maxL := 7) (ret := (some .int)) (by decide) rfl (Nat.le_of_ble_eq_true rfl) ?_
  intro p e s m args below meth c Q hx hb hr hts hown hlk hml hP hK hN hD hA hS ls hl
  have hl : lv_has ls 7 [(0, .ref (A 0)), (1, .ref (B 0)), (2, .int v2)] := hl
  have ww0 := hts (.fieldLink RX0 49 "SafeBlocks$Forest" "names" "I") (List.mem_cons_of_mem _ wd_4_4)
  have hiX0 : ∀ w ∈ u_ws RX0 TX0 13, w ∈ wAll yX0_middle cX0_middle 7 (some .int) := fun w h => List.mem_cons_of_mem _ (inlX0 w h)
  suffices hgo : ∀ (H : Heap) (locs : List Loc), va_P (dC, dI) vwCl (wFo cI cJ A x ++ (wNm cI cJ M B y)) H → va_S Q s.heap H locs → W p l e ({ frames := 4, cells := 0, slots := 0, locals := 112 } : Room) s m args below meth c H locs 0 0 (MQ below (QWi (dC, dI) Q (wFo cI cJ A r0.2 ++ (wNm cI cJ M B y)) r0.1) args s 0 0 Q) (F0 m 0 ls []) from hgo _ _ hP hS
  clear hP hS
  intro H locs hP hS
  unfold Fo_m_middle at hf
  refine lv_iconst (v := (-1)) hx hb dX0_middle_0 (by decide) ?_
  refine lv_istore_n (lv' := [(3, .int (-1)), (0, .ref (A 0)), (1, .ref (B 0)), (2, .int v2)]) hx hb dX0_middle_1 rfl hl (by decide) rfl (fun ls hl => ?_)
  refine lv_bipush (v := 32) hx hb dX0_middle_2 (by decide) ?_
  refine lv_istore (lv' := [(4, .int 32), (3, .int (-1)), (0, .ref (A 0)), (1, .ref (B 0)), (2, .int v2)]) hx hb dX0_middle_4 hl (by decide) rfl (fun ls hl => ?_)
  refine lv_iconst (v := 0) hx hb dX0_middle_6 (by decide) ?_
  refine lv_istore (lv' := [(5, .int 0), (4, .int 32), (3, .int (-1)), (0, .ref (A 0)), (1, .ref (B 0)), (2, .int v2)]) hx hb dX0_middle_7 hl (by decide) rfl (fun ls hl => ?_)
  have hlp9 : ∀ (n : Nat) (x : FoS) (v3 : Int32) (v4 : Int32) (v5 : Int32), iter (fun p : FoS × Int32 × Int32 × Int32 => Fo_m_middle_s9 M y v2 p.1 p.2.1 p.2.2.1 p.2.2.2) n (x, v3, v4, v5) = some r0 → ∀ (H : Heap) (locs : List Loc) (ls : Array Slot), va_P (dC, dI) vwCl (wFo cI cJ A x ++ (wNm cI cJ M B y)) H → va_D Q (wFo cI cJ A x ++ (wNm cI cJ M B y)) → va_S Q s.heap H locs → lv_has ls 7 [(0, .ref (A 0)), (1, .ref (B 0)), (2, .int v2), (3, .int v3), (4, .int v4), (5, .int v5)] → W p l e ({ frames := 4, cells := 0, slots := 0, locals := 112 } : Room) s m args below meth c H locs 0 0 (MQ below (QWi (dC, dI) Q (wFo cI cJ A r0.2 ++ (wNm cI cJ M B y)) r0.1) args s 0 0 Q) (F0 m 9 ls []) := by
    intro  n
    induction n with
    | zero => intro x v3 v4 v5 hf; exact iter_zero hf
    | succ n ih1 =>
      intro x v3 v4 v5 hf H locs ls hP hD hS hl
      obtain ⟨q1, hf, hk1⟩ := iter_succ hf
      have hf : Fo_m_middle_s9 M y v2 x v3 v4 v5 = some q1 := hf
      unfold Fo_m_middle_s9 at hf
      refine lv_iload hx hb dX0_middle_9 (lv_at hl 5 rfl) ?_
      refine lv_aload_n hx hb dX0_middle_11 rfl (lv_at hl 0 rfl) ?_
      refine va_get (D := (dC, dI)) (ci := 0) (v := .int (Fo_names x)) (C := RX0) (T := TX0) (N := 13) hx hb hts hiX0 hown hK hP 0 rfl rfl 12 (by decide) ww0 (fun _ h9 => h9) rfl dX0_middle_12 ?_
      refine kg_icmp_ge (tgt := 57) hx hb hf dX0_middle_15 (by decide) (fun hc hf => ?_) (fun hc hf => ?_)
      · obtain ⟨qq, hf, hqq⟩ := omap_some hf
        have hkq : qq = r0 := by rw [← hqq] at hk1; exact hk1
        rw [hkq] at hf
        clear hkq hqq
        refine lv_iload_n hx hb dX0_middle_57 rfl (lv_at hl 3 rfl) ?_
        obtain rfl := Option.some.inj hf
        exact kg_iretW hx hb hr hlk rfl hP hD hS dX0_middle_58
      · refine lv_aload_n hx hb dX0_middle_18 rfl (lv_at hl 0 rfl) ?_
        refine lv_aload_n hx hb dX0_middle_19 rfl (lv_at hl 1 rfl) ?_
        refine lv_iload_n hx hb dX0_middle_20 rfl (lv_at hl 2 rfl) ?_
        refine lv_iload hx hb dX0_middle_21 (lv_at hl 5 rfl) ?_
        obtain ⟨g23, hc, hf⟩ := ob_bind hf
        have hPc : va_P (dC, dI) vwCl (wFo cI cJ A x ++ (wNm cI cJ M B y)) H := hP
        refine kg_retRi (va_runV (As := [.ref (B 0), .int v2, .int v5]) (rest := []) ⟨hx, hb, hml, hown, hts⟩ (c_X0_isBlockOf l dC dI cI cJ A B H x M y v2 v5 _ hc) (cwV 3 hts (gw_V wd_29_2 wd_28_23 wd_29_0 wd_29_1 wd_1_19) rfl rfl rfl qX0_isBlockOf ⟨Nat.le_of_ble_eq_true rfl, Nat.le_of_ble_eq_true rfl⟩) (kg_preVR (ci := 0) (q := (RX0, TX0, 13)) (q0 := 0) hPc hK hN rfl rfl) rfl rfl hl.1 rfl (lv_room (Nat.le_of_ble_eq_true rfl)) dX0_middle_23 ⟨Nat.zero_le _, Nat.zero_le _⟩) ?_
        refine kg_b_eq (tgt := 51) hx hb hf dX0_middle_26 (by decide) (fun hc hf => ?_) (fun hc hf => ?_)
        · refine lv_iinc (v := (v5 + 1)) (lv' := [(5, .int (v5 + 1)), (0, .ref (A 0)), (1, .ref (B 0)), (2, .int v2), (3, .int v3), (4, .int v4)]) hx hb dX0_middle_51 hl (k := 5) rfl rfl (by decide) rfl (fun ls hl => ?_)
          refine lv_goto (tgt := 9) hx hb dX0_middle_54 (by decide) ?_
          obtain rfl := Option.some.inj hf
          exact ih1 x v3 v4 (v5 + 1) hk1 _ _ _ hP hD hS (lv_sub hl [1, 2, 3, 4, 5, 0] rfl)
        · refine lv_aload_n hx hb dX0_middle_29 rfl (lv_at hl 0 rfl) ?_
          refine lv_iload hx hb dX0_middle_30 (lv_at hl 5 rfl) ?_
          obtain ⟨g32, hc, hf⟩ := ob_bind hf
          have hPx : va_P (dC, dI) vwCl ((([] : va_W)) ++ ((wFo cI cJ A x) ++ ((wNm cI cJ M B y)))) H := hP
          have hDx : va_D Q ((([] : va_W)) ++ ((wFo cI cJ A x) ++ ((wNm cI cJ M B y)))) := hD
          refine kg_retWi (pre := ([] : va_W)) (wc := wFo cI cJ A x) (post := (wNm cI cJ M B y)) (w1 := wFo cI cJ A g32.2) (wz := (wFo cI cJ A g32.2 ++ (wNm cI cJ M B y))) rfl hPx hDx hS hA (va_runV (As := [.int v5]) (rest := []) ⟨hx, hb, hml, hown, hts⟩ (c_X0_farthest l dC dI cI cJ A H.size x v5 _ hc) (cwV 1 hts (gw_V wd_28_12 wd_28_9 wd_28_10 wd_28_11 wd_1_19) rfl rfl rfl qX0_farthest ⟨Nat.le_of_ble_eq_true rfl, Nat.le_of_ble_eq_true rfl⟩) (kg_preVW (ci := 0) (q := (RX0, TX0, 13)) (q0 := 0) (kg_cutP hPx) (kg_cutD hDx) hK hN rfl rfl) rfl rfl hl.1 rfl (lv_room (Nat.le_of_ble_eq_true rfl)) dX0_middle_32 ⟨Nat.zero_le _, Nat.zero_le _⟩) (fun H locs hP hD hS => ?_)
          refine lv_istore (lv' := [(6, .int g32.1), (0, .ref (A 0)), (1, .ref (B 0)), (2, .int v2), (3, .int v3), (4, .int v4), (5, .int v5)]) hx hb dX0_middle_35 hl (by decide) rfl (fun ls hl => ?_)
          refine lv_iload hx hb dX0_middle_37 (lv_at hl 0 rfl) ?_
          refine lv_iload hx hb dX0_middle_39 (lv_at hl 5 rfl) ?_
          refine kg_icmp_ge (tgt := 51) hx hb hf dX0_middle_41 (by decide) (fun hc hf => ?_) (fun hc hf => ?_)
          · refine lv_iinc (v := (v5 + 1)) (lv' := [(5, .int (v5 + 1)), (6, .int g32.1), (0, .ref (A 0)), (1, .ref (B 0)), (2, .int v2), (3, .int v3), (4, .int v4)]) hx hb dX0_middle_51 hl (k := 6) rfl rfl (by decide) rfl (fun ls hl => ?_)
            refine lv_goto (tgt := 9) hx hb dX0_middle_54 (by decide) ?_
            obtain rfl := Option.some.inj hf
            exact ih1 g32.2 v3 v4 (v5 + 1) hk1 _ _ _ hP hD hS (lv_sub hl [2, 3, 4, 5, 6, 0] rfl)
          · refine lv_iload hx hb dX0_middle_44 (lv_at hl 0 rfl) ?_
            refine lv_istore (lv' := [(4, .int g32.1), (6, .int g32.1), (0, .ref (A 0)), (1, .ref (B 0)), (2, .int v2), (3, .int v3), (5, .int v5)]) hx hb dX0_middle_46 hl (by decide) rfl (fun ls hl => ?_)
            refine lv_iload hx hb dX0_middle_48 (lv_at hl 6 rfl) ?_
            refine lv_istore_n (lv' := [(3, .int v5), (4, .int g32.1), (6, .int g32.1), (0, .ref (A 0)), (1, .ref (B 0)), (2, .int v2), (5, .int v5)]) hx hb dX0_middle_50 rfl hl (by decide) rfl (fun ls hl => ?_)
            refine lv_iinc (v := (v5 + 1)) (lv' := [(5, .int (v5 + 1)), (3, .int v5), (4, .int g32.1), (6, .int g32.1), (0, .ref (A 0)), (1, .ref (B 0)), (2, .int v2)]) hx hb dX0_middle_51 hl (k := 6) rfl rfl (by decide) rfl (fun ls hl => ?_)
            refine lv_goto (tgt := 9) hx hb dX0_middle_54 (by decide) ?_
            obtain rfl := Option.some.inj hf
            exact ih1 g32.2 v5 g32.1 (v5 + 1) hk1 _ _ _ hP hD hS (lv_sub hl [4, 5, 6, 1, 2, 0] rfl)
  exact hlp9  FU x (-1) 32 0 hf _ _ _ hP hD hS (lv_sub hl [3, 4, 5, 2, 1, 0] rfl)
set_option maxHeartbeats 4000000 in
set_option maxRecDepth 100000 in
theorem c_X0_blocksOf (l : Launch) (dC : Nat → ClassId) (dI : Nat → Nat → Nat) (cI cJ : ClassId) (A : Nat → Nat) (B : Nat → Nat) (hq : Heap) (x : FoS) (M : Nat) (y : NmS) (v2 : Int32) (r0 : Int32) (hf : Fo_m_blocksOf x M y v2 = some r0) : MRi l yX0_blocksOf (wAll yX0_blocksOf cX0_blocksOf 5 (some .int)) ({ frames := 1, cells := 0, slots := 0, locals := 40 } : Room) [.ref (A 0), .ref (B 0), .int v2] hq (dC, dI) (vTy cI cJ) (wFo cI cJ A x ++ (wNm cI cJ M B y)) r0 := by
  refine kg_metR (cc := cX0_blocksOf) (maxL := 5) (ret := (some .int)) (by decide) rfl (Nat.le_of_ble_eq_true rfl) ?_
  intro p e s m args below meth c hx hb hr hts hown hlk hml hH hP hK hN ls hl
  subst hH
  have hl : lv_has ls 5 [(0, .ref (A 0)), (1, .ref (B 0)), (2, .int v2)] := hl
  have ww0 := hts (.fieldLink RX0 45 "SafeBlocks$Forest" "count" "I") (List.mem_cons_of_mem _ wd_4_3)
  have ww1 := hts (.fieldLink RX0 75 "SafeBlocks$Names" "of" "[I") (List.mem_cons_of_mem _ wd_6_0)
  have ww2 := hts (.fieldLink RX0 33 "SafeBlocks$Forest" "order" "[I") (List.mem_cons_of_mem _ wd_3_23)
  have hiX0 : ∀ w ∈ u_ws RX0 TX0 13, w ∈ wAll yX0_blocksOf cX0_blocksOf 5 (some .int) := fun w h => List.mem_cons_of_mem _ (inlX0 w h)
  have hiX1 : ∀ w ∈ u_ws RX1 TX1 6, w ∈ wAll yX0_blocksOf cX0_blocksOf 5 (some .int) := fun w h => List.mem_cons_of_mem _ (inlX1 w h)
  unfold Fo_m_blocksOf at hf
  refine lv_iconst (v := 0) hx hb dX0_blocksOf_0 (by decide) ?_
  refine lv_istore_n (lv' := [(3, .int 0), (0, .ref (A 0)), (1, .ref (B 0)), (2, .int v2)]) hx hb dX0_blocksOf_1 rfl hl (by decide) rfl (fun ls hl => ?_)
  refine lv_iconst (v := 0) hx hb dX0_blocksOf_2 (by decide) ?_
  refine lv_istore (lv' := [(4, .int 0), (3, .int 0), (0, .ref (A 0)), (1, .ref (B 0)), (2, .int v2)]) hx hb dX0_blocksOf_3 hl (by decide) rfl (fun ls hl => ?_)
  have hlp5 : ∀ (n : Nat) (v3 : Int32) (v4 : Int32), iter (fun p : Int32 × Int32 => Fo_m_blocksOf_s5 x M y v2 p.1 p.2) n (v3, v4) = some r0 → ∀ (ls : Array Slot), lv_has ls 5 [(0, .ref (A 0)), (1, .ref (B 0)), (2, .int v2), (3, .int v3), (4, .int v4)] → W p l e ({ frames := 1, cells := 0, slots := 0, locals := 40 } : Room) s m args below meth c s.heap [] 0 0 (MQ below (QRi s.heap r0) args s 0 0 NoA) (F0 m 5 ls []) := by
    intro  n
    induction n with
    | zero => intro v3 v4 hf; exact iter_zero hf
    | succ n ih1 =>
      intro v3 v4 hf ls hl
      obtain ⟨q1, hf, hk1⟩ := iter_succ hf
      have hf : Fo_m_blocksOf_s5 x M y v2 v3 v4 = some q1 := hf
      unfold Fo_m_blocksOf_s5 at hf
      refine lv_iload hx hb dX0_blocksOf_5 (lv_at hl 4 rfl) ?_
      refine lv_aload_n hx hb dX0_blocksOf_7 rfl (lv_at hl 0 rfl) ?_
      refine va_get (D := (dC, dI)) (ci := 0) (v := .int (Fo_count x)) (C := RX0) (T := TX0) (N := 13) hx hb hts hiX0 hown hK hP 0 rfl rfl 11 (by decide) ww0 (fun _ h9 => h9) rfl dX0_blocksOf_8 ?_
      refine kg_icmp_ge (tgt := 39) hx hb hf dX0_blocksOf_11 (by decide) (fun hc hf => ?_) (fun hc hf => ?_)
      · obtain ⟨qq, hf, hqq⟩ := omap_some hf
        have hkq : qq = r0 := by rw [← hqq] at hk1; exact hk1
        rw [hkq] at hf
        clear hkq hqq
        refine lv_iload_n hx hb dX0_blocksOf_39 rfl (lv_at hl 3 rfl) ?_
        obtain rfl := Option.some.inj hf
        exact kg_iretR hx hb hr hlk rfl dX0_blocksOf_40
      · refine lv_aload_n hx hb dX0_blocksOf_14 rfl (lv_at hl 1 rfl) ?_
        refine va_get (D := (dC, dI)) (ci := 1) (v := .ref (B 1)) (C := RX1) (T := TX1) (N := 6) hx hb hts hiX1 hown hK hP 12 rfl rfl 0 (by decide) ww1 (fun _ h9 => h9) rfl dX0_blocksOf_15 ?_
        refine lv_aload_n hx hb dX0_blocksOf_18 rfl (lv_at hl 0 rfl) ?_
        refine va_get (D := (dC, dI)) (ci := 0) (v := .ref (A 8)) (C := RX0) (T := TX0) (N := 13) hx hb hts hiX0 hown hK hP 0 rfl rfl 7 (by decide) ww2 (fun _ h9 => h9) rfl dX0_blocksOf_19 ?_
        refine lv_iload hx hb dX0_blocksOf_22 (lv_at hl 4 rfl) ?_
        obtain ⟨g24, hv, hf⟩ := ob_bind hf
        refine kg_iald hx hb hK hP 8 0 rfl rfl hv dX0_blocksOf_24 ?_
        obtain ⟨g25, hv, hf⟩ := ob_bind hf
        refine kg_iald hx hb hK hP 13 0 rfl rfl hv dX0_blocksOf_25 ?_
        refine lv_iload_n hx hb dX0_blocksOf_26 rfl (lv_at hl 2 rfl) ?_
        refine kg_icmp_ne (tgt := 33) hx hb hf dX0_blocksOf_27 (by decide) (fun hc hf => ?_) (fun hc hf => ?_)
        · refine lv_iinc (v := (v4 + 1)) (lv' := [(4, .int (v4 + 1)), (0, .ref (A 0)), (1, .ref (B 0)), (2, .int v2), (3, .int v3)]) hx hb dX0_blocksOf_33 hl (k := 4) rfl rfl (by decide) rfl (fun ls hl => ?_)
          refine lv_goto (tgt := 5) hx hb dX0_blocksOf_36 (by decide) ?_
          obtain rfl := Option.some.inj hf
          exact ih1 v3 (v4 + 1) hk1 _ (lv_sub hl [1, 2, 3, 4, 0] rfl)
        · refine lv_iinc (v := (v3 + 1)) (lv' := [(3, .int (v3 + 1)), (0, .ref (A 0)), (1, .ref (B 0)), (2, .int v2), (4, .int v4)]) hx hb dX0_blocksOf_30 hl (k := 3) rfl rfl (by decide) rfl (fun ls hl => ?_)
          refine lv_iinc (v := (v4 + 1)) (lv' := [(4, .int (v4 + 1)), (3, .int (v3 + 1)), (0, .ref (A 0)), (1, .ref (B 0)), (2, .int v2)]) hx hb dX0_blocksOf_33 hl (k := 4) rfl rfl (by decide) rfl (fun ls hl => ?_)
          refine lv_goto (tgt := 5) hx hb dX0_blocksOf_36 (by decide) ?_
          obtain rfl := Option.some.inj hf
          exact ih1 (v3 + 1) (v4 + 1) hk1 _ (lv_sub hl [2, 3, 4, 1, 0] rfl)
  exact hlp5  FU 0 0 hf _ (lv_sub hl [2, 3, 4, 1, 0] rfl)
set_option maxHeartbeats 4000000 in
set_option maxRecDepth 100000 in
theorem c_X0_rootOf (l : Launch) (dC : Nat → ClassId) (dI : Nat → Nat → Nat) (cI cJ : ClassId) (A : Nat → Nat) (B : Nat → Nat) (hq : Heap) (x : FoS) (M : Nat) (y : NmS) (v2 : Int32) (r0 : Int32) (hf : Fo_m_rootOf x M y v2 = some r0) : MRi l yX0_rootOf (wAll yX0_rootOf cX0_rootOf 4 (some .int)) ({ frames := 1, cells := 0, slots := 0, locals := 40 } : Room) [.ref (A 0), .ref (B 0), .int v2] hq (dC, dI) (vTy cI cJ) (wFo cI cJ A x ++ (wNm cI cJ M B y)) r0 := by
  refine kg_metR (cc := cX0_rootOf) (maxL := 4) (ret := (some .int)) (by decide) rfl (Nat.le_of_ble_eq_true rfl) ?_
  intro p e s m args below meth c hx hb hr hts hown hlk hml hH hP hK hN ls hl
  subst hH
  have hl : lv_has ls 4 [(0, .ref (A 0)), (1, .ref (B 0)), (2, .int v2)] := hl
  have ww0 := hts (.fieldLink RX0 45 "SafeBlocks$Forest" "count" "I") (List.mem_cons_of_mem _ wd_4_3)
  have ww1 := hts (.fieldLink RX0 75 "SafeBlocks$Names" "of" "[I") (List.mem_cons_of_mem _ wd_6_0)
  have ww2 := hts (.fieldLink RX0 33 "SafeBlocks$Forest" "order" "[I") (List.mem_cons_of_mem _ wd_3_23)
  have hiX0 : ∀ w ∈ u_ws RX0 TX0 13, w ∈ wAll yX0_rootOf cX0_rootOf 4 (some .int) := fun w h => List.mem_cons_of_mem _ (inlX0 w h)
  have hiX1 : ∀ w ∈ u_ws RX1 TX1 6, w ∈ wAll yX0_rootOf cX0_rootOf 4 (some .int) := fun w h => List.mem_cons_of_mem _ (inlX1 w h)
  unfold Fo_m_rootOf at hf
  refine lv_iconst (v := 0) hx hb dX0_rootOf_0 (by decide) ?_
  refine lv_istore_n (lv' := [(3, .int 0), (0, .ref (A 0)), (1, .ref (B 0)), (2, .int v2)]) hx hb dX0_rootOf_1 rfl hl (by decide) rfl (fun ls hl => ?_)
  have hlp2 : ∀ (n : Nat) (v3 : Int32), iter (fun p : Int32 => Fo_m_rootOf_s2 x M y v2 p) n (v3) = some r0 → ∀ (ls : Array Slot), lv_has ls 4 [(0, .ref (A 0)), (1, .ref (B 0)), (2, .int v2), (3, .int v3)] → W p l e ({ frames := 1, cells := 0, slots := 0, locals := 40 } : Room) s m args below meth c s.heap [] 0 0 (MQ below (QRi s.heap r0) args s 0 0 NoA) (F0 m 2 ls []) := by
    intro  n
    induction n with
    | zero => intro v3 hf; exact iter_zero hf
    | succ n ih1 =>
      intro v3 hf ls hl
      obtain ⟨q1, hf, hk1⟩ := iter_succ hf
      have hf : Fo_m_rootOf_s2 x M y v2 v3 = some q1 := hf
      unfold Fo_m_rootOf_s2 at hf
      refine lv_iload_n hx hb dX0_rootOf_2 rfl (lv_at hl 3 rfl) ?_
      refine lv_aload_n hx hb dX0_rootOf_3 rfl (lv_at hl 0 rfl) ?_
      refine va_get (D := (dC, dI)) (ci := 0) (v := .int (Fo_count x)) (C := RX0) (T := TX0) (N := 13) hx hb hts hiX0 hown hK hP 0 rfl rfl 11 (by decide) ww0 (fun _ h9 => h9) rfl dX0_rootOf_4 ?_
      refine kg_icmp_ge (tgt := 38) hx hb hf dX0_rootOf_7 (by decide) (fun hc hf => ?_) (fun hc hf => ?_)
      · obtain ⟨qq, hf, hqq⟩ := omap_some hf
        have hkq : qq = r0 := by rw [← hqq] at hk1; exact hk1
        rw [hkq] at hf
        clear hkq hqq
        refine lv_iconst (v := (-1)) hx hb dX0_rootOf_38 (by decide) ?_
        obtain rfl := Option.some.inj hf
        exact kg_iretR hx hb hr hlk rfl dX0_rootOf_39
      · refine lv_aload_n hx hb dX0_rootOf_10 rfl (lv_at hl 1 rfl) ?_
        refine va_get (D := (dC, dI)) (ci := 1) (v := .ref (B 1)) (C := RX1) (T := TX1) (N := 6) hx hb hts hiX1 hown hK hP 12 rfl rfl 0 (by decide) ww1 (fun _ h9 => h9) rfl dX0_rootOf_11 ?_
        refine lv_aload_n hx hb dX0_rootOf_14 rfl (lv_at hl 0 rfl) ?_
        refine va_get (D := (dC, dI)) (ci := 0) (v := .ref (A 8)) (C := RX0) (T := TX0) (N := 13) hx hb hts hiX0 hown hK hP 0 rfl rfl 7 (by decide) ww2 (fun _ h9 => h9) rfl dX0_rootOf_15 ?_
        refine lv_iload_n hx hb dX0_rootOf_18 rfl (lv_at hl 3 rfl) ?_
        obtain ⟨g19, hv, hf⟩ := ob_bind hf
        refine kg_iald hx hb hK hP 8 0 rfl rfl hv dX0_rootOf_19 ?_
        obtain ⟨g20, hv, hf⟩ := ob_bind hf
        refine kg_iald hx hb hK hP 13 0 rfl rfl hv dX0_rootOf_20 ?_
        refine lv_iload_n hx hb dX0_rootOf_21 rfl (lv_at hl 2 rfl) ?_
        refine kg_icmp_ne (tgt := 32) hx hb hf dX0_rootOf_22 (by decide) (fun hc hf => ?_) (fun hc hf => ?_)
        · refine lv_iinc (v := (v3 + 1)) (lv' := [(3, .int (v3 + 1)), (0, .ref (A 0)), (1, .ref (B 0)), (2, .int v2)]) hx hb dX0_rootOf_32 hl (k := 3) rfl rfl (by decide) rfl (fun ls hl => ?_)
          refine lv_goto (tgt := 2) hx hb dX0_rootOf_35 (by decide) ?_
          obtain rfl := Option.some.inj hf
          exact ih1 (v3 + 1) hk1 _ (lv_sub hl [1, 2, 3, 0] rfl)
        · obtain ⟨qq, hf, hqq⟩ := omap_some hf
          have hkq : qq = r0 := by rw [← hqq] at hk1; exact hk1
          rw [hkq] at hf
          clear hkq hqq
          refine lv_aload_n hx hb dX0_rootOf_25 rfl (lv_at hl 0 rfl) ?_
          refine va_get (D := (dC, dI)) (ci := 0) (v := .ref (A 8)) (C := RX0) (T := TX0) (N := 13) hx hb hts hiX0 hown hK hP 0 rfl rfl 7 (by decide) ww2 (fun _ h9 => h9) rfl dX0_rootOf_26 ?_
          refine lv_iload_n hx hb dX0_rootOf_29 rfl (lv_at hl 3 rfl) ?_
          obtain ⟨g30, hv, hf⟩ := ob_bind hf
          refine kg_iald hx hb hK hP 8 0 rfl rfl hv dX0_rootOf_30 ?_
          obtain rfl := Option.some.inj hf
          exact kg_iretR hx hb hr hlk rfl dX0_rootOf_31
  exact hlp2  FU 0 hf _ (lv_sub hl [1, 2, 3, 0] rfl)
set_option maxHeartbeats 4000000 in
set_option maxRecDepth 100000 in
theorem c_X0_leavesOf (l : Launch) (dC : Nat → ClassId) (dI : Nat → Nat → Nat) (cI cJ : ClassId) (A : Nat → Nat) (B : Nat → Nat) (hq : Heap) (x : FoS) (M : Nat) (y : NmS) (v2 : Int32) (r0 : Int32) (hf : Fo_m_leavesOf x M y v2 = some r0) : MRi l yX0_leavesOf (wAll yX0_leavesOf cX0_leavesOf 5 (some .int)) ({ frames := 1, cells := 0, slots := 0, locals := 40 } : Room) [.ref (A 0), .ref (B 0), .int v2] hq (dC, dI) (vTy cI cJ) (wFo cI cJ A x ++ (wNm cI cJ M B y)) r0 := by
  refine kg_metR (cc := cX0_leavesOf) (maxL := 5) (ret := (some .int)) (by decide) rfl (Nat.le_of_ble_eq_true rfl) ?_
  intro p e s m args below meth c hx hb hr hts hown hlk hml hH hP hK hN ls hl
  subst hH
  have hl : lv_has ls 5 [(0, .ref (A 0)), (1, .ref (B 0)), (2, .int v2)] := hl
  have ww0 := hts (.fieldLink RX0 45 "SafeBlocks$Forest" "count" "I") (List.mem_cons_of_mem _ wd_4_3)
  have ww1 := hts (.fieldLink RX0 75 "SafeBlocks$Names" "of" "[I") (List.mem_cons_of_mem _ wd_6_0)
  have ww2 := hts (.fieldLink RX0 33 "SafeBlocks$Forest" "order" "[I") (List.mem_cons_of_mem _ wd_3_23)
  have ww3 := hts (.fieldLink RX0 24 "SafeBlocks$Forest" "bridgesAt" "[I") (List.mem_cons_of_mem _ wd_3_20)
  have hiX0 : ∀ w ∈ u_ws RX0 TX0 13, w ∈ wAll yX0_leavesOf cX0_leavesOf 5 (some .int) := fun w h => List.mem_cons_of_mem _ (inlX0 w h)
  have hiX1 : ∀ w ∈ u_ws RX1 TX1 6, w ∈ wAll yX0_leavesOf cX0_leavesOf 5 (some .int) := fun w h => List.mem_cons_of_mem _ (inlX1 w h)
  unfold Fo_m_leavesOf at hf
  refine lv_iconst (v := 0) hx hb dX0_leavesOf_0 (by decide) ?_
  refine lv_istore_n (lv' := [(3, .int 0), (0, .ref (A 0)), (1, .ref (B 0)), (2, .int v2)]) hx hb dX0_leavesOf_1 rfl hl (by decide) rfl (fun ls hl => ?_)
  refine lv_iconst (v := 0) hx hb dX0_leavesOf_2 (by decide) ?_
  refine lv_istore (lv' := [(4, .int 0), (3, .int 0), (0, .ref (A 0)), (1, .ref (B 0)), (2, .int v2)]) hx hb dX0_leavesOf_3 hl (by decide) rfl (fun ls hl => ?_)
  have hlp5 : ∀ (n : Nat) (v3 : Int32) (v4 : Int32), iter (fun p : Int32 × Int32 => Fo_m_leavesOf_s5 x M y v2 p.1 p.2) n (v3, v4) = some r0 → ∀ (ls : Array Slot), lv_has ls 5 [(0, .ref (A 0)), (1, .ref (B 0)), (2, .int v2), (3, .int v3), (4, .int v4)] → W p l e ({ frames := 1, cells := 0, slots := 0, locals := 40 } : Room) s m args below meth c s.heap [] 0 0 (MQ below (QRi s.heap r0) args s 0 0 NoA) (F0 m 5 ls []) := by
    intro  n
    induction n with
    | zero => intro v3 v4 hf; exact iter_zero hf
    | succ n ih1 =>
      intro v3 v4 hf ls hl
      obtain ⟨q1, hf, hk1⟩ := iter_succ hf
      have hf : Fo_m_leavesOf_s5 x M y v2 v3 v4 = some q1 := hf
      unfold Fo_m_leavesOf_s5 at hf
      refine lv_iload hx hb dX0_leavesOf_5 (lv_at hl 4 rfl) ?_
      refine lv_aload_n hx hb dX0_leavesOf_7 rfl (lv_at hl 0 rfl) ?_
      refine va_get (D := (dC, dI)) (ci := 0) (v := .int (Fo_count x)) (C := RX0) (T := TX0) (N := 13) hx hb hts hiX0 hown hK hP 0 rfl rfl 11 (by decide) ww0 (fun _ h9 => h9) rfl dX0_leavesOf_8 ?_
      refine kg_icmp_ge (tgt := 55) hx hb hf dX0_leavesOf_11 (by decide) (fun hc hf => ?_) (fun hc hf => ?_)
      · obtain ⟨qq, hf, hqq⟩ := omap_some hf
        have hkq : qq = r0 := by rw [← hqq] at hk1; exact hk1
        rw [hkq] at hf
        clear hkq hqq
        refine lv_iload_n hx hb dX0_leavesOf_55 rfl (lv_at hl 3 rfl) ?_
        obtain rfl := Option.some.inj hf
        exact kg_iretR hx hb hr hlk rfl dX0_leavesOf_56
      · refine lv_aload_n hx hb dX0_leavesOf_14 rfl (lv_at hl 1 rfl) ?_
        refine va_get (D := (dC, dI)) (ci := 1) (v := .ref (B 1)) (C := RX1) (T := TX1) (N := 6) hx hb hts hiX1 hown hK hP 12 rfl rfl 0 (by decide) ww1 (fun _ h9 => h9) rfl dX0_leavesOf_15 ?_
        refine lv_aload_n hx hb dX0_leavesOf_18 rfl (lv_at hl 0 rfl) ?_
        refine va_get (D := (dC, dI)) (ci := 0) (v := .ref (A 8)) (C := RX0) (T := TX0) (N := 13) hx hb hts hiX0 hown hK hP 0 rfl rfl 7 (by decide) ww2 (fun _ h9 => h9) rfl dX0_leavesOf_19 ?_
        refine lv_iload hx hb dX0_leavesOf_22 (lv_at hl 4 rfl) ?_
        obtain ⟨g24, hv, hf⟩ := ob_bind hf
        refine kg_iald hx hb hK hP 8 0 rfl rfl hv dX0_leavesOf_24 ?_
        obtain ⟨g25, hv, hf⟩ := ob_bind hf
        refine kg_iald hx hb hK hP 13 0 rfl rfl hv dX0_leavesOf_25 ?_
        refine lv_iload_n hx hb dX0_leavesOf_26 rfl (lv_at hl 2 rfl) ?_
        refine kg_icmp_ne (tgt := 49) hx hb hf dX0_leavesOf_27 (by decide) (fun hc hf => ?_) (fun hc hf => ?_)
        · refine lv_iinc (v := (v4 + 1)) (lv' := [(4, .int (v4 + 1)), (0, .ref (A 0)), (1, .ref (B 0)), (2, .int v2), (3, .int v3)]) hx hb dX0_leavesOf_49 hl (k := 4) rfl rfl (by decide) rfl (fun ls hl => ?_)
          refine lv_goto (tgt := 5) hx hb dX0_leavesOf_52 (by decide) ?_
          obtain rfl := Option.some.inj hf
          exact ih1 v3 (v4 + 1) hk1 _ (lv_sub hl [1, 2, 3, 4, 0] rfl)
        · refine lv_aload_n hx hb dX0_leavesOf_30 rfl (lv_at hl 0 rfl) ?_
          refine va_get (D := (dC, dI)) (ci := 0) (v := .ref (A 5)) (C := RX0) (T := TX0) (N := 13) hx hb hts hiX0 hown hK hP 0 rfl rfl 4 (by decide) ww3 (fun _ h9 => h9) rfl dX0_leavesOf_31 ?_
          refine lv_aload_n hx hb dX0_leavesOf_34 rfl (lv_at hl 0 rfl) ?_
          refine va_get (D := (dC, dI)) (ci := 0) (v := .ref (A 8)) (C := RX0) (T := TX0) (N := 13) hx hb hts hiX0 hown hK hP 0 rfl rfl 7 (by decide) ww2 (fun _ h9 => h9) rfl dX0_leavesOf_35 ?_
          refine lv_iload hx hb dX0_leavesOf_38 (lv_at hl 4 rfl) ?_
          obtain ⟨g40, hv, hf⟩ := ob_bind hf
          refine kg_iald hx hb hK hP 8 0 rfl rfl hv dX0_leavesOf_40 ?_
          obtain ⟨g41, hv, hf⟩ := ob_bind hf
          refine kg_iald hx hb hK hP 5 0 rfl rfl hv dX0_leavesOf_41 ?_
          refine lv_iconst (v := 1) hx hb dX0_leavesOf_42 (by decide) ?_
          refine kg_icmp_ne (tgt := 49) hx hb hf dX0_leavesOf_43 (by decide) (fun hc hf => ?_) (fun hc hf => ?_)
          · refine lv_iinc (v := (v4 + 1)) (lv' := [(4, .int (v4 + 1)), (0, .ref (A 0)), (1, .ref (B 0)), (2, .int v2), (3, .int v3)]) hx hb dX0_leavesOf_49 hl (k := 4) rfl rfl (by decide) rfl (fun ls hl => ?_)
            refine lv_goto (tgt := 5) hx hb dX0_leavesOf_52 (by decide) ?_
            obtain rfl := Option.some.inj hf
            exact ih1 v3 (v4 + 1) hk1 _ (lv_sub hl [1, 2, 3, 4, 0] rfl)
          · refine lv_iinc (v := (v3 + 1)) (lv' := [(3, .int (v3 + 1)), (0, .ref (A 0)), (1, .ref (B 0)), (2, .int v2), (4, .int v4)]) hx hb dX0_leavesOf_46 hl (k := 3) rfl rfl (by decide) rfl (fun ls hl => ?_)
            refine lv_iinc (v := (v4 + 1)) (lv' := [(4, .int (v4 + 1)), (3, .int (v3 + 1)), (0, .ref (A 0)), (1, .ref (B 0)), (2, .int v2)]) hx hb dX0_leavesOf_49 hl (k := 4) rfl rfl (by decide) rfl (fun ls hl => ?_)
            refine lv_goto (tgt := 5) hx hb dX0_leavesOf_52 (by decide) ?_
            obtain rfl := Option.some.inj hf
            exact ih1 (v3 + 1) (v4 + 1) hk1 _ (lv_sub hl [2, 3, 4, 1, 0] rfl)
  exact hlp5  FU 0 0 hf _ (lv_sub hl [2, 3, 4, 1, 0] rfl)
set_option maxHeartbeats 4000000 in
set_option maxRecDepth 100000 in
theorem c_X0_leaf (l : Launch) (dC : Nat → ClassId) (dI : Nat → Nat → Nat) (cI cJ : ClassId) (A : Nat → Nat) (B : Nat → Nat) (hq : Heap) (x : FoS) (M : Nat) (y : NmS) (v2 : Int32) (v3 : Int32) (r0 : Int32) (hf : Fo_m_leaf x M y v2 v3 = some r0) : MRi l yX0_leaf (wAll yX0_leaf cX0_leaf 6 (some .int)) ({ frames := 1, cells := 0, slots := 0, locals := 40 } : Room) [.ref (A 0), .ref (B 0), .int v2, .int v3] hq (dC, dI) (vTy cI cJ) (wFo cI cJ A x ++ (wNm cI cJ M B y)) r0 := by
  refine kg_metR (cc := cX0_leaf) (maxL := 6) (ret := (some .int)) (by decide) rfl (Nat.le_of_ble_eq_true rfl) ?_
  intro p e s m args below meth c hx hb hr hts hown hlk hml hH hP hK hN ls hl
  subst hH
  have hl : lv_has ls 6 [(0, .ref (A 0)), (1, .ref (B 0)), (2, .int v2), (3, .int v3)] := hl
  have ww0 := hts (.fieldLink RX0 45 "SafeBlocks$Forest" "count" "I") (List.mem_cons_of_mem _ wd_4_3)
  have ww1 := hts (.fieldLink RX0 75 "SafeBlocks$Names" "of" "[I") (List.mem_cons_of_mem _ wd_6_0)
  have ww2 := hts (.fieldLink RX0 33 "SafeBlocks$Forest" "order" "[I") (List.mem_cons_of_mem _ wd_3_23)
  have ww3 := hts (.fieldLink RX0 24 "SafeBlocks$Forest" "bridgesAt" "[I") (List.mem_cons_of_mem _ wd_3_20)
  have hiX0 : ∀ w ∈ u_ws RX0 TX0 13, w ∈ wAll yX0_leaf cX0_leaf 6 (some .int) := fun w h => List.mem_cons_of_mem _ (inlX0 w h)
  have hiX1 : ∀ w ∈ u_ws RX1 TX1 6, w ∈ wAll yX0_leaf cX0_leaf 6 (some .int) := fun w h => List.mem_cons_of_mem _ (inlX1 w h)
  unfold Fo_m_leaf at hf
  refine lv_iconst (v := 0) hx hb dX0_leaf_0 (by decide) ?_
  refine lv_istore (lv' := [(4, .int 0), (0, .ref (A 0)), (1, .ref (B 0)), (2, .int v2), (3, .int v3)]) hx hb dX0_leaf_1 hl (by decide) rfl (fun ls hl => ?_)
  refine lv_iconst (v := 0) hx hb dX0_leaf_3 (by decide) ?_
  refine lv_istore (lv' := [(5, .int 0), (4, .int 0), (0, .ref (A 0)), (1, .ref (B 0)), (2, .int v2), (3, .int v3)]) hx hb dX0_leaf_4 hl (by decide) rfl (fun ls hl => ?_)
  have hlp6 : ∀ (n : Nat) (v4 : Int32) (v5 : Int32), iter (fun p : Int32 × Int32 => Fo_m_leaf_s6 x M y v2 v3 p.1 p.2) n (v4, v5) = some r0 → ∀ (ls : Array Slot), lv_has ls 6 [(0, .ref (A 0)), (1, .ref (B 0)), (2, .int v2), (3, .int v3), (4, .int v4), (5, .int v5)] → W p l e ({ frames := 1, cells := 0, slots := 0, locals := 40 } : Room) s m args below meth c s.heap [] 0 0 (MQ below (QRi s.heap r0) args s 0 0 NoA) (F0 m 6 ls []) := by
    intro  n
    induction n with
    | zero => intro v4 v5 hf; exact iter_zero hf
    | succ n ih1 =>
      intro v4 v5 hf ls hl
      obtain ⟨q1, hf, hk1⟩ := iter_succ hf
      have hf : Fo_m_leaf_s6 x M y v2 v3 v4 v5 = some q1 := hf
      unfold Fo_m_leaf_s6 at hf
      refine lv_iload hx hb dX0_leaf_6 (lv_at hl 5 rfl) ?_
      refine lv_aload_n hx hb dX0_leaf_8 rfl (lv_at hl 0 rfl) ?_
      refine va_get (D := (dC, dI)) (ci := 0) (v := .int (Fo_count x)) (C := RX0) (T := TX0) (N := 13) hx hb hts hiX0 hown hK hP 0 rfl rfl 11 (by decide) ww0 (fun _ h9 => h9) rfl dX0_leaf_9 ?_
      refine kg_icmp_ge (tgt := 70) hx hb hf dX0_leaf_12 (by decide) (fun hc hf => ?_) (fun hc hf => ?_)
      · obtain ⟨qq, hf, hqq⟩ := omap_some hf
        have hkq : qq = r0 := by rw [← hqq] at hk1; exact hk1
        rw [hkq] at hf
        clear hkq hqq
        refine lv_iconst (v := (-1)) hx hb dX0_leaf_70 (by decide) ?_
        obtain rfl := Option.some.inj hf
        exact kg_iretR hx hb hr hlk rfl dX0_leaf_71
      · refine lv_aload_n hx hb dX0_leaf_15 rfl (lv_at hl 1 rfl) ?_
        refine va_get (D := (dC, dI)) (ci := 1) (v := .ref (B 1)) (C := RX1) (T := TX1) (N := 6) hx hb hts hiX1 hown hK hP 12 rfl rfl 0 (by decide) ww1 (fun _ h9 => h9) rfl dX0_leaf_16 ?_
        refine lv_aload_n hx hb dX0_leaf_19 rfl (lv_at hl 0 rfl) ?_
        refine va_get (D := (dC, dI)) (ci := 0) (v := .ref (A 8)) (C := RX0) (T := TX0) (N := 13) hx hb hts hiX0 hown hK hP 0 rfl rfl 7 (by decide) ww2 (fun _ h9 => h9) rfl dX0_leaf_20 ?_
        refine lv_iload hx hb dX0_leaf_23 (lv_at hl 5 rfl) ?_
        obtain ⟨g25, hv, hf⟩ := ob_bind hf
        refine kg_iald hx hb hK hP 8 0 rfl rfl hv dX0_leaf_25 ?_
        obtain ⟨g26, hv, hf⟩ := ob_bind hf
        refine kg_iald hx hb hK hP 13 0 rfl rfl hv dX0_leaf_26 ?_
        refine lv_iload_n hx hb dX0_leaf_27 rfl (lv_at hl 2 rfl) ?_
        refine kg_icmp_ne (tgt := 64) hx hb hf dX0_leaf_28 (by decide) (fun hc hf => ?_) (fun hc hf => ?_)
        · refine lv_iinc (v := (v5 + 1)) (lv' := [(5, .int (v5 + 1)), (0, .ref (A 0)), (1, .ref (B 0)), (2, .int v2), (3, .int v3), (4, .int v4)]) hx hb dX0_leaf_64 hl (k := 5) rfl rfl (by decide) rfl (fun ls hl => ?_)
          refine lv_goto (tgt := 6) hx hb dX0_leaf_67 (by decide) ?_
          obtain rfl := Option.some.inj hf
          exact ih1 v4 (v5 + 1) hk1 _ (lv_sub hl [1, 2, 3, 4, 5, 0] rfl)
        · refine lv_aload_n hx hb dX0_leaf_31 rfl (lv_at hl 0 rfl) ?_
          refine va_get (D := (dC, dI)) (ci := 0) (v := .ref (A 5)) (C := RX0) (T := TX0) (N := 13) hx hb hts hiX0 hown hK hP 0 rfl rfl 4 (by decide) ww3 (fun _ h9 => h9) rfl dX0_leaf_32 ?_
          refine lv_aload_n hx hb dX0_leaf_35 rfl (lv_at hl 0 rfl) ?_
          refine va_get (D := (dC, dI)) (ci := 0) (v := .ref (A 8)) (C := RX0) (T := TX0) (N := 13) hx hb hts hiX0 hown hK hP 0 rfl rfl 7 (by decide) ww2 (fun _ h9 => h9) rfl dX0_leaf_36 ?_
          refine lv_iload hx hb dX0_leaf_39 (lv_at hl 5 rfl) ?_
          obtain ⟨g41, hv, hf⟩ := ob_bind hf
          refine kg_iald hx hb hK hP 8 0 rfl rfl hv dX0_leaf_41 ?_
          obtain ⟨g42, hv, hf⟩ := ob_bind hf
          refine kg_iald hx hb hK hP 5 0 rfl rfl hv dX0_leaf_42 ?_
          refine lv_iconst (v := 1) hx hb dX0_leaf_43 (by decide) ?_
          refine kg_icmp_ne (tgt := 64) hx hb hf dX0_leaf_44 (by decide) (fun hc hf => ?_) (fun hc hf => ?_)
          · refine lv_iinc (v := (v5 + 1)) (lv' := [(5, .int (v5 + 1)), (0, .ref (A 0)), (1, .ref (B 0)), (2, .int v2), (3, .int v3), (4, .int v4)]) hx hb dX0_leaf_64 hl (k := 5) rfl rfl (by decide) rfl (fun ls hl => ?_)
            refine lv_goto (tgt := 6) hx hb dX0_leaf_67 (by decide) ?_
            obtain rfl := Option.some.inj hf
            exact ih1 v4 (v5 + 1) hk1 _ (lv_sub hl [1, 2, 3, 4, 5, 0] rfl)
          · refine lv_iload hx hb dX0_leaf_47 (lv_at hl 4 rfl) ?_
            refine lv_iload_n hx hb dX0_leaf_49 rfl (lv_at hl 3 rfl) ?_
            refine kg_icmp_ne (tgt := 61) hx hb hf dX0_leaf_50 (by decide) (fun hc hf => ?_) (fun hc hf => ?_)
            · refine lv_iinc (v := (v4 + 1)) (lv' := [(4, .int (v4 + 1)), (0, .ref (A 0)), (1, .ref (B 0)), (2, .int v2), (3, .int v3), (5, .int v5)]) hx hb dX0_leaf_61 hl (k := 4) rfl rfl (by decide) rfl (fun ls hl => ?_)
              refine lv_iinc (v := (v5 + 1)) (lv' := [(5, .int (v5 + 1)), (4, .int (v4 + 1)), (0, .ref (A 0)), (1, .ref (B 0)), (2, .int v2), (3, .int v3)]) hx hb dX0_leaf_64 hl (k := 5) rfl rfl (by decide) rfl (fun ls hl => ?_)
              refine lv_goto (tgt := 6) hx hb dX0_leaf_67 (by decide) ?_
              obtain rfl := Option.some.inj hf
              exact ih1 (v4 + 1) (v5 + 1) hk1 _ (lv_sub hl [2, 3, 4, 5, 1, 0] rfl)
            · obtain ⟨qq, hf, hqq⟩ := omap_some hf
              have hkq : qq = r0 := by rw [← hqq] at hk1; exact hk1
              rw [hkq] at hf
              clear hkq hqq
              refine lv_aload_n hx hb dX0_leaf_53 rfl (lv_at hl 0 rfl) ?_
              refine va_get (D := (dC, dI)) (ci := 0) (v := .ref (A 8)) (C := RX0) (T := TX0) (N := 13) hx hb hts hiX0 hown hK hP 0 rfl rfl 7 (by decide) ww2 (fun _ h9 => h9) rfl dX0_leaf_54 ?_
              refine lv_iload hx hb dX0_leaf_57 (lv_at hl 5 rfl) ?_
              obtain ⟨g59, hv, hf⟩ := ob_bind hf
              refine kg_iald hx hb hK hP 8 0 rfl rfl hv dX0_leaf_59 ?_
              obtain rfl := Option.some.inj hf
              exact kg_iretR hx hb hr hlk rfl dX0_leaf_60
  exact hlp6  FU 0 0 hf _ (lv_sub hl [2, 3, 4, 5, 1, 0] rfl)
set_option maxHeartbeats 4000000 in
set_option maxRecDepth 100000 in
theorem c_X0_deepest (l : Launch) (dC : Nat → ClassId) (dI : Nat → Nat → Nat) (cI cJ : ClassId) (A : Nat → Nat) (hq : Heap) (x : FoS) (r0 : Int32) (hf : Fo_m_deepest x = some r0) : MRi l yX0_deepest (wAll yX0_deepest cX0_deepest 3 (some .int)) ({ frames := 1, cells := 0, slots := 0, locals := 40 } : Room) [.ref (A 0)] hq (dC, dI) (vTy cI cJ) (wFo cI cJ A x) r0 := by
  refine kg_metR (cc := cX0_deepest) (maxL := 3) (ret := (some .int)) (by decide) rfl (Nat.le_of_ble_eq_true rfl) ?_
  intro p e s m args below meth c hx hb hr hts hown hlk hml hH hP hK hN ls hl
  subst hH
  have hl : lv_has ls 3 [(0, .ref (A 0))] := hl
  have ww0 := hts (.fieldLink RX0 45 "SafeBlocks$Forest" "count" "I") (List.mem_cons_of_mem _ wd_4_3)
  have ww1 := hts (.fieldLink RX0 18 "SafeBlocks$Forest" "deep" "[I") (List.mem_cons_of_mem _ wd_3_18)
  have ww2 := hts (.fieldLink RX0 33 "SafeBlocks$Forest" "order" "[I") (List.mem_cons_of_mem _ wd_3_23)
  have ww3 := hts (.methodLink RX0 101 Lib.Math.max.name) (List.mem_cons_of_mem _ wd_28_8)
  have ww4 := hts (.static Lib.Math.max.name) (List.mem_cons_of_mem _ wd_14_7)
  have ww5 := hts (.initialized "java/lang/Math") (List.mem_cons_of_mem _ wd_14_8)
  have ww6 := hts (.code Lib.Math.max.name Lib.Math.max.code 2 (some .int)) (List.mem_cons_of_mem _ wd_14_9)
  have hiX0 : ∀ w ∈ u_ws RX0 TX0 13, w ∈ wAll yX0_deepest cX0_deepest 3 (some .int) := fun w h => List.mem_cons_of_mem _ (inlX0 w h)
  unfold Fo_m_deepest at hf
  refine lv_iconst (v := 0) hx hb dX0_deepest_0 (by decide) ?_
  refine lv_istore_n (lv' := [(1, .int 0), (0, .ref (A 0))]) hx hb dX0_deepest_1 rfl hl (by decide) rfl (fun ls hl => ?_)
  refine lv_iconst (v := 0) hx hb dX0_deepest_2 (by decide) ?_
  refine lv_istore_n (lv' := [(2, .int 0), (1, .int 0), (0, .ref (A 0))]) hx hb dX0_deepest_3 rfl hl (by decide) rfl (fun ls hl => ?_)
  have hlp4 : ∀ (n : Nat) (v1 : Int32) (v2 : Int32), iter (fun p : Int32 × Int32 => Fo_m_deepest_s4 x p.1 p.2) n (v1, v2) = some r0 → ∀ (ls : Array Slot), lv_has ls 3 [(0, .ref (A 0)), (1, .int v1), (2, .int v2)] → W p l e ({ frames := 1, cells := 0, slots := 0, locals := 40 } : Room) s m args below meth c s.heap [] 0 0 (MQ below (QRi s.heap r0) args s 0 0 NoA) (F0 m 4 ls []) := by
    intro  n
    induction n with
    | zero => intro v1 v2 hf; exact iter_zero hf
    | succ n ih1 =>
      intro v1 v2 hf ls hl
      obtain ⟨q1, hf, hk1⟩ := iter_succ hf
      have hf : Fo_m_deepest_s4 x v1 v2 = some q1 := hf
      unfold Fo_m_deepest_s4 at hf
      refine lv_iload_n hx hb dX0_deepest_4 rfl (lv_at hl 2 rfl) ?_
      refine lv_aload_n hx hb dX0_deepest_5 rfl (lv_at hl 0 rfl) ?_
      refine va_get (D := (dC, dI)) (ci := 0) (v := .int (Fo_count x)) (C := RX0) (T := TX0) (N := 13) hx hb hts hiX0 hown hK hP 0 rfl rfl 11 (by decide) ww0 (fun _ h9 => h9) rfl dX0_deepest_6 ?_
      refine kg_icmp_ge (tgt := 34) hx hb hf dX0_deepest_9 (by decide) (fun hc hf => ?_) (fun hc hf => ?_)
      · obtain ⟨qq, hf, hqq⟩ := omap_some hf
        have hkq : qq = r0 := by rw [← hqq] at hk1; exact hk1
        rw [hkq] at hf
        clear hkq hqq
        refine lv_iload_n hx hb dX0_deepest_34 rfl (lv_at hl 1 rfl) ?_
        obtain rfl := Option.some.inj hf
        exact kg_iretR hx hb hr hlk rfl dX0_deepest_35
      · refine lv_iload_n hx hb dX0_deepest_12 rfl (lv_at hl 1 rfl) ?_
        refine lv_aload_n hx hb dX0_deepest_13 rfl (lv_at hl 0 rfl) ?_
        refine va_get (D := (dC, dI)) (ci := 0) (v := .ref (A 3)) (C := RX0) (T := TX0) (N := 13) hx hb hts hiX0 hown hK hP 0 rfl rfl 2 (by decide) ww1 (fun _ h9 => h9) rfl dX0_deepest_14 ?_
        refine lv_aload_n hx hb dX0_deepest_17 rfl (lv_at hl 0 rfl) ?_
        refine va_get (D := (dC, dI)) (ci := 0) (v := .ref (A 8)) (C := RX0) (T := TX0) (N := 13) hx hb hts hiX0 hown hK hP 0 rfl rfl 7 (by decide) ww2 (fun _ h9 => h9) rfl dX0_deepest_18 ?_
        refine lv_iload_n hx hb dX0_deepest_21 rfl (lv_at hl 2 rfl) ?_
        obtain ⟨g22, hv, hf⟩ := ob_bind hf
        refine kg_iald hx hb hK hP 8 0 rfl rfl hv dX0_deepest_22 ?_
        obtain ⟨g23, hv, hf⟩ := ob_bind hf
        refine kg_iald hx hb hK hP 3 0 rfl rfl hv dX0_deepest_23 ?_
        refine va_mmax hx hb (by rw [hml]; exact hl.1.symm) hown ww3 ww4 ww5 ww6 (Nat.le_of_ble_eq_true rfl) (Nat.le_of_ble_eq_true rfl) (Nat.zero_le _) (Nat.zero_le _) dX0_deepest_24 ?_
        refine lv_istore_n (lv' := [(1, .int (if v1 < g23 then g23 else v1)), (0, .ref (A 0)), (2, .int v2)]) hx hb dX0_deepest_27 rfl hl (by decide) rfl (fun ls hl => ?_)
        refine lv_iinc (v := (v2 + 1)) (lv' := [(2, .int (v2 + 1)), (1, .int (if v1 < g23 then g23 else v1)), (0, .ref (A 0))]) hx hb dX0_deepest_28 hl (k := 2) rfl rfl (by decide) rfl (fun ls hl => ?_)
        refine lv_goto (tgt := 4) hx hb dX0_deepest_31 (by decide) ?_
        obtain rfl := Option.some.inj hf
        exact ih1 (if v1 < g23 then g23 else v1) (v2 + 1) hk1 _ (lv_sub hl [2, 1, 0] rfl)
  exact hlp4  FU 0 0 hf _ (lv_sub hl [2, 1, 0] rfl)
