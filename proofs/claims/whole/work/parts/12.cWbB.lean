set_option maxHeartbeats 4000000 in
set_option maxRecDepth 100000 in
theorem c_X4_clear (l : Launch) (dC : Nat → ClassId) (dI : Nat → Nat → Nat) (cI cJ : ClassId) (A : Nat → Nat) (hq : Nat) (x : WbS) (v1 : Int32) (r0 : WbS) (hf : Wb_m_clear x v1 = some r0) : MWv l yX4_clear (wAll yX4_clear cX4_clear 3 none) ({ frames := 2, cells := 0, slots := 0, locals := 60 } : Room) [.ref (A 0), .int v1] hq (dC, dI) (vTy cI cJ) (wWb cI cJ A x) (wWb cI cJ A r0) := by
  refine kg_metW (Qc := fun Q => QWv (dC, dI) Q (wWb cI cJ A r0)) (cc := cX4_clear) (maxL := 3) (ret := none) (by decide) rfl (Nat.le_of_ble_eq_true rfl) ?_
  intro p e s m args below meth c Q hx hb hr hts hown hlk hml hP hK hN hD hA hS ls hl
  have hl : lv_has ls 3 [(0, .ref (A 0)), (1, .int v1)] := hl
  have ww0 := hts (.fieldLink RX4 48 "SafeBlocks$Web" "nodes" "I") (List.mem_cons_of_mem _ wd_3_0)
  have ww1 := hts (.fieldLink RX4 52 "SafeBlocks$Web" "links" "I") (List.mem_cons_of_mem _ wd_3_1)
  have ww2 := hts (.fieldLink RX4 38 "SafeBlocks$Web" "blocks" "LSafeBlocks$Names;") (List.mem_cons_of_mem _ wd_2_21)
  have ww3 := hts (.fieldLink RX4 42 "SafeBlocks$Web" "lands" "LSafeBlocks$Names;") (List.mem_cons_of_mem _ wd_2_22)
  have ww4 := hts (.fieldLink RX4 45 "SafeBlocks$Web" "parts" "LSafeBlocks$Names;") (List.mem_cons_of_mem _ wd_2_23)
  have ww5 := hts (.fieldLink RX4 21 "SafeBlocks$Web" "up" "[I") (List.mem_cons_of_mem _ wd_2_14)
  have ww6 := hts (.fieldLink RX4 24 "SafeBlocks$Web" "upLink" "[I") (List.mem_cons_of_mem _ wd_2_15)
  have hiX4 : ∀ w ∈ u_ws RX4 TX4 16, w ∈ wAll yX4_clear cX4_clear 3 none := fun w h => List.mem_cons_of_mem _ (inlX4 w h)
  suffices hgo : ∀ (H : Heap) (locs : List Loc), va_P (dC, dI) vwCl (wWb cI cJ A x) H → va_S Q s.heap H locs → W p l e ({ frames := 2, cells := 0, slots := 0, locals := 60 } : Room) s m args below meth c H locs 0 0 (MQ below (QWv (dC, dI) Q (wWb cI cJ A r0)) args s 0 0 Q) (F0 m 0 ls []) from hgo _ _ hP hS
  clear hP hS
  intro H locs hP hS
  unfold Wb_m_clear at hf
  have hj13 : ∀ (x : WbS) (w1 : Int32), Wb_m_clear_j13 x w1 = some r0 → ∀ (H : Heap) (locs : List Loc) (ls : Array Slot), va_P (dC, dI) vwCl (wWb cI cJ A x) H → va_D Q (wWb cI cJ A x) → va_S Q s.heap H locs → lv_has ls 3 [(0, .ref (A 0))] → W p l e ({ frames := 2, cells := 0, slots := 0, locals := 60 } : Room) s m args below meth c H locs 0 0 (MQ below (QWv (dC, dI) Q (wWb cI cJ A r0)) args s 0 0 Q) (F0 m 13 ls [.int w1, .ref (A 0)]) := by
    intro x w1 hf H locs ls hP hD hS hl
    unfold Wb_m_clear_j13 at hf
    refine kg_put (ci := 4) (v := .int w1) (ty := .int) (C := RX4) (T := TX4) (N := 16) (wz := (wWb cI cJ A (Wb_set_nodes x w1))) hx hb hts hiX4 tyX4 tyX4_ok nmX4 hown hK hP hD hS 0 rfl rfl 10 (by decide) ww0 (fun _ h9 => h9) rfl (tyX4_ok 10 (by decide)) rfl rfl (Nat.le_of_ble_eq_true rfl) dX4_clear_13 (sc_Wb_nodes _ _ _ _ _) (fun H locs hP hD hS => ?_)
    refine lv_aload_n hx hb dX4_clear_16 rfl (lv_at hl 0 rfl) ?_
    refine lv_iconst (v := 0) hx hb dX4_clear_17 (by decide) ?_
    refine kg_put (ci := 4) (v := .int 0) (ty := .int) (C := RX4) (T := TX4) (N := 16) (wz := (wWb cI cJ A (Wb_set_links (Wb_set_nodes x w1) 0))) hx hb hts hiX4 tyX4 tyX4_ok nmX4 hown hK hP hD hS 0 rfl rfl 11 (by decide) ww1 (fun _ h9 => h9) rfl (tyX4_ok 11 (by decide)) rfl rfl (Nat.le_of_ble_eq_true rfl) dX4_clear_18 (sc_Wb_links _ _ _ _ _) (fun H locs hP hD hS => ?_)
    refine lv_aload_n hx hb dX4_clear_21 rfl (lv_at hl 0 rfl) ?_
    refine va_get (D := (dC, dI)) (ci := 4) (v := .ref (A 8)) (C := RX4) (T := TX4) (N := 16) hx hb hts hiX4 hown hK hP 0 rfl rfl 7 (by decide) ww2 (fun _ h9 => h9) rfl dX4_clear_22 ?_
    obtain ⟨g25, hc, hf⟩ := ob_bind hf
    have hPx := kg_eqP (sp_Wb_blocks cI cJ A (Wb_set_links (Wb_set_nodes x w1) 0)) hP
    have hDx := kg_eqD (sp_Wb_blocks cI cJ A (Wb_set_links (Wb_set_nodes x w1) 0)) hD
    refine kg_retWv (pre := (oWb cI cJ A (Wb_set_links (Wb_set_nodes x w1) 0))) (wc := wNm cI cJ 32 (fun i => A (i + 8)) (Wb_blocks (Wb_set_links (Wb_set_nodes x w1) 0))) (post := (wNm cI cJ 32 (fun i => A (i + 13)) (Wb_lands (Wb_set_links (Wb_set_nodes x w1) 0))) ++ ((wNm cI cJ 64 (fun i => A (i + 18)) (Wb_parts (Wb_set_links (Wb_set_nodes x w1) 0))))) (w1 := wNm cI cJ 32 (fun i => A (i + 8)) g25) (wz := (wWb cI cJ A (Wb_set_blocks (Wb_set_links (Wb_set_nodes x w1) 0) g25))) (sj_Wb_blocks _ _ _ _ _) hPx hDx hS hA (va_runV (As := []) (rest := []) ⟨hx, hb, hml, hown, hts⟩ (c_X1_clear l dC dI cI cJ (fun i => A (i + 8)) H.size 32 (Wb_blocks (Wb_set_links (Wb_set_nodes x w1) 0)) _ hc) (cwV 0 hts (gw_V wd_5_5 wd_5_2 wd_5_3 wd_5_4 wd_2_20) rfl rfl rfl qX1_clear ⟨Nat.le_of_ble_eq_true rfl, Nat.le_of_ble_eq_true rfl⟩) (kg_preVW (ci := 1) (q := (RX1, TX1, 6)) (q0 := 0) (kg_cutP hPx) (kg_cutD hDx) hK hN rfl rfl) rfl rfl hl.1 rfl (lv_room (Nat.le_of_ble_eq_true rfl)) dX4_clear_25 ⟨Nat.zero_le _, Nat.zero_le _⟩) (fun H locs hP hD hS => ?_)
    refine lv_aload_n hx hb dX4_clear_28 rfl (lv_at hl 0 rfl) ?_
    refine va_get (D := (dC, dI)) (ci := 4) (v := .ref (A 13)) (C := RX4) (T := TX4) (N := 16) hx hb hts hiX4 hown hK hP 0 rfl rfl 8 (by decide) ww3 (fun _ h9 => h9) rfl dX4_clear_29 ?_
    obtain ⟨g32, hc, hf⟩ := ob_bind hf
    have hPx := kg_eqP (sp_Wb_lands cI cJ A (Wb_set_blocks (Wb_set_links (Wb_set_nodes x w1) 0) g25)) hP
    have hDx := kg_eqD (sp_Wb_lands cI cJ A (Wb_set_blocks (Wb_set_links (Wb_set_nodes x w1) 0) g25)) hD
    refine kg_retWv (pre := (oWb cI cJ A (Wb_set_blocks (Wb_set_links (Wb_set_nodes x w1) 0) g25)) ++ ((wNm cI cJ 32 (fun i => A (i + 8)) (Wb_blocks (Wb_set_blocks (Wb_set_links (Wb_set_nodes x w1) 0) g25))))) (wc := wNm cI cJ 32 (fun i => A (i + 13)) (Wb_lands (Wb_set_blocks (Wb_set_links (Wb_set_nodes x w1) 0) g25))) (post := (wNm cI cJ 64 (fun i => A (i + 18)) (Wb_parts (Wb_set_blocks (Wb_set_links (Wb_set_nodes x w1) 0) g25)))) (w1 := wNm cI cJ 32 (fun i => A (i + 13)) g32) (wz := (wWb cI cJ A (Wb_set_lands (Wb_set_blocks (Wb_set_links (Wb_set_nodes x w1) 0) g25) g32))) (sj_Wb_lands _ _ _ _ _) hPx hDx hS hA (va_runV (As := []) (rest := []) ⟨hx, hb, hml, hown, hts⟩ (c_X1_clear l dC dI cI cJ (fun i => A (i + 13)) H.size 32 (Wb_lands (Wb_set_blocks (Wb_set_links (Wb_set_nodes x w1) 0) g25)) _ hc) (cwV 0 hts (gw_V wd_5_5 wd_5_2 wd_5_3 wd_5_4 wd_2_20) rfl rfl rfl qX1_clear ⟨Nat.le_of_ble_eq_true rfl, Nat.le_of_ble_eq_true rfl⟩) (kg_preVW (ci := 1) (q := (RX1, TX1, 6)) (q0 := 0) (kg_cutP hPx) (kg_cutD hDx) hK hN rfl rfl) rfl rfl hl.1 rfl (lv_room (Nat.le_of_ble_eq_true rfl)) dX4_clear_32 ⟨Nat.zero_le _, Nat.zero_le _⟩) (fun H locs hP hD hS => ?_)
    refine lv_aload_n hx hb dX4_clear_35 rfl (lv_at hl 0 rfl) ?_
    refine va_get (D := (dC, dI)) (ci := 4) (v := .ref (A 18)) (C := RX4) (T := TX4) (N := 16) hx hb hts hiX4 hown hK hP 0 rfl rfl 9 (by decide) ww4 (fun _ h9 => h9) rfl dX4_clear_36 ?_
    obtain ⟨g39, hc, hf⟩ := ob_bind hf
    have hPx := kg_eqP (sp_Wb_parts cI cJ A (Wb_set_lands (Wb_set_blocks (Wb_set_links (Wb_set_nodes x w1) 0) g25) g32)) hP
    have hDx := kg_eqD (sp_Wb_parts cI cJ A (Wb_set_lands (Wb_set_blocks (Wb_set_links (Wb_set_nodes x w1) 0) g25) g32)) hD
    refine kg_retWv (pre := (oWb cI cJ A (Wb_set_lands (Wb_set_blocks (Wb_set_links (Wb_set_nodes x w1) 0) g25) g32)) ++ ((wNm cI cJ 32 (fun i => A (i + 8)) (Wb_blocks (Wb_set_lands (Wb_set_blocks (Wb_set_links (Wb_set_nodes x w1) 0) g25) g32))) ++ ((wNm cI cJ 32 (fun i => A (i + 13)) (Wb_lands (Wb_set_lands (Wb_set_blocks (Wb_set_links (Wb_set_nodes x w1) 0) g25) g32)))))) (wc := wNm cI cJ 64 (fun i => A (i + 18)) (Wb_parts (Wb_set_lands (Wb_set_blocks (Wb_set_links (Wb_set_nodes x w1) 0) g25) g32))) (post := ([] : va_W)) (w1 := wNm cI cJ 64 (fun i => A (i + 18)) g39) (wz := (wWb cI cJ A (Wb_set_parts (Wb_set_lands (Wb_set_blocks (Wb_set_links (Wb_set_nodes x w1) 0) g25) g32) g39))) (sj_Wb_parts _ _ _ _ _) hPx hDx hS hA (va_runV (As := []) (rest := []) ⟨hx, hb, hml, hown, hts⟩ (c_X1_clear l dC dI cI cJ (fun i => A (i + 18)) H.size 64 (Wb_parts (Wb_set_lands (Wb_set_blocks (Wb_set_links (Wb_set_nodes x w1) 0) g25) g32)) _ hc) (cwV 0 hts (gw_V wd_5_5 wd_5_2 wd_5_3 wd_5_4 wd_2_20) rfl rfl rfl qX1_clear ⟨Nat.le_of_ble_eq_true rfl, Nat.le_of_ble_eq_true rfl⟩) (kg_preVW (ci := 1) (q := (RX1, TX1, 6)) (q0 := 0) (kg_cutP hPx) (kg_cutD hDx) hK hN rfl rfl) rfl rfl hl.1 rfl (lv_room (Nat.le_of_ble_eq_true rfl)) dX4_clear_39 ⟨Nat.zero_le _, Nat.zero_le _⟩) (fun H locs hP hD hS => ?_)
    refine lv_iconst (v := 0) hx hb dX4_clear_42 (by decide) ?_
    refine lv_istore_n (lv' := [(2, .int 0), (0, .ref (A 0))]) hx hb dX4_clear_43 rfl hl (by decide) rfl (fun ls hl => ?_)
    have hlp44 : ∀ (n : Nat) (x : WbS) (v2 : Int32), iter (fun p : WbS × Int32 => Wb_m_clear_s44 p.1 p.2) n (x, v2) = some r0 → ∀ (H : Heap) (locs : List Loc) (ls : Array Slot), va_P (dC, dI) vwCl (wWb cI cJ A x) H → va_D Q (wWb cI cJ A x) → va_S Q s.heap H locs → lv_has ls 3 [(0, .ref (A 0)), (2, .int v2)] → W p l e ({ frames := 2, cells := 0, slots := 0, locals := 60 } : Room) s m args below meth c H locs 0 0 (MQ below (QWv (dC, dI) Q (wWb cI cJ A r0)) args s 0 0 Q) (F0 m 44 ls []) := by
      intro  n
      induction n with
      | zero => intro x v2 hf; exact iter_zero hf
      | succ n ih1 =>
        intro x v2 hf H locs ls hP hD hS hl
        obtain ⟨q1, hf, hk1⟩ := iter_succ hf
        have hf : Wb_m_clear_s44 x v2 = some q1 := hf
        unfold Wb_m_clear_s44 at hf
        refine lv_iload_n hx hb dX4_clear_44 rfl (lv_at hl 1 rfl) ?_
        refine lv_aload_n hx hb dX4_clear_45 rfl (lv_at hl 0 rfl) ?_
        refine va_get (D := (dC, dI)) (ci := 4) (v := .int (Wb_nodes x)) (C := RX4) (T := TX4) (N := 16) hx hb hts hiX4 hown hK hP 0 rfl rfl 10 (by decide) ww0 (fun _ h9 => h9) rfl dX4_clear_46 ?_
        refine kg_icmp_ge (tgt := 86) hx hb hf dX4_clear_49 (by decide) (fun hc hf => ?_) (fun hc hf => ?_)
        · obtain ⟨qq, hf, hqq⟩ := omap_some hf
          have hkq : qq = r0 := by rw [← hqq] at hk1; exact hk1
          rw [hkq] at hf
          clear hkq hqq
          obtain rfl := Option.some.inj hf
          exact kg_vretW hx hb hr hlk hP hD hS dX4_clear_86
        · refine lv_aload_n hx hb dX4_clear_52 rfl (lv_at hl 0 rfl) ?_
          refine va_get (D := (dC, dI)) (ci := 4) (v := .ref (A 4)) (C := RX4) (T := TX4) (N := 16) hx hb hts hiX4 hown hK hP 0 rfl rfl 3 (by decide) ww5 (fun _ h9 => h9) rfl dX4_clear_53 ?_
          refine lv_iload_n hx hb dX4_clear_56 rfl (lv_at hl 1 rfl) ?_
          refine lv_iconst (v := (-1)) hx hb dX4_clear_57 (by decide) ?_
          obtain ⟨f58, hv, hf⟩ := ob_bind hf
          refine kg_iast (wz := (wWb cI cJ A (Wb_set_up x f58))) hx hb hK hP hD hS 4 0 rfl rfl hv dX4_clear_58 (sc_Wb_up _ _ _ _ _) (fun H locs hP hD hS => ?_)
          refine lv_aload_n hx hb dX4_clear_59 rfl (lv_at hl 0 rfl) ?_
          refine va_get (D := (dC, dI)) (ci := 4) (v := .ref (A 5)) (C := RX4) (T := TX4) (N := 16) hx hb hts hiX4 hown hK hP 0 rfl rfl 4 (by decide) ww6 (fun _ h9 => h9) rfl dX4_clear_60 ?_
          refine lv_iload_n hx hb dX4_clear_63 rfl (lv_at hl 1 rfl) ?_
          refine lv_iconst (v := (-1)) hx hb dX4_clear_64 (by decide) ?_
          obtain ⟨f65, hv, hf⟩ := ob_bind hf
          refine kg_iast (wz := (wWb cI cJ A (Wb_set_upLink (Wb_set_up x f58) f65))) hx hb hK hP hD hS 5 0 rfl rfl hv dX4_clear_65 (sc_Wb_upLink _ _ _ _ _) (fun H locs hP hD hS => ?_)
          refine lv_aload_n hx hb dX4_clear_66 rfl (lv_at hl 0 rfl) ?_
          refine va_get (D := (dC, dI)) (ci := 4) (v := .ref (A 8)) (C := RX4) (T := TX4) (N := 16) hx hb hts hiX4 hown hK hP 0 rfl rfl 7 (by decide) ww2 (fun _ h9 => h9) rfl dX4_clear_67 ?_
          obtain ⟨g70, hc, hf⟩ := ob_bind hf
          have hPx := kg_eqP (sp_Wb_blocks cI cJ A (Wb_set_upLink (Wb_set_up x f58) f65)) hP
          have hDx := kg_eqD (sp_Wb_blocks cI cJ A (Wb_set_upLink (Wb_set_up x f58) f65)) hD
          refine kg_retWv (pre := (oWb cI cJ A (Wb_set_upLink (Wb_set_up x f58) f65))) (wc := wNm cI cJ 32 (fun i => A (i + 8)) (Wb_blocks (Wb_set_upLink (Wb_set_up x f58) f65))) (post := (wNm cI cJ 32 (fun i => A (i + 13)) (Wb_lands (Wb_set_upLink (Wb_set_up x f58) f65))) ++ ((wNm cI cJ 64 (fun i => A (i + 18)) (Wb_parts (Wb_set_upLink (Wb_set_up x f58) f65))))) (w1 := wNm cI cJ 32 (fun i => A (i + 8)) g70) (wz := (wWb cI cJ A (Wb_set_blocks (Wb_set_upLink (Wb_set_up x f58) f65) g70))) (sj_Wb_blocks _ _ _ _ _) hPx hDx hS hA (va_runV (As := []) (rest := []) ⟨hx, hb, hml, hown, hts⟩ (c_X1_begin l dC dI cI cJ (fun i => A (i + 8)) H.size 32 (Wb_blocks (Wb_set_upLink (Wb_set_up x f58) f65)) _ hc) (cwV 0 hts (gw_V wd_5_9 wd_5_6 wd_5_7 wd_5_8 wd_2_20) rfl rfl rfl qX1_begin ⟨Nat.le_of_ble_eq_true rfl, Nat.le_of_ble_eq_true rfl⟩) (kg_preVW (ci := 1) (q := (RX1, TX1, 6)) (q0 := 0) (kg_cutP hPx) (kg_cutD hDx) hK hN rfl rfl) rfl rfl hl.1 rfl (lv_room (Nat.le_of_ble_eq_true rfl)) dX4_clear_70 ⟨Nat.zero_le _, Nat.zero_le _⟩) (fun H locs hP hD hS => ?_)
          refine lv_aload_n hx hb dX4_clear_73 rfl (lv_at hl 0 rfl) ?_
          refine va_get (D := (dC, dI)) (ci := 4) (v := .ref (A 13)) (C := RX4) (T := TX4) (N := 16) hx hb hts hiX4 hown hK hP 0 rfl rfl 8 (by decide) ww3 (fun _ h9 => h9) rfl dX4_clear_74 ?_
          obtain ⟨g77, hc, hf⟩ := ob_bind hf
          have hPx := kg_eqP (sp_Wb_lands cI cJ A (Wb_set_blocks (Wb_set_upLink (Wb_set_up x f58) f65) g70)) hP
          have hDx := kg_eqD (sp_Wb_lands cI cJ A (Wb_set_blocks (Wb_set_upLink (Wb_set_up x f58) f65) g70)) hD
          refine kg_retWv (pre := (oWb cI cJ A (Wb_set_blocks (Wb_set_upLink (Wb_set_up x f58) f65) g70)) ++ ((wNm cI cJ 32 (fun i => A (i + 8)) (Wb_blocks (Wb_set_blocks (Wb_set_upLink (Wb_set_up x f58) f65) g70))))) (wc := wNm cI cJ 32 (fun i => A (i + 13)) (Wb_lands (Wb_set_blocks (Wb_set_upLink (Wb_set_up x f58) f65) g70))) (post := (wNm cI cJ 64 (fun i => A (i + 18)) (Wb_parts (Wb_set_blocks (Wb_set_upLink (Wb_set_up x f58) f65) g70)))) (w1 := wNm cI cJ 32 (fun i => A (i + 13)) g77) (wz := (wWb cI cJ A (Wb_set_lands (Wb_set_blocks (Wb_set_upLink (Wb_set_up x f58) f65) g70) g77))) (sj_Wb_lands _ _ _ _ _) hPx hDx hS hA (va_runV (As := []) (rest := []) ⟨hx, hb, hml, hown, hts⟩ (c_X1_begin l dC dI cI cJ (fun i => A (i + 13)) H.size 32 (Wb_lands (Wb_set_blocks (Wb_set_upLink (Wb_set_up x f58) f65) g70)) _ hc) (cwV 0 hts (gw_V wd_5_9 wd_5_6 wd_5_7 wd_5_8 wd_2_20) rfl rfl rfl qX1_begin ⟨Nat.le_of_ble_eq_true rfl, Nat.le_of_ble_eq_true rfl⟩) (kg_preVW (ci := 1) (q := (RX1, TX1, 6)) (q0 := 0) (kg_cutP hPx) (kg_cutD hDx) hK hN rfl rfl) rfl rfl hl.1 rfl (lv_room (Nat.le_of_ble_eq_true rfl)) dX4_clear_77 ⟨Nat.zero_le _, Nat.zero_le _⟩) (fun H locs hP hD hS => ?_)
          refine lv_iinc (v := (v2 + 1)) (lv' := [(2, .int (v2 + 1)), (0, .ref (A 0))]) hx hb dX4_clear_80 hl (k := 1) rfl rfl (by decide) rfl (fun ls hl => ?_)
          refine lv_goto (tgt := 44) hx hb dX4_clear_83 (by decide) ?_
          obtain rfl := Option.some.inj hf
          exact ih1 (Wb_set_lands (Wb_set_blocks (Wb_set_upLink (Wb_set_up x f58) f65) g70) g77) (v2 + 1) hk1 _ _ _ hP hD hS (lv_sub hl [1, 0] rfl)
    exact hlp44  FU (Wb_set_parts (Wb_set_lands (Wb_set_blocks (Wb_set_links (Wb_set_nodes x w1) 0) g25) g32) g39) 0 hf _ _ _ hP hD hS (lv_sub hl [1, 0] rfl)
  refine lv_aload_n hx hb dX4_clear_0 rfl (lv_at hl 0 rfl) ?_
  refine lv_iload_n hx hb dX4_clear_1 rfl (lv_at hl 1 rfl) ?_
  refine lv_bipush (v := 32) hx hb dX4_clear_2 (by decide) ?_
  refine kg_icmp_ge (tgt := 11) hx hb hf dX4_clear_4 (by decide) (fun hc hf => ?_) (fun hc hf => ?_)
  · refine lv_bipush (v := 32) hx hb dX4_clear_11 (by decide) ?_
    exact hj13 x 32 hf _ _ _ hP hD hS (lv_sub hl [0] rfl)
  · refine lv_iload_n hx hb dX4_clear_7 rfl (lv_at hl 1 rfl) ?_
    refine lv_goto (tgt := 13) hx hb dX4_clear_8 (by decide) ?_
    exact hj13 x v1 hf _ _ _ hP hD hS (lv_sub hl [0] rfl)
set_option maxHeartbeats 4000000 in
set_option maxRecDepth 100000 in
theorem c_X4_trace (l : Launch) (dC : Nat → ClassId) (dI : Nat → Nat → Nat) (cI cJ : ClassId) (A : Nat → Nat) (hq : Nat) (x : WbS) (v1 : Int32) (v2 : Int32) (r0 : (Int32 × WbS)) (hf : Wb_m_trace x v1 v2 = some r0) : MWi l yX4_trace (wAll yX4_trace cX4_trace 10 (some .int)) ({ frames := 2, cells := 0, slots := 0, locals := 69 } : Room) [.ref (A 0), .int v1, .int v2] hq (dC, dI) (vTy cI cJ) (wWb cI cJ A x) (wWb cI cJ A r0.2) r0.1 := by
  refine kg_metW (Qc := fun Q => QWi (dC, dI) Q (wWb cI cJ A r0.2) r0.1) (cc := cX4_trace) (maxL := 10) (ret := (some .int)) (by decide) rfl (Nat.le_of_ble_eq_true rfl) ?_
  intro p e s m args below meth c Q hx hb hr hts hown hlk hml hP hK hN hD hA hS ls hl
  have hl : lv_has ls 10 [(0, .ref (A 0)), (1, .int v1), (2, .int v2)] := hl
  have ww0 := hts (.fieldLink RX4 42 "SafeBlocks$Web" "lands" "LSafeBlocks$Names;") (List.mem_cons_of_mem _ wd_2_22)
  have ww1 := hts (.fieldLink RX4 67 "SafeBlocks$Names" "of" "[I") (List.mem_cons_of_mem _ wd_10_5)
  have ww2 := hts (.fieldLink RX4 27 "SafeBlocks$Web" "wayNode" "[I") (List.mem_cons_of_mem _ wd_2_16)
  have ww3 := hts (.fieldLink RX4 30 "SafeBlocks$Web" "wayLink" "[I") (List.mem_cons_of_mem _ wd_2_17)
  have ww4 := hts (.fieldLink RX4 24 "SafeBlocks$Web" "upLink" "[I") (List.mem_cons_of_mem _ wd_2_15)
  have ww5 := hts (.fieldLink RX4 21 "SafeBlocks$Web" "up" "[I") (List.mem_cons_of_mem _ wd_2_14)
  have hiX4 : ∀ w ∈ u_ws RX4 TX4 16, w ∈ wAll yX4_trace cX4_trace 10 (some .int) := fun w h => List.mem_cons_of_mem _ (inlX4 w h)
  have hiX1 : ∀ w ∈ u_ws RX1 TX1 6, w ∈ wAll yX4_trace cX4_trace 10 (some .int) := fun w h => List.mem_cons_of_mem _ (inlX1 w h)
  suffices hgo : ∀ (H : Heap) (locs : List Loc), va_P (dC, dI) vwCl (wWb cI cJ A x) H → va_S Q s.heap H locs → W p l e ({ frames := 2, cells := 0, slots := 0, locals := 69 } : Room) s m args below meth c H locs 0 0 (MQ below (QWi (dC, dI) Q (wWb cI cJ A r0.2) r0.1) args s 0 0 Q) (F0 m 0 ls []) from hgo _ _ hP hS
  clear hP hS
  intro H locs hP hS
  unfold Wb_m_trace at hf
  refine lv_aload_n hx hb dX4_trace_0 rfl (lv_at hl 0 rfl) ?_
  refine va_get (D := (dC, dI)) (ci := 4) (v := .ref (A 13)) (C := RX4) (T := TX4) (N := 16) hx hb hts hiX4 hown hK hP 0 rfl rfl 8 (by decide) ww0 (fun _ h9 => h9) rfl dX4_trace_1 ?_
  refine va_get (D := (dC, dI)) (ci := 1) (v := .ref (A 14)) (C := RX1) (T := TX1) (N := 6) hx hb hts hiX1 hown hK hP 13 rfl rfl 0 (by decide) ww1 (fun _ h9 => h9) rfl dX4_trace_4 ?_
  refine lv_iload_n hx hb dX4_trace_7 rfl (lv_at hl 1 rfl) ?_
  obtain ⟨g8, hv, hf⟩ := ob_bind hf
  refine kg_iald hx hb hK hP 14 0 rfl rfl hv dX4_trace_8 ?_
  refine lv_aload_n hx hb dX4_trace_9 rfl (lv_at hl 0 rfl) ?_
  refine va_get (D := (dC, dI)) (ci := 4) (v := .ref (A 13)) (C := RX4) (T := TX4) (N := 16) hx hb hts hiX4 hown hK hP 0 rfl rfl 8 (by decide) ww0 (fun _ h9 => h9) rfl dX4_trace_10 ?_
  refine va_get (D := (dC, dI)) (ci := 1) (v := .ref (A 14)) (C := RX1) (T := TX1) (N := 6) hx hb hts hiX1 hown hK hP 13 rfl rfl 0 (by decide) ww1 (fun _ h9 => h9) rfl dX4_trace_13 ?_
  refine lv_iload_n hx hb dX4_trace_16 rfl (lv_at hl 2 rfl) ?_
  obtain ⟨g17, hv, hf⟩ := ob_bind hf
  refine kg_iald hx hb hK hP 14 0 rfl rfl hv dX4_trace_17 ?_
  refine kg_icmp_eq (tgt := 23) hx hb hf dX4_trace_18 (by decide) (fun hc hf => ?_) (fun hc hf => ?_)
  · refine lv_aload_n hx hb dX4_trace_23 rfl (lv_at hl 0 rfl) ?_
    refine lv_iload_n hx hb dX4_trace_24 rfl (lv_at hl 1 rfl) ?_
    obtain ⟨g25, hc, hf⟩ := ob_bind hf
    have hPc : va_P (dC, dI) vwCl (wWb cI cJ A x) H := hP
    refine kg_retRi (va_runV (As := [.int v1]) (rest := []) ⟨hx, hb, hml, hown, hts⟩ (c_X4_high l dC dI cI cJ A H x v1 _ hc) (cwV 1 hts (gw_V wd_10_17 wd_10_14 wd_10_15 wd_10_16 wd_1_14) rfl rfl rfl qX4_high ⟨Nat.le_of_ble_eq_true rfl, Nat.le_of_ble_eq_true rfl⟩) (kg_preVR (ci := 4) (q := (RX4, TX4, 16)) (q0 := 0) hPc hK hN rfl rfl) rfl rfl hl.1 rfl (lv_room (Nat.le_of_ble_eq_true rfl)) dX4_trace_25 ⟨Nat.zero_le _, Nat.zero_le _⟩) ?_
    refine lv_istore_n (lv' := [(3, .int g25), (0, .ref (A 0)), (1, .int v1), (2, .int v2)]) hx hb dX4_trace_28 rfl hl (by decide) rfl (fun ls hl => ?_)
    refine lv_aload_n hx hb dX4_trace_29 rfl (lv_at hl 1 rfl) ?_
    refine lv_iload_n hx hb dX4_trace_30 rfl (lv_at hl 3 rfl) ?_
    obtain ⟨g31, hc, hf⟩ := ob_bind hf
    have hPc : va_P (dC, dI) vwCl (wWb cI cJ A x) H := hP
    refine kg_retRi (va_runV (As := [.int v2]) (rest := []) ⟨hx, hb, hml, hown, hts⟩ (c_X4_high l dC dI cI cJ A H x v2 _ hc) (cwV 1 hts (gw_V wd_10_17 wd_10_14 wd_10_15 wd_10_16 wd_1_14) rfl rfl rfl qX4_high ⟨Nat.le_of_ble_eq_true rfl, Nat.le_of_ble_eq_true rfl⟩) (kg_preVR (ci := 4) (q := (RX4, TX4, 16)) (q0 := 0) hPc hK hN rfl rfl) rfl rfl hl.1 rfl (lv_room (Nat.le_of_ble_eq_true rfl)) dX4_trace_31 ⟨Nat.zero_le _, Nat.zero_le _⟩) ?_
    refine lv_istore (lv' := [(4, .int g31), (3, .int g25), (0, .ref (A 0)), (1, .int v1), (2, .int v2)]) hx hb dX4_trace_34 hl (by decide) rfl (fun ls hl => ?_)
    refine lv_aload_n hx hb dX4_trace_36 rfl (lv_at hl 2 rfl) ?_
    refine lv_iload_n hx hb dX4_trace_37 rfl (lv_at hl 3 rfl) ?_
    refine lv_iload_n hx hb dX4_trace_38 rfl (lv_at hl 4 rfl) ?_
    refine lv_iload_n hx hb dX4_trace_39 rfl (lv_at hl 1 rfl) ?_
    refine lv_iload hx hb dX4_trace_40 (lv_at hl 0 rfl) ?_
    obtain ⟨g42, hc, hf⟩ := ob_bind hf
    have hPc : va_P (dC, dI) vwCl (wWb cI cJ A x) H := hP
    refine kg_retRi (va_runV (As := [.int v1, .int v2, .int g25, .int g31]) (rest := []) ⟨hx, hb, hml, hown, hts⟩ (c_X4_apart l dC dI cI cJ A H x v1 v2 g25 g31 _ hc) (cwV 4 hts (gw_V wd_10_21 wd_10_18 wd_10_19 wd_10_20 wd_1_14) rfl rfl rfl qX4_apart ⟨Nat.le_of_ble_eq_true rfl, Nat.le_of_ble_eq_true rfl⟩) (kg_preVR (ci := 4) (q := (RX4, TX4, 16)) (q0 := 0) hPc hK hN rfl rfl) rfl rfl hl.1 rfl (lv_room (Nat.le_of_ble_eq_true rfl)) dX4_trace_42 ⟨Nat.zero_le _, Nat.zero_le _⟩) ?_
    refine lv_istore (lv' := [(5, .int g42), (4, .int g31), (3, .int g25), (0, .ref (A 0)), (1, .int v1), (2, .int v2)]) hx hb dX4_trace_45 hl (by decide) rfl (fun ls hl => ?_)
    refine lv_iload_n hx hb dX4_trace_47 rfl (lv_at hl 4 rfl) ?_
    refine lv_istore (lv' := [(6, .int v1), (5, .int g42), (4, .int g31), (3, .int g25), (0, .ref (A 0)), (1, .int v1), (2, .int v2)]) hx hb dX4_trace_48 hl (by decide) rfl (fun ls hl => ?_)
    refine lv_iload_n hx hb dX4_trace_50 rfl (lv_at hl 6 rfl) ?_
    refine lv_istore (lv' := [(7, .int v2), (6, .int v1), (5, .int g42), (4, .int g31), (3, .int g25), (0, .ref (A 0)), (1, .int v1), (2, .int v2)]) hx hb dX4_trace_51 hl (by decide) rfl (fun ls hl => ?_)
    refine lv_iconst (v := 0) hx hb dX4_trace_53 (by decide) ?_
    refine lv_istore (lv' := [(8, .int 0), (7, .int v2), (6, .int v1), (5, .int g42), (4, .int g31), (3, .int g25), (0, .ref (A 0)), (1, .int v1), (2, .int v2)]) hx hb dX4_trace_54 hl (by decide) rfl (fun ls hl => ?_)
    refine lv_iload hx hb dX4_trace_56 (lv_at hl 3 rfl) ?_
    refine lv_istore (lv' := [(9, .int g42), (8, .int 0), (7, .int v2), (6, .int v1), (5, .int g42), (4, .int g31), (3, .int g25), (0, .ref (A 0)), (1, .int v1), (2, .int v2)]) hx hb dX4_trace_58 hl (by decide) rfl (fun ls hl => ?_)
    refine lv_aload_n hx hb dX4_trace_60 rfl (lv_at hl 7 rfl) ?_
    refine va_get (D := (dC, dI)) (ci := 4) (v := .ref (A 6)) (C := RX4) (T := TX4) (N := 16) hx hb hts hiX4 hown hK hP 0 rfl rfl 5 (by decide) ww2 (fun _ h9 => h9) rfl dX4_trace_61 ?_
    refine lv_iload hx hb dX4_trace_64 (lv_at hl 1 rfl) ?_
    refine lv_iload hx hb dX4_trace_66 (lv_at hl 3 rfl) ?_
    obtain ⟨f68, hv, hf⟩ := ob_bind hf
    refine kg_iast (wz := (wWb cI cJ A (Wb_set_wayNode x f68))) hx hb hK hP hD hS 6 0 rfl rfl hv dX4_trace_68 (sc_Wb_wayNode _ _ _ _ _) (fun H locs hP hD hS => ?_)
    refine lv_aload_n hx hb dX4_trace_69 rfl (lv_at hl 7 rfl) ?_
    refine va_get (D := (dC, dI)) (ci := 4) (v := .ref (A 6)) (C := RX4) (T := TX4) (N := 16) hx hb hts hiX4 hown hK hP 0 rfl rfl 5 (by decide) ww2 (fun _ h9 => h9) rfl dX4_trace_70 ?_
    refine lv_iload hx hb dX4_trace_73 (lv_at hl 0 rfl) ?_
    refine lv_iload hx hb dX4_trace_75 (lv_at hl 2 rfl) ?_
    obtain ⟨f77, hv, hf⟩ := ob_bind hf
    refine kg_iast (wz := (wWb cI cJ A (Wb_set_wayNode (Wb_set_wayNode x f68) f77))) hx hb hK hP hD hS 6 0 rfl rfl hv dX4_trace_77 (sc_Wb_wayNode _ _ _ _ _) (fun H locs hP hD hS => ?_)
    have hlp78 : ∀ (v5 : Int32), ∀ (n : Nat) (x : WbS) (v3 : Int32) (v4 : Int32) (v6 : Int32) (v7 : Int32) (v8 : Int32) (v9 : Int32), iter (fun p : WbS × Int32 × Int32 × Int32 × Int32 × Int32 × Int32 => Wb_m_trace_s78 v5 p.1 p.2.1 p.2.2.1 p.2.2.2.1 p.2.2.2.2.1 p.2.2.2.2.2.1 p.2.2.2.2.2.2) n (x, v3, v4, v6, v7, v8, v9) = some r0 → ∀ (H : Heap) (locs : List Loc) (ls : Array Slot), va_P (dC, dI) vwCl (wWb cI cJ A x) H → va_D Q (wWb cI cJ A x) → va_S Q s.heap H locs → lv_has ls 10 [(0, .ref (A 0)), (3, .int v3), (4, .int v4), (5, .int v5), (6, .int v6), (7, .int v7), (8, .int v8), (9, .int v9)] → W p l e ({ frames := 2, cells := 0, slots := 0, locals := 69 } : Room) s m args below meth c H locs 0 0 (MQ below (QWi (dC, dI) Q (wWb cI cJ A r0.2) r0.1) args s 0 0 Q) (F0 m 78 ls []) := by
      intro v5 n
      induction n with
      | zero => intro x v3 v4 v6 v7 v8 v9 hf; exact iter_zero hf
      | succ n ih1 =>
        intro x v3 v4 v6 v7 v8 v9 hf H locs ls hP hD hS hl
        obtain ⟨q1, hf, hk1⟩ := iter_succ hf
        have hf : Wb_m_trace_s78 v5 x v3 v4 v6 v7 v8 v9 = some q1 := hf
        unfold Wb_m_trace_s78 at hf
        refine lv_iload hx hb dX4_trace_78 (lv_at hl 6 rfl) ?_
        refine lv_iload hx hb dX4_trace_80 (lv_at hl 7 rfl) ?_
        refine kg_icmp_ge (tgt := 185) hx hb hf dX4_trace_82 (by decide) (fun hc hf => ?_) (fun hc hf => ?_)
        · obtain ⟨qq, hf, hqq⟩ := omap_some hf
          have hkq : qq = r0 := by rw [← hqq] at hk1; exact hk1
          rw [hkq] at hf
          clear hkq hqq
          refine lv_iload hx hb dX4_trace_185 (lv_at hl 3 rfl) ?_
          obtain rfl := Option.some.inj hf
          exact kg_iretW hx hb hr hlk rfl hP hD hS dX4_trace_187
        · refine lv_iload hx hb dX4_trace_85 (lv_at hl 4 rfl) ?_
          refine lv_iconst (v := (-1)) hx hb dX4_trace_87 (by decide) ?_
          refine kg_icmp_eq (tgt := 185) hx hb hf dX4_trace_88 (by decide) (fun hc hf => ?_) (fun hc hf => ?_)
          · obtain ⟨qq, hf, hqq⟩ := omap_some hf
            have hkq : qq = r0 := by rw [← hqq] at hk1; exact hk1
            rw [hkq] at hf
            clear hkq hqq
            refine lv_iload hx hb dX4_trace_185 (lv_at hl 3 rfl) ?_
            obtain rfl := Option.some.inj hf
            exact kg_iretW hx hb hr hlk rfl hP hD hS dX4_trace_187
          · refine lv_iload hx hb dX4_trace_91 (lv_at hl 5 rfl) ?_
            refine lv_iconst (v := (-1)) hx hb dX4_trace_93 (by decide) ?_
            refine kg_icmp_eq (tgt := 185) hx hb hf dX4_trace_94 (by decide) (fun hc hf => ?_) (fun hc hf => ?_)
            · obtain ⟨qq, hf, hqq⟩ := omap_some hf
              have hkq : qq = r0 := by rw [← hqq] at hk1; exact hk1
              rw [hkq] at hf
              clear hkq hqq
              refine lv_iload hx hb dX4_trace_185 (lv_at hl 3 rfl) ?_
              obtain rfl := Option.some.inj hf
              exact kg_iretW hx hb hr hlk rfl hP hD hS dX4_trace_187
            · refine lv_iload_n hx hb dX4_trace_97 rfl (lv_at hl 1 rfl) ?_
              refine lv_iload hx hb dX4_trace_98 (lv_at hl 2 rfl) ?_
              refine kg_icmp_lt (tgt := 144) hx hb hf dX4_trace_100 (by decide) (fun hc hf => ?_) (fun hc hf => ?_)
              · refine lv_iinc (v := (v9 + (-1))) (lv' := [(9, .int (v9 + (-1))), (0, .ref (A 0)), (3, .int v3), (4, .int v4), (5, .int v5), (6, .int v6), (7, .int v7), (8, .int v8)]) hx hb dX4_trace_144 hl (k := 7) rfl rfl (by decide) rfl (fun ls hl => ?_)
                refine lv_aload_n hx hb dX4_trace_147 rfl (lv_at hl 1 rfl) ?_
                refine va_get (D := (dC, dI)) (ci := 4) (v := .ref (A 7)) (C := RX4) (T := TX4) (N := 16) hx hb hts hiX4 hown hK hP 0 rfl rfl 6 (by decide) ww3 (fun _ h9 => h9) rfl dX4_trace_148 ?_
                refine lv_iload hx hb dX4_trace_151 (lv_at hl 0 rfl) ?_
                refine lv_aload_n hx hb dX4_trace_153 rfl (lv_at hl 1 rfl) ?_
                refine va_get (D := (dC, dI)) (ci := 4) (v := .ref (A 5)) (C := RX4) (T := TX4) (N := 16) hx hb hts hiX4 hown hK hP 0 rfl rfl 4 (by decide) ww4 (fun _ h9 => h9) rfl dX4_trace_154 ?_
                refine lv_iload hx hb dX4_trace_157 (lv_at hl 6 rfl) ?_
                obtain ⟨g159, hv, hf⟩ := ob_bind hf
                refine kg_iald hx hb hK hP 5 0 rfl rfl hv dX4_trace_159 ?_
                obtain ⟨f160, hv, hf⟩ := ob_bind hf
                refine kg_iast (wz := (wWb cI cJ A (Wb_set_wayLink x f160))) hx hb hK hP hD hS 7 0 rfl rfl hv dX4_trace_160 (sc_Wb_wayLink _ _ _ _ _) (fun H locs hP hD hS => ?_)
                refine lv_aload_n hx hb dX4_trace_161 rfl (lv_at hl 1 rfl) ?_
                refine va_get (D := (dC, dI)) (ci := 4) (v := .ref (A 4)) (C := RX4) (T := TX4) (N := 16) hx hb hts hiX4 hown hK hP 0 rfl rfl 3 (by decide) ww5 (fun _ h9 => h9) rfl dX4_trace_162 ?_
                refine lv_iload hx hb dX4_trace_165 (lv_at hl 6 rfl) ?_
                obtain ⟨g167, hv, hf⟩ := ob_bind hf
                refine kg_iald hx hb hK hP 4 0 rfl rfl hv dX4_trace_167 ?_
                refine lv_istore (lv' := [(7, .int g167), (9, .int (v9 + (-1))), (0, .ref (A 0)), (3, .int v3), (4, .int v4), (5, .int v5), (6, .int v6), (8, .int v8)]) hx hb dX4_trace_168 hl (by decide) rfl (fun ls hl => ?_)
                refine lv_iinc (v := (v4 + (-1))) (lv' := [(4, .int (v4 + (-1))), (7, .int g167), (9, .int (v9 + (-1))), (0, .ref (A 0)), (3, .int v3), (5, .int v5), (6, .int v6), (8, .int v8)]) hx hb dX4_trace_170 hl (k := 4) rfl rfl (by decide) rfl (fun ls hl => ?_)
                refine lv_aload_n hx hb dX4_trace_173 rfl (lv_at hl 3 rfl) ?_
                refine va_get (D := (dC, dI)) (ci := 4) (v := .ref (A 6)) (C := RX4) (T := TX4) (N := 16) hx hb hts hiX4 hown hK hP 0 rfl rfl 5 (by decide) ww2 (fun _ h9 => h9) rfl dX4_trace_174 ?_
                refine lv_iload hx hb dX4_trace_177 (lv_at hl 2 rfl) ?_
                refine lv_iload hx hb dX4_trace_179 (lv_at hl 1 rfl) ?_
                obtain ⟨f181, hv, hf⟩ := ob_bind hf
                refine kg_iast (wz := (wWb cI cJ A (Wb_set_wayNode (Wb_set_wayLink x f160) f181))) hx hb hK hP hD hS 6 0 rfl rfl hv dX4_trace_181 (sc_Wb_wayNode _ _ _ _ _) (fun H locs hP hD hS => ?_)
                refine lv_goto (tgt := 78) hx hb dX4_trace_182 (by decide) ?_
                obtain rfl := Option.some.inj hf
                exact ih1 (Wb_set_wayNode (Wb_set_wayLink x f160) f181) v3 (v4 + (-1)) v6 g167 v8 (v9 + (-1)) hk1 _ _ _ hP hD hS (lv_sub hl [3, 4, 0, 5, 6, 1, 7, 2] rfl)
              · refine lv_aload_n hx hb dX4_trace_103 rfl (lv_at hl 0 rfl) ?_
                refine va_get (D := (dC, dI)) (ci := 4) (v := .ref (A 7)) (C := RX4) (T := TX4) (N := 16) hx hb hts hiX4 hown hK hP 0 rfl rfl 6 (by decide) ww3 (fun _ h9 => h9) rfl dX4_trace_104 ?_
                refine lv_iload hx hb dX4_trace_107 (lv_at hl 6 rfl) ?_
                refine lv_aload_n hx hb dX4_trace_109 rfl (lv_at hl 0 rfl) ?_
                refine va_get (D := (dC, dI)) (ci := 4) (v := .ref (A 5)) (C := RX4) (T := TX4) (N := 16) hx hb hts hiX4 hown hK hP 0 rfl rfl 4 (by decide) ww4 (fun _ h9 => h9) rfl dX4_trace_110 ?_
                refine lv_iload hx hb dX4_trace_113 (lv_at hl 4 rfl) ?_
                obtain ⟨g115, hv, hf⟩ := ob_bind hf
                refine kg_iald hx hb hK hP 5 0 rfl rfl hv dX4_trace_115 ?_
                obtain ⟨f116, hv, hf⟩ := ob_bind hf
                refine kg_iast (wz := (wWb cI cJ A (Wb_set_wayLink x f116))) hx hb hK hP hD hS 7 0 rfl rfl hv dX4_trace_116 (sc_Wb_wayLink _ _ _ _ _) (fun H locs hP hD hS => ?_)
                refine lv_aload_n hx hb dX4_trace_117 rfl (lv_at hl 0 rfl) ?_
                refine va_get (D := (dC, dI)) (ci := 4) (v := .ref (A 4)) (C := RX4) (T := TX4) (N := 16) hx hb hts hiX4 hown hK hP 0 rfl rfl 3 (by decide) ww5 (fun _ h9 => h9) rfl dX4_trace_118 ?_
                refine lv_iload hx hb dX4_trace_121 (lv_at hl 4 rfl) ?_
                obtain ⟨g123, hv, hf⟩ := ob_bind hf
                refine kg_iald hx hb hK hP 4 0 rfl rfl hv dX4_trace_123 ?_
                refine lv_istore (lv' := [(6, .int g123), (0, .ref (A 0)), (3, .int v3), (4, .int v4), (5, .int v5), (7, .int v7), (8, .int v8), (9, .int v9)]) hx hb dX4_trace_124 hl (by decide) rfl (fun ls hl => ?_)
                refine lv_iinc (v := (v3 + (-1))) (lv' := [(3, .int (v3 + (-1))), (6, .int g123), (0, .ref (A 0)), (4, .int v4), (5, .int v5), (7, .int v7), (8, .int v8), (9, .int v9)]) hx hb dX4_trace_126 hl (k := 2) rfl rfl (by decide) rfl (fun ls hl => ?_)
                refine lv_iinc (v := (v8 + 1)) (lv' := [(8, .int (v8 + 1)), (3, .int (v3 + (-1))), (6, .int g123), (0, .ref (A 0)), (4, .int v4), (5, .int v5), (7, .int v7), (9, .int v9)]) hx hb dX4_trace_129 hl (k := 6) rfl rfl (by decide) rfl (fun ls hl => ?_)
                refine lv_aload_n hx hb dX4_trace_132 rfl (lv_at hl 3 rfl) ?_
                refine va_get (D := (dC, dI)) (ci := 4) (v := .ref (A 6)) (C := RX4) (T := TX4) (N := 16) hx hb hts hiX4 hown hK hP 0 rfl rfl 5 (by decide) ww2 (fun _ h9 => h9) rfl dX4_trace_133 ?_
                refine lv_iload hx hb dX4_trace_136 (lv_at hl 0 rfl) ?_
                refine lv_iload hx hb dX4_trace_138 (lv_at hl 2 rfl) ?_
                obtain ⟨f140, hv, hf⟩ := ob_bind hf
                refine kg_iast (wz := (wWb cI cJ A (Wb_set_wayNode (Wb_set_wayLink x f116) f140))) hx hb hK hP hD hS 6 0 rfl rfl hv dX4_trace_140 (sc_Wb_wayNode _ _ _ _ _) (fun H locs hP hD hS => ?_)
                refine lv_goto (tgt := 78) hx hb dX4_trace_141 (by decide) ?_
                obtain rfl := Option.some.inj hf
                exact ih1 (Wb_set_wayNode (Wb_set_wayLink x f116) f140) (v3 + (-1)) v4 g123 v7 (v8 + 1) v9 hk1 _ _ _ hP hD hS (lv_sub hl [3, 1, 4, 5, 2, 6, 0, 7] rfl)
    exact hlp78 g42 FU (Wb_set_wayNode (Wb_set_wayNode x f68) f77) g25 g31 v1 v2 0 g42 hf _ _ _ hP hD hS (lv_sub hl [7, 6, 5, 4, 3, 2, 1, 0] rfl)
  · refine lv_iconst (v := (-1)) hx hb dX4_trace_21 (by decide) ?_
    obtain rfl := Option.some.inj hf
    exact kg_iretW hx hb hr hlk rfl hP hD hS dX4_trace_22
set_option maxHeartbeats 4000000 in
set_option maxRecDepth 100000 in
theorem c_X4_turn (l : Launch) (dC : Nat → ClassId) (dI : Nat → Nat → Nat) (cI cJ : ClassId) (A : Nat → Nat) (hq : Nat) (x : WbS) (v1 : Int32) (v2 : Int32) (v3 : Int32) (r0 : WbS) (hf : Wb_m_turn x v1 v2 v3 = some r0) : MWv l yX4_turn (wAll yX4_turn cX4_turn 10 none) ({ frames := 2, cells := 0, slots := 0, locals := 61 } : Room) [.ref (A 0), .int v1, .int v2, .int v3] hq (dC, dI) (vTy cI cJ) (wWb cI cJ A x) (wWb cI cJ A r0) := by
  refine kg_metW (Qc := fun Q => QWv (dC, dI) Q (wWb cI cJ A r0)) (cc := cX4_turn) (maxL := 10) (ret := none) (by decide) rfl (Nat.le_of_ble_eq_true rfl) ?_
  intro p e s m args below meth c Q hx hb hr hts hown hlk hml hP hK hN hD hA hS ls hl
  have hl : lv_has ls 10 [(0, .ref (A 0)), (1, .int v1), (2, .int v2), (3, .int v3)] := hl
  have ww0 := hts (.fieldLink RX4 76 "SafeBlocks$Web" "turned" "I") (List.mem_cons_of_mem _ wd_10_8)
  have ww1 := hts (.fieldLink RX4 48 "SafeBlocks$Web" "nodes" "I") (List.mem_cons_of_mem _ wd_3_0)
  have ww2 := hts (.fieldLink RX4 21 "SafeBlocks$Web" "up" "[I") (List.mem_cons_of_mem _ wd_2_14)
  have ww3 := hts (.fieldLink RX4 24 "SafeBlocks$Web" "upLink" "[I") (List.mem_cons_of_mem _ wd_2_15)
  have hiX4 : ∀ w ∈ u_ws RX4 TX4 16, w ∈ wAll yX4_turn cX4_turn 10 none := fun w h => List.mem_cons_of_mem _ (inlX4 w h)
  suffices hgo : ∀ (H : Heap) (locs : List Loc), va_P (dC, dI) vwCl (wWb cI cJ A x) H → va_S Q s.heap H locs → W p l e ({ frames := 2, cells := 0, slots := 0, locals := 61 } : Room) s m args below meth c H locs 0 0 (MQ below (QWv (dC, dI) Q (wWb cI cJ A r0)) args s 0 0 Q) (F0 m 0 ls []) from hgo _ _ hP hS
  clear hP hS
  intro H locs hP hS
  unfold Wb_m_turn at hf
  refine lv_iload_n hx hb dX4_turn_0 rfl (lv_at hl 1 rfl) ?_
  refine lv_istore (lv' := [(4, .int v1), (0, .ref (A 0)), (1, .int v1), (2, .int v2), (3, .int v3)]) hx hb dX4_turn_1 hl (by decide) rfl (fun ls hl => ?_)
  refine lv_iload_n hx hb dX4_turn_3 rfl (lv_at hl 3 rfl) ?_
  refine lv_istore (lv' := [(5, .int v2), (4, .int v1), (0, .ref (A 0)), (1, .int v1), (2, .int v2), (3, .int v3)]) hx hb dX4_turn_4 hl (by decide) rfl (fun ls hl => ?_)
  refine lv_iload_n hx hb dX4_turn_6 rfl (lv_at hl 5 rfl) ?_
  refine lv_istore (lv' := [(6, .int v3), (5, .int v2), (4, .int v1), (0, .ref (A 0)), (1, .int v1), (2, .int v2), (3, .int v3)]) hx hb dX4_turn_7 hl (by decide) rfl (fun ls hl => ?_)
  refine lv_aload_n hx hb dX4_turn_9 rfl (lv_at hl 3 rfl) ?_
  refine lv_iconst (v := 1) hx hb dX4_turn_10 (by decide) ?_
  refine kg_put (ci := 4) (v := .int 1) (ty := .int) (C := RX4) (T := TX4) (N := 16) (wz := (wWb cI cJ A (Wb_set_turned x 1))) hx hb hts hiX4 tyX4 tyX4_ok nmX4 hown hK hP hD hS 0 rfl rfl 12 (by decide) ww0 (fun _ h9 => h9) rfl (tyX4_ok 12 (by decide)) rfl rfl (Nat.le_of_ble_eq_true rfl) dX4_turn_11 (sc_Wb_turned _ _ _ _ _) (fun H locs hP hD hS => ?_)
  refine lv_iconst (v := 0) hx hb dX4_turn_14 (by decide) ?_
  refine lv_istore (lv' := [(7, .int 0), (6, .int v3), (5, .int v2), (4, .int v1), (0, .ref (A 0)), (1, .int v1), (2, .int v2), (3, .int v3)]) hx hb dX4_turn_15 hl (by decide) rfl (fun ls hl => ?_)
  have hlp17 : ∀ (n : Nat) (x : WbS) (v4 : Int32) (v5 : Int32) (v6 : Int32) (v7 : Int32), iter (fun p : WbS × Int32 × Int32 × Int32 × Int32 => Wb_m_turn_s17 p.1 p.2.1 p.2.2.1 p.2.2.2.1 p.2.2.2.2) n (x, v4, v5, v6, v7) = some r0 → ∀ (H : Heap) (locs : List Loc) (ls : Array Slot), va_P (dC, dI) vwCl (wWb cI cJ A x) H → va_D Q (wWb cI cJ A x) → va_S Q s.heap H locs → lv_has ls 10 [(0, .ref (A 0)), (4, .int v4), (5, .int v5), (6, .int v6), (7, .int v7)] → W p l e ({ frames := 2, cells := 0, slots := 0, locals := 61 } : Room) s m args below meth c H locs 0 0 (MQ below (QWv (dC, dI) Q (wWb cI cJ A r0)) args s 0 0 Q) (F0 m 17 ls []) := by
    intro  n
    induction n with
    | zero => intro x v4 v5 v6 v7 hf; exact iter_zero hf
    | succ n ih1 =>
      intro x v4 v5 v6 v7 hf H locs ls hP hD hS hl
      obtain ⟨q1, hf, hk1⟩ := iter_succ hf
      have hf : Wb_m_turn_s17 x v4 v5 v6 v7 = some q1 := hf
      unfold Wb_m_turn_s17 at hf
      have hj93 : ∀ (x : WbS) (v4 : Int32) (v7 : Int32) (v8 : Int32) (v9 : Int32), Wb_m_turn_j93 x v4 v7 v8 v9 = some q1 → ∀ (H : Heap) (locs : List Loc) (ls : Array Slot), va_P (dC, dI) vwCl (wWb cI cJ A x) H → va_D Q (wWb cI cJ A x) → va_S Q s.heap H locs → lv_has ls 10 [(0, .ref (A 0)), (4, .int v4), (7, .int v7), (8, .int v8), (9, .int v9)] → W p l e ({ frames := 2, cells := 0, slots := 0, locals := 61 } : Room) s m args below meth c H locs 0 0 (MQ below (QWv (dC, dI) Q (wWb cI cJ A r0)) args s 0 0 Q) (F0 m 93 ls []) := by
        intro x v4 v7 v8 v9 hf H locs ls hP hD hS hl
        unfold Wb_m_turn_j93 at hf
        refine lv_iload hx hb dX4_turn_93 (lv_at hl 1 rfl) ?_
        refine lv_istore (lv' := [(5, .int v4), (0, .ref (A 0)), (4, .int v4), (7, .int v7), (8, .int v8), (9, .int v9)]) hx hb dX4_turn_95 hl (by decide) rfl (fun ls hl => ?_)
        refine lv_iload hx hb dX4_turn_97 (lv_at hl 5 rfl) ?_
        refine lv_istore (lv' := [(6, .int v9), (5, .int v4), (0, .ref (A 0)), (4, .int v4), (7, .int v7), (8, .int v8), (9, .int v9)]) hx hb dX4_turn_99 hl (by decide) rfl (fun ls hl => ?_)
        refine lv_iload hx hb dX4_turn_101 (lv_at hl 5 rfl) ?_
        refine lv_istore (lv' := [(4, .int v8), (6, .int v9), (5, .int v4), (0, .ref (A 0)), (7, .int v7), (8, .int v8), (9, .int v9)]) hx hb dX4_turn_103 hl (by decide) rfl (fun ls hl => ?_)
        refine lv_iinc (v := (v7 + 1)) (lv' := [(7, .int (v7 + 1)), (4, .int v8), (6, .int v9), (5, .int v4), (0, .ref (A 0)), (8, .int v8), (9, .int v9)]) hx hb dX4_turn_105 hl (k := 4) rfl rfl (by decide) rfl (fun ls hl => ?_)
        refine lv_goto (tgt := 17) hx hb dX4_turn_108 (by decide) ?_
        obtain rfl := Option.some.inj hf
        exact ih1 x v8 v4 v9 (v7 + 1) hk1 _ _ _ hP hD hS (lv_sub hl [4, 1, 3, 2, 0] rfl)
      refine lv_iload hx hb dX4_turn_17 (lv_at hl 4 rfl) ?_
      refine lv_aload_n hx hb dX4_turn_19 rfl (lv_at hl 0 rfl) ?_
      refine va_get (D := (dC, dI)) (ci := 4) (v := .int (Wb_nodes x)) (C := RX4) (T := TX4) (N := 16) hx hb hts hiX4 hown hK hP 0 rfl rfl 10 (by decide) ww1 (fun _ h9 => h9) rfl dX4_turn_20 ?_
      refine kg_icmp_ge (tgt := 111) hx hb hf dX4_turn_23 (by decide) (fun hc hf => ?_) (fun hc hf => ?_)
      · obtain ⟨qq, hf, hqq⟩ := omap_some hf
        have hkq : qq = r0 := by rw [← hqq] at hk1; exact hk1
        rw [hkq] at hf
        clear hkq hqq
        obtain rfl := Option.some.inj hf
        exact kg_vretW hx hb hr hlk hP hD hS dX4_turn_111
      · refine lv_iload hx hb dX4_turn_26 (lv_at hl 1 rfl) ?_
        refine lv_iconst (v := (-1)) hx hb dX4_turn_28 (by decide) ?_
        refine kg_icmp_eq (tgt := 111) hx hb hf dX4_turn_29 (by decide) (fun hc hf => ?_) (fun hc hf => ?_)
        · obtain ⟨qq, hf, hqq⟩ := omap_some hf
          have hkq : qq = r0 := by rw [← hqq] at hk1; exact hk1
          rw [hkq] at hf
          clear hkq hqq
          obtain rfl := Option.some.inj hf
          exact kg_vretW hx hb hr hlk hP hD hS dX4_turn_111
        · refine lv_aload_n hx hb dX4_turn_32 rfl (lv_at hl 0 rfl) ?_
          refine va_get (D := (dC, dI)) (ci := 4) (v := .ref (A 4)) (C := RX4) (T := TX4) (N := 16) hx hb hts hiX4 hown hK hP 0 rfl rfl 3 (by decide) ww2 (fun _ h9 => h9) rfl dX4_turn_33 ?_
          refine lv_iload hx hb dX4_turn_36 (lv_at hl 1 rfl) ?_
          obtain ⟨g38, hv, hf⟩ := ob_bind hf
          refine kg_iald hx hb hK hP 4 0 rfl rfl hv dX4_turn_38 ?_
          refine lv_istore (lv' := [(8, .int g38), (0, .ref (A 0)), (4, .int v4), (5, .int v5), (6, .int v6), (7, .int v7)]) hx hb dX4_turn_39 hl (by decide) rfl (fun ls hl => ?_)
          refine lv_aload_n hx hb dX4_turn_41 rfl (lv_at hl 1 rfl) ?_
          refine va_get (D := (dC, dI)) (ci := 4) (v := .ref (A 5)) (C := RX4) (T := TX4) (N := 16) hx hb hts hiX4 hown hK hP 0 rfl rfl 4 (by decide) ww3 (fun _ h9 => h9) rfl dX4_turn_42 ?_
          refine lv_iload hx hb dX4_turn_45 (lv_at hl 2 rfl) ?_
          obtain ⟨g47, hv, hf⟩ := ob_bind hf
          refine kg_iald hx hb hK hP 5 0 rfl rfl hv dX4_turn_47 ?_
          refine lv_istore (lv' := [(9, .int g47), (8, .int g38), (0, .ref (A 0)), (4, .int v4), (5, .int v5), (6, .int v6), (7, .int v7)]) hx hb dX4_turn_48 hl (by decide) rfl (fun ls hl => ?_)
          refine lv_aload_n hx hb dX4_turn_50 rfl (lv_at hl 2 rfl) ?_
          refine va_get (D := (dC, dI)) (ci := 4) (v := .ref (A 4)) (C := RX4) (T := TX4) (N := 16) hx hb hts hiX4 hown hK hP 0 rfl rfl 3 (by decide) ww2 (fun _ h9 => h9) rfl dX4_turn_51 ?_
          refine lv_iload hx hb dX4_turn_54 (lv_at hl 3 rfl) ?_
          refine lv_iload hx hb dX4_turn_56 (lv_at hl 4 rfl) ?_
          obtain ⟨f58, hv, hf⟩ := ob_bind hf
          refine kg_iast (wz := (wWb cI cJ A (Wb_set_up x f58))) hx hb hK hP hD hS 4 0 rfl rfl hv dX4_turn_58 (sc_Wb_up _ _ _ _ _) (fun H locs hP hD hS => ?_)
          refine lv_aload_n hx hb dX4_turn_59 rfl (lv_at hl 2 rfl) ?_
          refine va_get (D := (dC, dI)) (ci := 4) (v := .ref (A 5)) (C := RX4) (T := TX4) (N := 16) hx hb hts hiX4 hown hK hP 0 rfl rfl 4 (by decide) ww3 (fun _ h9 => h9) rfl dX4_turn_60 ?_
          refine lv_iload hx hb dX4_turn_63 (lv_at hl 3 rfl) ?_
          refine lv_iload hx hb dX4_turn_65 (lv_at hl 5 rfl) ?_
          obtain ⟨f67, hv, hf⟩ := ob_bind hf
          refine kg_iast (wz := (wWb cI cJ A (Wb_set_upLink (Wb_set_up x f58) f67))) hx hb hK hP hD hS 5 0 rfl rfl hv dX4_turn_67 (sc_Wb_upLink _ _ _ _ _) (fun H locs hP hD hS => ?_)
          refine lv_iload hx hb dX4_turn_68 (lv_at hl 0 rfl) ?_
          refine lv_iconst (v := (-1)) hx hb dX4_turn_70 (by decide) ?_
          refine kg_icmp_eq (tgt := 93) hx hb hf dX4_turn_71 (by decide) (fun hc hf => ?_) (fun hc hf => ?_)
          · exact hj93 (Wb_set_upLink (Wb_set_up x f58) f67) v4 v7 g38 g47 hf _ _ _ hP hD hS (lv_sub hl [2, 3, 6, 1, 0] rfl)
          · refine lv_aload_n hx hb dX4_turn_74 rfl (lv_at hl 2 rfl) ?_
            refine lv_iload hx hb dX4_turn_75 (lv_at hl 0 rfl) ?_
            obtain ⟨g77, hc, hf⟩ := ob_bind hf
            have hPc : va_P (dC, dI) vwCl (wWb cI cJ A (Wb_set_upLink (Wb_set_up x f58) f67)) H := hP
            refine kg_retRi (va_runV (As := [.int g47]) (rest := []) ⟨hx, hb, hml, hown, hts⟩ (c_X4_isBridge l dC dI cI cJ A H (Wb_set_upLink (Wb_set_up x f58) f67) g47 _ hc) (cwV 1 hts (gw_V wd_6_6 wd_11_12 wd_6_4 wd_6_5 wd_1_14) rfl rfl rfl qX4_isBridge ⟨Nat.le_of_ble_eq_true rfl, Nat.le_of_ble_eq_true rfl⟩) (kg_preVR (ci := 4) (q := (RX4, TX4, 16)) (q0 := 0) hPc hK hN rfl rfl) rfl rfl hl.1 rfl (lv_room (Nat.le_of_ble_eq_true rfl)) dX4_turn_77 ⟨Nat.zero_le _, Nat.zero_le _⟩) ?_
            refine kg_b_eq (tgt := 93) hx hb hf dX4_turn_80 (by decide) (fun hc hf => ?_) (fun hc hf => ?_)
            · exact hj93 (Wb_set_upLink (Wb_set_up x f58) f67) v4 v7 g38 g47 hf _ _ _ hP hD hS (lv_sub hl [2, 3, 6, 1, 0] rfl)
            · refine lv_aload_n hx hb dX4_turn_83 rfl (lv_at hl 2 rfl) ?_
              refine lv_dup hx hb dX4_turn_84 rfl ?_
              refine va_get (D := (dC, dI)) (ci := 4) (v := .int (Wb_turned (Wb_set_upLink (Wb_set_up x f58) f67))) (C := RX4) (T := TX4) (N := 16) hx hb hts hiX4 hown hK hP 0 rfl rfl 12 (by decide) ww0 (fun _ h9 => h9) rfl dX4_turn_85 ?_
              refine lv_iconst (v := 1) hx hb dX4_turn_88 (by decide) ?_
              refine lv_iadd hx hb dX4_turn_89 ?_
              refine kg_put (ci := 4) (v := .int ((Wb_turned (Wb_set_upLink (Wb_set_up x f58) f67)) + 1)) (ty := .int) (C := RX4) (T := TX4) (N := 16) (wz := (wWb cI cJ A (Wb_set_turned (Wb_set_upLink (Wb_set_up x f58) f67) ((Wb_turned (Wb_set_upLink (Wb_set_up x f58) f67)) + 1)))) hx hb hts hiX4 tyX4 tyX4_ok nmX4 hown hK hP hD hS 0 rfl rfl 12 (by decide) ww0 (fun _ h9 => h9) rfl (tyX4_ok 12 (by decide)) rfl rfl (Nat.le_of_ble_eq_true rfl) dX4_turn_90 (sc_Wb_turned _ _ _ _ _) (fun H locs hP hD hS => ?_)
              exact hj93 (Wb_set_turned (Wb_set_upLink (Wb_set_up x f58) f67) ((Wb_turned (Wb_set_upLink (Wb_set_up x f58) f67)) + 1)) v4 v7 g38 g47 hf _ _ _ hP hD hS (lv_sub hl [2, 3, 6, 1, 0] rfl)
  exact hlp17  FU (Wb_set_turned x 1) v1 v2 v3 0 hf _ _ _ hP hD hS (lv_sub hl [4, 3, 2, 1, 0] rfl)
set_option maxHeartbeats 4000000 in
set_option maxRecDepth 100000 in
theorem c_X4_joinLands (l : Launch) (dC : Nat → ClassId) (dI : Nat → Nat → Nat) (cI cJ : ClassId) (A : Nat → Nat) (hq : Nat) (x : WbS) (v1 : Int32) (v2 : Int32) (v3 : Int32) (r0 : WbS) (hf : Wb_m_joinLands x v1 v2 v3 = some r0) : MWv l yX4_joinLands (wAll yX4_joinLands cX4_joinLands 8 none) ({ frames := 4, cells := 0, slots := 0, locals := 111 } : Room) [.ref (A 0), .int v1, .int v2, .int v3] hq (dC, dI) (vTy cI cJ) (wWb cI cJ A x) (wWb cI cJ A r0) := by
  refine kg_metW (Qc := fun Q => QWv (dC, dI) Q (wWb cI cJ A r0)) (cc := cX4_joinLands) (maxL := 8) (ret := none) (by decide) rfl (Nat.le_of_ble_eq_true rfl) ?_
  intro p e s m args below meth c Q hx hb hr hts hown hlk hml hP hK hN hD hA hS ls hl
  have hl : lv_has ls 8 [(0, .ref (A 0)), (1, .int v1), (2, .int v2), (3, .int v3)] := hl
  have ww0 := hts (.fieldLink RX4 42 "SafeBlocks$Web" "lands" "LSafeBlocks$Names;") (List.mem_cons_of_mem _ wd_2_22)
  have ww1 := hts (.fieldLink RX4 67 "SafeBlocks$Names" "of" "[I") (List.mem_cons_of_mem _ wd_10_5)
  have ww2 := hts (.initialized RX5) (List.mem_cons_of_mem _ wd_1_2)
  have ww3 := hts (.static yX5_bit) (List.mem_cons_of_mem _ wd_7_16)
  have hiX4 : ∀ w ∈ u_ws RX4 TX4 16, w ∈ wAll yX4_joinLands cX4_joinLands 8 none := fun w h => List.mem_cons_of_mem _ (inlX4 w h)
  have hiX1 : ∀ w ∈ u_ws RX1 TX1 6, w ∈ wAll yX4_joinLands cX4_joinLands 8 none := fun w h => List.mem_cons_of_mem _ (inlX1 w h)
  suffices hgo : ∀ (H : Heap) (locs : List Loc), va_P (dC, dI) vwCl (wWb cI cJ A x) H → va_S Q s.heap H locs → W p l e ({ frames := 4, cells := 0, slots := 0, locals := 111 } : Room) s m args below meth c H locs 0 0 (MQ below (QWv (dC, dI) Q (wWb cI cJ A r0)) args s 0 0 Q) (F0 m 0 ls []) from hgo _ _ hP hS
  clear hP hS
  intro H locs hP hS
  unfold Wb_m_joinLands at hf
  have hj66 : ∀ (x : WbS) (v6 : Int64), Wb_m_joinLands_j66 x v3 v6 = some r0 → ∀ (H : Heap) (locs : List Loc) (ls : Array Slot), va_P (dC, dI) vwCl (wWb cI cJ A x) H → va_D Q (wWb cI cJ A x) → va_S Q s.heap H locs → lv_has ls 8 [(0, .ref (A 0)), (3, .int v3), (6, .long v6)] → W p l e ({ frames := 4, cells := 0, slots := 0, locals := 111 } : Room) s m args below meth c H locs 0 0 (MQ below (QWv (dC, dI) Q (wWb cI cJ A r0)) args s 0 0 Q) (F0 m 66 ls []) := by
    intro x v6 hf H locs ls hP hD hS hl
    unfold Wb_m_joinLands_j66 at hf
    refine lv_aload_n hx hb dX4_joinLands_66 rfl (lv_at hl 0 rfl) ?_
    refine va_get (D := (dC, dI)) (ci := 4) (v := .ref (A 13)) (C := RX4) (T := TX4) (N := 16) hx hb hts hiX4 hown hK hP 0 rfl rfl 8 (by decide) ww0 (fun _ h9 => h9) rfl dX4_joinLands_67 ?_
    refine lv_lload hx hb dX4_joinLands_70 (lv_at hl 2 rfl) ?_
    refine lv_iload_n hx hb dX4_joinLands_72 rfl (lv_at hl 1 rfl) ?_
    obtain ⟨g73, hc, hf⟩ := ob_bind hf
    have hPx := kg_eqP (sp_Wb_lands cI cJ A x) hP
    have hDx := kg_eqD (sp_Wb_lands cI cJ A x) hD
    refine kg_retWv (pre := (oWb cI cJ A x) ++ ((wNm cI cJ 32 (fun i => A (i + 8)) (Wb_blocks x)))) (wc := wNm cI cJ 32 (fun i => A (i + 13)) (Wb_lands x)) (post := (wNm cI cJ 64 (fun i => A (i + 18)) (Wb_parts x))) (w1 := wNm cI cJ 32 (fun i => A (i + 13)) g73) (wz := (wWb cI cJ A (Wb_set_lands x g73))) (sj_Wb_lands _ _ _ _ _) hPx hDx hS hA (va_runV (As := [.long v6, .int v3]) (rest := []) ⟨hx, hb, hml, hown, hts⟩ (c_X1_join l dC dI cI cJ (fun i => A (i + 13)) H.size 32 (Wb_lands x) v6 v3 _ hc) (cwV 2 hts (gw_V wd_11_16 wd_11_13 wd_11_14 wd_11_15 wd_2_20) rfl rfl rfl qX1_join ⟨Nat.le_of_ble_eq_true rfl, Nat.le_of_ble_eq_true rfl⟩) (kg_preVW (ci := 1) (q := (RX1, TX1, 6)) (q0 := 0) (kg_cutP hPx) (kg_cutD hDx) hK hN rfl rfl) rfl rfl hl.1 rfl (lv_room (Nat.le_of_ble_eq_true rfl)) dX4_joinLands_73 ⟨Nat.zero_le _, Nat.zero_le _⟩) (fun H locs hP hD hS => ?_)
    obtain rfl := Option.some.inj hf
    exact kg_vretW hx hb hr hlk hP hD hS dX4_joinLands_76
  refine lv_aload_n hx hb dX4_joinLands_0 rfl (lv_at hl 0 rfl) ?_
  refine va_get (D := (dC, dI)) (ci := 4) (v := .ref (A 13)) (C := RX4) (T := TX4) (N := 16) hx hb hts hiX4 hown hK hP 0 rfl rfl 8 (by decide) ww0 (fun _ h9 => h9) rfl dX4_joinLands_1 ?_
  refine va_get (D := (dC, dI)) (ci := 1) (v := .ref (A 14)) (C := RX1) (T := TX1) (N := 6) hx hb hts hiX1 hown hK hP 13 rfl rfl 0 (by decide) ww1 (fun _ h9 => h9) rfl dX4_joinLands_4 ?_
  refine lv_iload_n hx hb dX4_joinLands_7 rfl (lv_at hl 1 rfl) ?_
  obtain ⟨g8, hv, hf⟩ := ob_bind hf
  refine kg_iald hx hb hK hP 14 0 rfl rfl hv dX4_joinLands_8 ?_
  refine lv_istore (lv' := [(4, .int g8), (0, .ref (A 0)), (1, .int v1), (2, .int v2), (3, .int v3)]) hx hb dX4_joinLands_9 hl (by decide) rfl (fun ls hl => ?_)
  refine lv_aload_n hx hb dX4_joinLands_11 rfl (lv_at hl 1 rfl) ?_
  refine va_get (D := (dC, dI)) (ci := 4) (v := .ref (A 13)) (C := RX4) (T := TX4) (N := 16) hx hb hts hiX4 hown hK hP 0 rfl rfl 8 (by decide) ww0 (fun _ h9 => h9) rfl dX4_joinLands_12 ?_
  refine va_get (D := (dC, dI)) (ci := 1) (v := .ref (A 14)) (C := RX1) (T := TX1) (N := 6) hx hb hts hiX1 hown hK hP 13 rfl rfl 0 (by decide) ww1 (fun _ h9 => h9) rfl dX4_joinLands_15 ?_
  refine lv_iload_n hx hb dX4_joinLands_18 rfl (lv_at hl 3 rfl) ?_
  obtain ⟨g19, hv, hf⟩ := ob_bind hf
  refine kg_iald hx hb hK hP 14 0 rfl rfl hv dX4_joinLands_19 ?_
  refine lv_istore (lv' := [(5, .int g19), (4, .int g8), (0, .ref (A 0)), (1, .int v1), (2, .int v2), (3, .int v3)]) hx hb dX4_joinLands_20 hl (by decide) rfl (fun ls hl => ?_)
  refine lv_iload hx hb dX4_joinLands_22 (lv_at hl 1 rfl) ?_
  obtain ⟨g24, hc, hf⟩ := ob_bind hf
  have hPc : va_P (dC, dI) vwCl ([] : va_W) H := fun k q h => by cases h
  refine kg_retRj (va_runSN (As := [.int g8]) (rest := []) ⟨hx, hb, hml, hown, hts⟩ (c_X5_bit l dC dI cI cJ  H g8 _ hc) (⟨va_cnB 1 hts (gw_A wd_7_17) rfl rfl rfl hN.2.2.2 ww2 qX5_bit_n ⟨Nat.le_of_ble_eq_true rfl, Nat.le_of_ble_eq_true rfl⟩, ww3, trivial⟩) (kg_preSR hPc hK hN) rfl rfl hl.1 rfl (lv_room (Nat.le_of_ble_eq_true rfl)) dX4_joinLands_24 ⟨Nat.zero_le _, Nat.zero_le _⟩) ?_
  refine lv_iload hx hb dX4_joinLands_27 (lv_at hl 0 rfl) ?_
  obtain ⟨g29, hc, hf⟩ := ob_bind hf
  have hPc : va_P (dC, dI) vwCl ([] : va_W) H := fun k q h => by cases h
  refine kg_retRj (va_runSN (As := [.int g19]) (rest := [.long g24]) ⟨hx, hb, hml, hown, hts⟩ (c_X5_bit l dC dI cI cJ  H g19 _ hc) (⟨va_cnB 1 hts (gw_A wd_7_17) rfl rfl rfl hN.2.2.2 ww2 qX5_bit_n ⟨Nat.le_of_ble_eq_true rfl, Nat.le_of_ble_eq_true rfl⟩, ww3, trivial⟩) (kg_preSR hPc hK hN) rfl rfl hl.1 rfl (lv_room (Nat.le_of_ble_eq_true rfl)) dX4_joinLands_29 ⟨Nat.zero_le _, Nat.zero_le _⟩) ?_
  refine lv_lor hx hb dX4_joinLands_32 ?_
  refine lv_lstore (lv' := [(6, .long (g24 ||| g29)), (5, .int g19), (4, .int g8), (0, .ref (A 0)), (1, .int v1), (2, .int v2), (3, .int v3)]) hx hb dX4_joinLands_33 hl (by decide) rfl (fun ls hl => ?_)
  refine lv_aload_n hx hb dX4_joinLands_35 rfl (lv_at hl 3 rfl) ?_
  refine va_get (D := (dC, dI)) (ci := 4) (v := .ref (A 13)) (C := RX4) (T := TX4) (N := 16) hx hb hts hiX4 hown hK hP 0 rfl rfl 8 (by decide) ww0 (fun _ h9 => h9) rfl dX4_joinLands_36 ?_
  refine lv_lload hx hb dX4_joinLands_39 (lv_at hl 0 rfl) ?_
  obtain ⟨g41, hc, hf⟩ := ob_bind hf
  have hPc : va_P (dC, dI) vwCl (wNm cI cJ 32 (fun i => A (i + 13)) (Wb_lands x)) H := hP.sub [13, 14, 15, 16, 17] rfl
  refine kg_retRi (va_runV (As := [.long (g24 ||| g29)]) (rest := []) ⟨hx, hb, hml, hown, hts⟩ (c_X1_keeper l dC dI cI cJ (fun i => A (i + 13)) H 32 (Wb_lands x) (g24 ||| g29) _ hc) (cwV 1 hts (gw_V wd_11_5 wd_11_2 wd_11_3 wd_11_4 wd_2_20) rfl rfl rfl qX1_keeper ⟨Nat.le_of_ble_eq_true rfl, Nat.le_of_ble_eq_true rfl⟩) (kg_preVR (ci := 1) (q := (RX1, TX1, 6)) (q0 := 0) hPc hK hN rfl rfl) rfl rfl hl.1 rfl (lv_room (Nat.le_of_ble_eq_true rfl)) dX4_joinLands_41 ⟨Nat.zero_le _, Nat.zero_le _⟩) ?_
  refine lv_iload hx hb dX4_joinLands_44 (lv_at hl 2 rfl) ?_
  refine kg_icmp_ne (tgt := 59) hx hb hf dX4_joinLands_46 (by decide) (fun hc hf => ?_) (fun hc hf => ?_)
  · refine lv_aload_n hx hb dX4_joinLands_59 rfl (lv_at hl 3 rfl) ?_
    refine lv_iload_n hx hb dX4_joinLands_60 rfl (lv_at hl 4 rfl) ?_
    refine lv_iload_n hx hb dX4_joinLands_61 rfl (lv_at hl 5 rfl) ?_
    refine lv_iload_n hx hb dX4_joinLands_62 rfl (lv_at hl 6 rfl) ?_
    obtain ⟨g63, hc, hf⟩ := ob_bind hf
    have hPx := kg_eqP (kg_slf _) hP
    have hDx := kg_eqD (kg_slf _) hD
    refine kg_retWv (pre := ([] : va_W)) (wc := wWb cI cJ A x) (post := ([] : va_W)) (w1 := wWb cI cJ A g63) (wz := (wWb cI cJ A g63)) (kg_slf _).symm hPx hDx hS hA (va_runV (As := [.int v1, .int v2, .int v3]) (rest := []) ⟨hx, hb, hml, hown, hts⟩ (c_X4_turn l dC dI cI cJ A H.size x v1 v2 v3 _ hc) (cwV 3 hts (gw_V wd_11_11 wd_11_8 wd_11_9 wd_11_10 wd_1_14) rfl rfl rfl qX4_turn ⟨Nat.le_of_ble_eq_true rfl, Nat.le_of_ble_eq_true rfl⟩) (kg_preVW (ci := 4) (q := (RX4, TX4, 16)) (q0 := 0) (kg_cutP hPx) (kg_cutD hDx) hK hN rfl rfl) rfl rfl hl.1 rfl (lv_room (Nat.le_of_ble_eq_true rfl)) dX4_joinLands_63 ⟨Nat.zero_le _, Nat.zero_le _⟩) (fun H locs hP hD hS => ?_)
    exact hj66 g63 (g24 ||| g29) hf _ _ _ hP hD hS (lv_sub hl [3, 6, 0] rfl)
  · refine lv_aload_n hx hb dX4_joinLands_49 rfl (lv_at hl 3 rfl) ?_
    refine lv_iload_n hx hb dX4_joinLands_50 rfl (lv_at hl 5 rfl) ?_
    refine lv_iload_n hx hb dX4_joinLands_51 rfl (lv_at hl 4 rfl) ?_
    refine lv_iload_n hx hb dX4_joinLands_52 rfl (lv_at hl 6 rfl) ?_
    obtain ⟨g53, hc, hf⟩ := ob_bind hf
    have hPx := kg_eqP (kg_slf _) hP
    have hDx := kg_eqD (kg_slf _) hD
    refine kg_retWv (pre := ([] : va_W)) (wc := wWb cI cJ A x) (post := ([] : va_W)) (w1 := wWb cI cJ A g53) (wz := (wWb cI cJ A g53)) (kg_slf _).symm hPx hDx hS hA (va_runV (As := [.int v2, .int v1, .int v3]) (rest := []) ⟨hx, hb, hml, hown, hts⟩ (c_X4_turn l dC dI cI cJ A H.size x v2 v1 v3 _ hc) (cwV 3 hts (gw_V wd_11_11 wd_11_8 wd_11_9 wd_11_10 wd_1_14) rfl rfl rfl qX4_turn ⟨Nat.le_of_ble_eq_true rfl, Nat.le_of_ble_eq_true rfl⟩) (kg_preVW (ci := 4) (q := (RX4, TX4, 16)) (q0 := 0) (kg_cutP hPx) (kg_cutD hDx) hK hN rfl rfl) rfl rfl hl.1 rfl (lv_room (Nat.le_of_ble_eq_true rfl)) dX4_joinLands_53 ⟨Nat.zero_le _, Nat.zero_le _⟩) (fun H locs hP hD hS => ?_)
    refine lv_goto (tgt := 66) hx hb dX4_joinLands_56 (by decide) ?_
    exact hj66 g53 (g24 ||| g29) hf _ _ _ hP hD hS (lv_sub hl [3, 6, 0] rfl)
set_option maxHeartbeats 4000000 in
set_option maxRecDepth 100000 in
theorem c_X4_closeRing (l : Launch) (dC : Nat → ClassId) (dI : Nat → Nat → Nat) (cI cJ : ClassId) (A : Nat → Nat) (hq : Nat) (x : WbS) (v1 : Int32) (v2 : Int32) (r0 : (Int32 × WbS)) (hf : Wb_m_closeRing x v1 v2 = some r0) : MWi l yX4_closeRing (wAll yX4_closeRing cX4_closeRing 10 (some .int)) ({ frames := 4, cells := 0, slots := 0, locals := 111 } : Room) [.ref (A 0), .int v1, .int v2] hq (dC, dI) (vTy cI cJ) (wWb cI cJ A x) (wWb cI cJ A r0.2) r0.1 := by
  refine kg_metW (Qc := fun Q => QWi (dC, dI) Q (wWb cI cJ A r0.2) r0.1) (cc := cX4_closeRing) (maxL := 10) (ret := (some .int)) (by decide) rfl (Nat.le_of_ble_eq_true rfl) ?_
  intro p e s m args below meth c Q hx hb hr hts hown hlk hml hP hK hN hD hA hS ls hl
  have hl : lv_has ls 10 [(0, .ref (A 0)), (1, .int v1), (2, .int v2)] := hl
  have ww0 := hts (.initialized RX5) (List.mem_cons_of_mem _ wd_1_2)
  have ww1 := hts (.static yX5_bit) (List.mem_cons_of_mem _ wd_7_16)
  have ww2 := hts (.fieldLink RX4 79 "SafeBlocks$Web" "joined" "I") (List.mem_cons_of_mem _ wd_10_9)
  have ww3 := hts (.fieldLink RX4 38 "SafeBlocks$Web" "blocks" "LSafeBlocks$Names;") (List.mem_cons_of_mem _ wd_2_21)
  have ww4 := hts (.fieldLink RX4 45 "SafeBlocks$Web" "parts" "LSafeBlocks$Names;") (List.mem_cons_of_mem _ wd_2_23)
  have ww5 := hts (.fieldLink RX4 30 "SafeBlocks$Web" "wayLink" "[I") (List.mem_cons_of_mem _ wd_2_17)
  have ww6 := hts (.fieldLink RX4 67 "SafeBlocks$Names" "of" "[I") (List.mem_cons_of_mem _ wd_10_5)
  have ww7 := hts (.fieldLink RX4 18 "SafeBlocks$Web" "endedBy" "[I") (List.mem_cons_of_mem _ wd_2_13)
  have hiX4 : ∀ w ∈ u_ws RX4 TX4 16, w ∈ wAll yX4_closeRing cX4_closeRing 10 (some .int) := fun w h => List.mem_cons_of_mem _ (inlX4 w h)
  have hiX1 : ∀ w ∈ u_ws RX1 TX1 6, w ∈ wAll yX4_closeRing cX4_closeRing 10 (some .int) := fun w h => List.mem_cons_of_mem _ (inlX1 w h)
  suffices hgo : ∀ (H : Heap) (locs : List Loc), va_P (dC, dI) vwCl (wWb cI cJ A x) H → va_S Q s.heap H locs → W p l e ({ frames := 4, cells := 0, slots := 0, locals := 111 } : Room) s m args below meth c H locs 0 0 (MQ below (QWi (dC, dI) Q (wWb cI cJ A r0.2) r0.1) args s 0 0 Q) (F0 m 0 ls []) from hgo _ _ hP hS
  clear hP hS
  intro H locs hP hS
  unfold Wb_m_closeRing at hf
  refine lv_aload_n hx hb dX4_closeRing_0 rfl (lv_at hl 0 rfl) ?_
  refine lv_iload_n hx hb dX4_closeRing_1 rfl (lv_at hl 1 rfl) ?_
  obtain ⟨g2, hc, hf⟩ := ob_bind hf
  have hPc : va_P (dC, dI) vwCl (wWb cI cJ A x) H := hP
  refine kg_retRj (va_runV (As := [.int v1]) (rest := []) ⟨hx, hb, hml, hown, hts⟩ (c_X4_blocksOnWay l dC dI cI cJ A H x v1 _ hc) (cwV 1 hts (gw_V wd_12_1 wd_11_22 wd_11_23 wd_12_0 wd_1_14) rfl rfl rfl qX4_blocksOnWay ⟨Nat.le_of_ble_eq_true rfl, Nat.le_of_ble_eq_true rfl⟩) (kg_preVR (ci := 4) (q := (RX4, TX4, 16)) (q0 := 0) hPc hK hN rfl rfl) rfl rfl hl.1 rfl (lv_room (Nat.le_of_ble_eq_true rfl)) dX4_closeRing_2 ⟨Nat.zero_le _, Nat.zero_le _⟩) ?_
  refine lv_lstore_n (lv' := [(3, .long g2), (0, .ref (A 0)), (1, .int v1), (2, .int v2)]) hx hb dX4_closeRing_5 rfl hl (by decide) rfl (fun ls hl => ?_)
  refine lv_iload_n hx hb dX4_closeRing_6 rfl (lv_at hl 3 rfl) ?_
  obtain ⟨g7, hc, hf⟩ := ob_bind hf
  have hPc : va_P (dC, dI) vwCl ([] : va_W) H := fun k q h => by cases h
  refine kg_retRj (va_runSN (As := [.int v2]) (rest := []) ⟨hx, hb, hml, hown, hts⟩ (c_X5_bit l dC dI cI cJ  H v2 _ hc) (⟨va_cnB 1 hts (gw_A wd_7_17) rfl rfl rfl hN.2.2.2 ww0 qX5_bit_n ⟨Nat.le_of_ble_eq_true rfl, Nat.le_of_ble_eq_true rfl⟩, ww1, trivial⟩) (kg_preSR hPc hK hN) rfl rfl hl.1 rfl (lv_room (Nat.le_of_ble_eq_true rfl)) dX4_closeRing_7 ⟨Nat.zero_le _, Nat.zero_le _⟩) ?_
  refine lv_lstore (lv' := [(5, .long g7), (3, .long g2), (0, .ref (A 0)), (1, .int v1), (2, .int v2)]) hx hb dX4_closeRing_10 hl (by decide) rfl (fun ls hl => ?_)
  refine lv_iconst (v := 0) hx hb dX4_closeRing_12 (by decide) ?_
  refine lv_istore (lv' := [(7, .int 0), (5, .long g7), (3, .long g2), (0, .ref (A 0)), (1, .int v1), (2, .int v2)]) hx hb dX4_closeRing_13 hl (by decide) rfl (fun ls hl => ?_)
  refine lv_iconst (v := 0) hx hb dX4_closeRing_15 (by decide) ?_
  refine lv_istore (lv' := [(8, .int 0), (7, .int 0), (5, .long g7), (3, .long g2), (0, .ref (A 0)), (1, .int v1), (2, .int v2)]) hx hb dX4_closeRing_16 hl (by decide) rfl (fun ls hl => ?_)
  have hlp18 : ∀ (v3 : Int64), ∀ (n : Nat) (x : WbS) (v5 : Int64) (v7 : Int32) (v8 : Int32), iter (fun p : WbS × Int64 × Int32 × Int32 => Wb_m_closeRing_s18 v1 v2 v3 p.1 p.2.1 p.2.2.1 p.2.2.2) n (x, v5, v7, v8) = some r0 → ∀ (H : Heap) (locs : List Loc) (ls : Array Slot), va_P (dC, dI) vwCl (wWb cI cJ A x) H → va_D Q (wWb cI cJ A x) → va_S Q s.heap H locs → lv_has ls 10 [(0, .ref (A 0)), (1, .int v1), (2, .int v2), (3, .long v3), (5, .long v5), (7, .int v7), (8, .int v8)] → W p l e ({ frames := 4, cells := 0, slots := 0, locals := 111 } : Room) s m args below meth c H locs 0 0 (MQ below (QWi (dC, dI) Q (wWb cI cJ A r0.2) r0.1) args s 0 0 Q) (F0 m 18 ls []) := by
    intro v3 n
    induction n with
    | zero => intro x v5 v7 v8 hf; exact iter_zero hf
    | succ n ih1 =>
      intro x v5 v7 v8 hf H locs ls hP hD hS hl
      obtain ⟨q1, hf, hk1⟩ := iter_succ hf
      have hf : Wb_m_closeRing_s18 v1 v2 v3 x v5 v7 v8 = some q1 := hf
      unfold Wb_m_closeRing_s18 at hf
      refine lv_iload hx hb dX4_closeRing_18 (lv_at hl 6 rfl) ?_
      refine lv_iload_n hx hb dX4_closeRing_20 rfl (lv_at hl 1 rfl) ?_
      refine kg_icmp_ge (tgt := 77) hx hb hf dX4_closeRing_21 (by decide) (fun hc hf => ?_) (fun hc hf => ?_)
      · obtain ⟨qq, hf, hqq⟩ := omap_some hf
        have hkq : qq = r0 := by rw [← hqq] at hk1; exact hk1
        rw [hkq] at hf
        clear hkq hqq
        refine lv_aload_n hx hb dX4_closeRing_77 rfl (lv_at hl 0 rfl) ?_
        refine lv_iload hx hb dX4_closeRing_78 (lv_at hl 5 rfl) ?_
        refine lv_iconst (v := 1) hx hb dX4_closeRing_80 (by decide) ?_
        refine lv_iadd hx hb dX4_closeRing_81 ?_
        refine kg_put (ci := 4) (v := .int (v7 + 1)) (ty := .int) (C := RX4) (T := TX4) (N := 16) (wz := (wWb cI cJ A (Wb_set_joined x (v7 + 1)))) hx hb hts hiX4 tyX4 tyX4_ok nmX4 hown hK hP hD hS 0 rfl rfl 13 (by decide) ww2 (fun _ h9 => h9) rfl (tyX4_ok 13 (by decide)) rfl rfl (Nat.le_of_ble_eq_true rfl) dX4_closeRing_82 (sc_Wb_joined _ _ _ _ _) (fun H locs hP hD hS => ?_)
        refine lv_aload_n hx hb dX4_closeRing_85 rfl (lv_at hl 0 rfl) ?_
        refine va_get (D := (dC, dI)) (ci := 4) (v := .ref (A 8)) (C := RX4) (T := TX4) (N := 16) hx hb hts hiX4 hown hK hP 0 rfl rfl 7 (by decide) ww3 (fun _ h9 => h9) rfl dX4_closeRing_86 ?_
        refine lv_lload_n hx hb dX4_closeRing_89 rfl (lv_at hl 3 rfl) ?_
        refine lv_iload_n hx hb dX4_closeRing_90 rfl (lv_at hl 2 rfl) ?_
        obtain ⟨g91, hc, hf⟩ := ob_bind hf
        have hPx := kg_eqP (sp_Wb_blocks cI cJ A (Wb_set_joined x (v7 + 1))) hP
        have hDx := kg_eqD (sp_Wb_blocks cI cJ A (Wb_set_joined x (v7 + 1))) hD
        refine kg_retWv (pre := (oWb cI cJ A (Wb_set_joined x (v7 + 1)))) (wc := wNm cI cJ 32 (fun i => A (i + 8)) (Wb_blocks (Wb_set_joined x (v7 + 1)))) (post := (wNm cI cJ 32 (fun i => A (i + 13)) (Wb_lands (Wb_set_joined x (v7 + 1)))) ++ ((wNm cI cJ 64 (fun i => A (i + 18)) (Wb_parts (Wb_set_joined x (v7 + 1)))))) (w1 := wNm cI cJ 32 (fun i => A (i + 8)) g91) (wz := (wWb cI cJ A (Wb_set_blocks (Wb_set_joined x (v7 + 1)) g91))) (sj_Wb_blocks _ _ _ _ _) hPx hDx hS hA (va_runV (As := [.long v3, .int v2]) (rest := []) ⟨hx, hb, hml, hown, hts⟩ (c_X1_join l dC dI cI cJ (fun i => A (i + 8)) H.size 32 (Wb_blocks (Wb_set_joined x (v7 + 1))) v3 v2 _ hc) (cwV 2 hts (gw_V wd_11_16 wd_11_13 wd_11_14 wd_11_15 wd_2_20) rfl rfl rfl qX1_join ⟨Nat.le_of_ble_eq_true rfl, Nat.le_of_ble_eq_true rfl⟩) (kg_preVW (ci := 1) (q := (RX1, TX1, 6)) (q0 := 0) (kg_cutP hPx) (kg_cutD hDx) hK hN rfl rfl) rfl rfl hl.1 rfl (lv_room (Nat.le_of_ble_eq_true rfl)) dX4_closeRing_91 ⟨Nat.zero_le _, Nat.zero_le _⟩) (fun H locs hP hD hS => ?_)
        refine lv_aload_n hx hb dX4_closeRing_94 rfl (lv_at hl 0 rfl) ?_
        refine va_get (D := (dC, dI)) (ci := 4) (v := .ref (A 18)) (C := RX4) (T := TX4) (N := 16) hx hb hts hiX4 hown hK hP 0 rfl rfl 9 (by decide) ww4 (fun _ h9 => h9) rfl dX4_closeRing_95 ?_
        refine lv_lload hx hb dX4_closeRing_98 (lv_at hl 4 rfl) ?_
        refine lv_iload_n hx hb dX4_closeRing_100 rfl (lv_at hl 2 rfl) ?_
        obtain ⟨g101, hc, hf⟩ := ob_bind hf
        have hPx := kg_eqP (sp_Wb_parts cI cJ A (Wb_set_blocks (Wb_set_joined x (v7 + 1)) g91)) hP
        have hDx := kg_eqD (sp_Wb_parts cI cJ A (Wb_set_blocks (Wb_set_joined x (v7 + 1)) g91)) hD
        refine kg_retWv (pre := (oWb cI cJ A (Wb_set_blocks (Wb_set_joined x (v7 + 1)) g91)) ++ ((wNm cI cJ 32 (fun i => A (i + 8)) (Wb_blocks (Wb_set_blocks (Wb_set_joined x (v7 + 1)) g91))) ++ ((wNm cI cJ 32 (fun i => A (i + 13)) (Wb_lands (Wb_set_blocks (Wb_set_joined x (v7 + 1)) g91)))))) (wc := wNm cI cJ 64 (fun i => A (i + 18)) (Wb_parts (Wb_set_blocks (Wb_set_joined x (v7 + 1)) g91))) (post := ([] : va_W)) (w1 := wNm cI cJ 64 (fun i => A (i + 18)) g101) (wz := (wWb cI cJ A (Wb_set_parts (Wb_set_blocks (Wb_set_joined x (v7 + 1)) g91) g101))) (sj_Wb_parts _ _ _ _ _) hPx hDx hS hA (va_runV (As := [.long v5, .int v2]) (rest := []) ⟨hx, hb, hml, hown, hts⟩ (c_X1_join l dC dI cI cJ (fun i => A (i + 18)) H.size 64 (Wb_parts (Wb_set_blocks (Wb_set_joined x (v7 + 1)) g91)) v5 v2 _ hc) (cwV 2 hts (gw_V wd_11_16 wd_11_13 wd_11_14 wd_11_15 wd_2_20) rfl rfl rfl qX1_join ⟨Nat.le_of_ble_eq_true rfl, Nat.le_of_ble_eq_true rfl⟩) (kg_preVW (ci := 1) (q := (RX1, TX1, 6)) (q0 := 0) (kg_cutP hPx) (kg_cutD hDx) hK hN rfl rfl) rfl rfl hl.1 rfl (lv_room (Nat.le_of_ble_eq_true rfl)) dX4_closeRing_101 ⟨Nat.zero_le _, Nat.zero_le _⟩) (fun H locs hP hD hS => ?_)
        refine lv_iload hx hb dX4_closeRing_104 (lv_at hl 5 rfl) ?_
        obtain rfl := Option.some.inj hf
        exact kg_iretW hx hb hr hlk rfl hP hD hS dX4_closeRing_106
      · refine lv_aload_n hx hb dX4_closeRing_24 rfl (lv_at hl 0 rfl) ?_
        refine va_get (D := (dC, dI)) (ci := 4) (v := .ref (A 7)) (C := RX4) (T := TX4) (N := 16) hx hb hts hiX4 hown hK hP 0 rfl rfl 6 (by decide) ww5 (fun _ h9 => h9) rfl dX4_closeRing_25 ?_
        refine lv_iload hx hb dX4_closeRing_28 (lv_at hl 6 rfl) ?_
        obtain ⟨g30, hv, hf⟩ := ob_bind hf
        refine kg_iald hx hb hK hP 7 0 rfl rfl hv dX4_closeRing_30 ?_
        refine lv_istore (lv' := [(9, .int g30), (0, .ref (A 0)), (1, .int v1), (2, .int v2), (3, .long v3), (5, .long v5), (7, .int v7), (8, .int v8)]) hx hb dX4_closeRing_31 hl (by decide) rfl (fun ls hl => ?_)
        refine lv_lload hx hb dX4_closeRing_33 (lv_at hl 5 rfl) ?_
        refine lv_aload_n hx hb dX4_closeRing_35 rfl (lv_at hl 1 rfl) ?_
        refine va_get (D := (dC, dI)) (ci := 4) (v := .ref (A 18)) (C := RX4) (T := TX4) (N := 16) hx hb hts hiX4 hown hK hP 0 rfl rfl 9 (by decide) ww4 (fun _ h9 => h9) rfl dX4_closeRing_36 ?_
        refine va_get (D := (dC, dI)) (ci := 1) (v := .ref (A 19)) (C := RX1) (T := TX1) (N := 6) hx hb hts hiX1 hown hK hP 18 rfl rfl 0 (by decide) ww6 (fun _ h9 => h9) rfl dX4_closeRing_39 ?_
        refine lv_iload hx hb dX4_closeRing_42 (lv_at hl 0 rfl) ?_
        obtain ⟨g44, hv, hf⟩ := ob_bind hf
        refine kg_iald hx hb hK hP 19 0 rfl rfl hv dX4_closeRing_44 ?_
        obtain ⟨g45, hc, hf⟩ := ob_bind hf
        have hPc : va_P (dC, dI) vwCl ([] : va_W) H := fun k q h => by cases h
        refine kg_retRj (va_runSN (As := [.int g44]) (rest := [.long v5]) ⟨hx, hb, hml, hown, hts⟩ (c_X5_bit l dC dI cI cJ  H g44 _ hc) (⟨va_cnB 1 hts (gw_A wd_7_17) rfl rfl rfl hN.2.2.2 ww0 qX5_bit_n ⟨Nat.le_of_ble_eq_true rfl, Nat.le_of_ble_eq_true rfl⟩, ww1, trivial⟩) (kg_preSR hPc hK hN) rfl rfl hl.1 rfl (lv_room (Nat.le_of_ble_eq_true rfl)) dX4_closeRing_45 ⟨Nat.zero_le _, Nat.zero_le _⟩) ?_
        refine lv_lor hx hb dX4_closeRing_48 ?_
        refine lv_lstore (lv' := [(5, .long (v5 ||| g45)), (9, .int g30), (0, .ref (A 0)), (1, .int v1), (2, .int v2), (3, .long v3), (7, .int v7), (8, .int v8)]) hx hb dX4_closeRing_49 hl (by decide) rfl (fun ls hl => ?_)
        refine lv_aload_n hx hb dX4_closeRing_51 rfl (lv_at hl 2 rfl) ?_
        refine lv_iload hx hb dX4_closeRing_52 (lv_at hl 1 rfl) ?_
        obtain ⟨g54, hc, hf⟩ := ob_bind hf
        have hPc : va_P (dC, dI) vwCl (wWb cI cJ A x) H := hP
        refine kg_retRi (va_runV (As := [.int g30]) (rest := []) ⟨hx, hb, hml, hown, hts⟩ (c_X4_isBridge l dC dI cI cJ A H x g30 _ hc) (cwV 1 hts (gw_V wd_6_6 wd_11_12 wd_6_4 wd_6_5 wd_1_14) rfl rfl rfl qX4_isBridge ⟨Nat.le_of_ble_eq_true rfl, Nat.le_of_ble_eq_true rfl⟩) (kg_preVR (ci := 4) (q := (RX4, TX4, 16)) (q0 := 0) hPc hK hN rfl rfl) rfl rfl hl.1 rfl (lv_room (Nat.le_of_ble_eq_true rfl)) dX4_closeRing_54 ⟨Nat.zero_le _, Nat.zero_le _⟩) ?_
        refine kg_b_eq (tgt := 71) hx hb hf dX4_closeRing_57 (by decide) (fun hc hf => ?_) (fun hc hf => ?_)
        · refine lv_iinc (v := (v8 + 1)) (lv' := [(8, .int (v8 + 1)), (5, .long (v5 ||| g45)), (9, .int g30), (0, .ref (A 0)), (1, .int v1), (2, .int v2), (3, .long v3), (7, .int v7)]) hx hb dX4_closeRing_71 hl (k := 7) rfl rfl (by decide) rfl (fun ls hl => ?_)
          refine lv_goto (tgt := 18) hx hb dX4_closeRing_74 (by decide) ?_
          obtain rfl := Option.some.inj hf
          exact ih1 x (v5 ||| g45) v7 (v8 + 1) hk1 _ _ _ hP hD hS (lv_sub hl [3, 4, 5, 6, 1, 7, 0] rfl)
        · refine lv_aload_n hx hb dX4_closeRing_60 rfl (lv_at hl 2 rfl) ?_
          refine va_get (D := (dC, dI)) (ci := 4) (v := .ref (A 3)) (C := RX4) (T := TX4) (N := 16) hx hb hts hiX4 hown hK hP 0 rfl rfl 2 (by decide) ww7 (fun _ h9 => h9) rfl dX4_closeRing_61 ?_
          refine lv_iload hx hb dX4_closeRing_64 (lv_at hl 1 rfl) ?_
          refine lv_iload_n hx hb dX4_closeRing_66 rfl (lv_at hl 4 rfl) ?_
          obtain ⟨f67, hv, hf⟩ := ob_bind hf
          refine kg_iast (wz := (wWb cI cJ A (Wb_set_endedBy x f67))) hx hb hK hP hD hS 3 0 rfl rfl hv dX4_closeRing_67 (sc_Wb_endedBy _ _ _ _ _) (fun H locs hP hD hS => ?_)
          refine lv_iinc (v := (v7 + 1)) (lv' := [(7, .int (v7 + 1)), (5, .long (v5 ||| g45)), (9, .int g30), (0, .ref (A 0)), (1, .int v1), (2, .int v2), (3, .long v3), (8, .int v8)]) hx hb dX4_closeRing_68 hl (k := 6) rfl rfl (by decide) rfl (fun ls hl => ?_)
          refine lv_iinc (v := (v8 + 1)) (lv' := [(8, .int (v8 + 1)), (7, .int (v7 + 1)), (5, .long (v5 ||| g45)), (9, .int g30), (0, .ref (A 0)), (1, .int v1), (2, .int v2), (3, .long v3)]) hx hb dX4_closeRing_71 hl (k := 7) rfl rfl (by decide) rfl (fun ls hl => ?_)
          refine lv_goto (tgt := 18) hx hb dX4_closeRing_74 (by decide) ?_
          obtain rfl := Option.some.inj hf
          exact ih1 (Wb_set_endedBy x f67) (v5 ||| g45) (v7 + 1) (v8 + 1) hk1 _ _ _ hP hD hS (lv_sub hl [4, 5, 6, 7, 2, 1, 0] rfl)
  exact hlp18 g2 FU x g7 0 0 hf _ _ _ hP hD hS (lv_sub hl [4, 5, 6, 3, 2, 1, 0] rfl)
set_option maxHeartbeats 4000000 in
set_option maxRecDepth 100000 in
theorem c_X4_add (l : Launch) (dC : Nat → ClassId) (dI : Nat → Nat → Nat) (cI cJ : ClassId) (A : Nat → Nat) (hq : Nat) (x : WbS) (v1 : Int32) (v2 : Int32) (r0 : (Int32 × WbS)) (hf : Wb_m_add x v1 v2 = some r0) : MWi l yX4_add (wAll yX4_add cX4_add 5 (some .int)) ({ frames := 5, cells := 0, slots := 0, locals := 140 } : Room) [.ref (A 0), .int v1, .int v2] hq (dC, dI) (vTy cI cJ) (wWb cI cJ A x) (wWb cI cJ A r0.2) r0.1 := by
  refine kg_metW (Qc := fun Q => QWi (dC, dI) Q (wWb cI cJ A r0.2) r0.1) (cc := cX4_add) (maxL := 5) (ret := (some .int)) (by decide) rfl (Nat.le_of_ble_eq_true rfl) ?_
  intro p e s m args below meth c Q hx hb hr hts hown hlk hml hP hK hN hD hA hS ls hl
  have hl : lv_has ls 5 [(0, .ref (A 0)), (1, .int v1), (2, .int v2)] := hl
  have ww0 := hts (.fieldLink RX4 52 "SafeBlocks$Web" "links" "I") (List.mem_cons_of_mem _ wd_3_1)
  have ww1 := hts (.fieldLink RX4 9 "SafeBlocks$Web" "first" "[I") (List.mem_cons_of_mem _ wd_2_11)
  have ww2 := hts (.fieldLink RX4 15 "SafeBlocks$Web" "second" "[I") (List.mem_cons_of_mem _ wd_2_12)
  have ww3 := hts (.fieldLink RX4 38 "SafeBlocks$Web" "blocks" "LSafeBlocks$Names;") (List.mem_cons_of_mem _ wd_2_21)
  have ww4 := hts (.fieldLink RX4 67 "SafeBlocks$Names" "of" "[I") (List.mem_cons_of_mem _ wd_10_5)
  have ww5 := hts (.fieldLink RX4 70 "SafeBlocks$Web" "firstWas" "I") (List.mem_cons_of_mem _ wd_10_6)
  have ww6 := hts (.fieldLink RX4 73 "SafeBlocks$Web" "secondWas" "I") (List.mem_cons_of_mem _ wd_10_7)
  have ww7 := hts (.fieldLink RX4 76 "SafeBlocks$Web" "turned" "I") (List.mem_cons_of_mem _ wd_10_8)
  have ww8 := hts (.fieldLink RX4 79 "SafeBlocks$Web" "joined" "I") (List.mem_cons_of_mem _ wd_10_9)
  have ww9 := hts (.fieldLink RX4 45 "SafeBlocks$Web" "parts" "LSafeBlocks$Names;") (List.mem_cons_of_mem _ wd_2_23)
  have ww10 := hts (.fieldLink RX4 18 "SafeBlocks$Web" "endedBy" "[I") (List.mem_cons_of_mem _ wd_2_13)
  have hiX4 : ∀ w ∈ u_ws RX4 TX4 16, w ∈ wAll yX4_add cX4_add 5 (some .int) := fun w h => List.mem_cons_of_mem _ (inlX4 w h)
  have hiX1 : ∀ w ∈ u_ws RX1 TX1 6, w ∈ wAll yX4_add cX4_add 5 (some .int) := fun w h => List.mem_cons_of_mem _ (inlX1 w h)
  suffices hgo : ∀ (H : Heap) (locs : List Loc), va_P (dC, dI) vwCl (wWb cI cJ A x) H → va_S Q s.heap H locs → W p l e ({ frames := 5, cells := 0, slots := 0, locals := 140 } : Room) s m args below meth c H locs 0 0 (MQ below (QWi (dC, dI) Q (wWb cI cJ A r0.2) r0.1) args s 0 0 Q) (F0 m 0 ls []) from hgo _ _ hP hS
  clear hP hS
  intro H locs hP hS
  unfold Wb_m_add at hf
  refine lv_aload_n hx hb dX4_add_0 rfl (lv_at hl 0 rfl) ?_
  refine va_get (D := (dC, dI)) (ci := 4) (v := .int (Wb_links x)) (C := RX4) (T := TX4) (N := 16) hx hb hts hiX4 hown hK hP 0 rfl rfl 11 (by decide) ww0 (fun _ h9 => h9) rfl dX4_add_1 ?_
  refine lv_bipush (v := 64) hx hb dX4_add_4 (by decide) ?_
  refine kg_icmp_lt (tgt := 11) hx hb hf dX4_add_6 (by decide) (fun hc hf => ?_) (fun hc hf => ?_)
  · refine lv_aload_n hx hb dX4_add_11 rfl (lv_at hl 0 rfl) ?_
    refine va_get (D := (dC, dI)) (ci := 4) (v := .int (Wb_links x)) (C := RX4) (T := TX4) (N := 16) hx hb hts hiX4 hown hK hP 0 rfl rfl 11 (by decide) ww0 (fun _ h9 => h9) rfl dX4_add_12 ?_
    refine lv_istore_n (lv' := [(3, .int (Wb_links x)), (0, .ref (A 0)), (1, .int v1), (2, .int v2)]) hx hb dX4_add_15 rfl hl (by decide) rfl (fun ls hl => ?_)
    refine lv_aload_n hx hb dX4_add_16 rfl (lv_at hl 1 rfl) ?_
    refine lv_dup hx hb dX4_add_17 rfl ?_
    refine va_get (D := (dC, dI)) (ci := 4) (v := .int (Wb_links x)) (C := RX4) (T := TX4) (N := 16) hx hb hts hiX4 hown hK hP 0 rfl rfl 11 (by decide) ww0 (fun _ h9 => h9) rfl dX4_add_18 ?_
    refine lv_iconst (v := 1) hx hb dX4_add_21 (by decide) ?_
    refine lv_iadd hx hb dX4_add_22 ?_
    refine kg_put (ci := 4) (v := .int ((Wb_links x) + 1)) (ty := .int) (C := RX4) (T := TX4) (N := 16) (wz := (wWb cI cJ A (Wb_set_links x ((Wb_links x) + 1)))) hx hb hts hiX4 tyX4 tyX4_ok nmX4 hown hK hP hD hS 0 rfl rfl 11 (by decide) ww0 (fun _ h9 => h9) rfl (tyX4_ok 11 (by decide)) rfl rfl (Nat.le_of_ble_eq_true rfl) dX4_add_23 (sc_Wb_links _ _ _ _ _) (fun H locs hP hD hS => ?_)
    refine lv_aload_n hx hb dX4_add_26 rfl (lv_at hl 1 rfl) ?_
    refine va_get (D := (dC, dI)) (ci := 4) (v := .ref (A 1)) (C := RX4) (T := TX4) (N := 16) hx hb hts hiX4 hown hK hP 0 rfl rfl 0 (by decide) ww1 (fun _ h9 => h9) rfl dX4_add_27 ?_
    refine lv_iload_n hx hb dX4_add_30 rfl (lv_at hl 0 rfl) ?_
    refine lv_iload_n hx hb dX4_add_31 rfl (lv_at hl 2 rfl) ?_
    obtain ⟨f32, hv, hf⟩ := ob_bind hf
    refine kg_iast (wz := (wWb cI cJ A (Wb_set_first (Wb_set_links x ((Wb_links x) + 1)) f32))) hx hb hK hP hD hS 1 0 rfl rfl hv dX4_add_32 (sc_Wb_first _ _ _ _ _) (fun H locs hP hD hS => ?_)
    refine lv_aload_n hx hb dX4_add_33 rfl (lv_at hl 1 rfl) ?_
    refine va_get (D := (dC, dI)) (ci := 4) (v := .ref (A 2)) (C := RX4) (T := TX4) (N := 16) hx hb hts hiX4 hown hK hP 0 rfl rfl 1 (by decide) ww2 (fun _ h9 => h9) rfl dX4_add_34 ?_
    refine lv_iload_n hx hb dX4_add_37 rfl (lv_at hl 0 rfl) ?_
    refine lv_iload_n hx hb dX4_add_38 rfl (lv_at hl 3 rfl) ?_
    obtain ⟨f39, hv, hf⟩ := ob_bind hf
    refine kg_iast (wz := (wWb cI cJ A (Wb_set_second (Wb_set_first (Wb_set_links x ((Wb_links x) + 1)) f32) f39))) hx hb hK hP hD hS 2 0 rfl rfl hv dX4_add_39 (sc_Wb_second _ _ _ _ _) (fun H locs hP hD hS => ?_)
    refine lv_aload_n hx hb dX4_add_40 rfl (lv_at hl 1 rfl) ?_
    refine lv_aload_n hx hb dX4_add_41 rfl (lv_at hl 1 rfl) ?_
    refine va_get (D := (dC, dI)) (ci := 4) (v := .ref (A 8)) (C := RX4) (T := TX4) (N := 16) hx hb hts hiX4 hown hK hP 0 rfl rfl 7 (by decide) ww3 (fun _ h9 => h9) rfl dX4_add_42 ?_
    refine va_get (D := (dC, dI)) (ci := 1) (v := .ref (A 9)) (C := RX1) (T := TX1) (N := 6) hx hb hts hiX1 hown hK hP 8 rfl rfl 0 (by decide) ww4 (fun _ h9 => h9) rfl dX4_add_45 ?_
    refine lv_iload_n hx hb dX4_add_48 rfl (lv_at hl 2 rfl) ?_
    obtain ⟨g49, hv, hf⟩ := ob_bind hf
    refine kg_iald hx hb hK hP 9 0 rfl rfl hv dX4_add_49 ?_
    refine kg_put (ci := 4) (v := .int g49) (ty := .int) (C := RX4) (T := TX4) (N := 16) (wz := (wWb cI cJ A (Wb_set_firstWas (Wb_set_second (Wb_set_first (Wb_set_links x ((Wb_links x) + 1)) f32) f39) g49))) hx hb hts hiX4 tyX4 tyX4_ok nmX4 hown hK hP hD hS 0 rfl rfl 14 (by decide) ww5 (fun _ h9 => h9) rfl (tyX4_ok 14 (by decide)) rfl rfl (Nat.le_of_ble_eq_true rfl) dX4_add_50 (sc_Wb_firstWas _ _ _ _ _) (fun H locs hP hD hS => ?_)
    refine lv_aload_n hx hb dX4_add_53 rfl (lv_at hl 1 rfl) ?_
    refine lv_aload_n hx hb dX4_add_54 rfl (lv_at hl 1 rfl) ?_
    refine va_get (D := (dC, dI)) (ci := 4) (v := .ref (A 8)) (C := RX4) (T := TX4) (N := 16) hx hb hts hiX4 hown hK hP 0 rfl rfl 7 (by decide) ww3 (fun _ h9 => h9) rfl dX4_add_55 ?_
    refine va_get (D := (dC, dI)) (ci := 1) (v := .ref (A 9)) (C := RX1) (T := TX1) (N := 6) hx hb hts hiX1 hown hK hP 8 rfl rfl 0 (by decide) ww4 (fun _ h9 => h9) rfl dX4_add_58 ?_
    refine lv_iload_n hx hb dX4_add_61 rfl (lv_at hl 3 rfl) ?_
    obtain ⟨g62, hv, hf⟩ := ob_bind hf
    refine kg_iald hx hb hK hP 9 0 rfl rfl hv dX4_add_62 ?_
    refine kg_put (ci := 4) (v := .int g62) (ty := .int) (C := RX4) (T := TX4) (N := 16) (wz := (wWb cI cJ A (Wb_set_secondWas (Wb_set_firstWas (Wb_set_second (Wb_set_first (Wb_set_links x ((Wb_links x) + 1)) f32) f39) g49) g62))) hx hb hts hiX4 tyX4 tyX4_ok nmX4 hown hK hP hD hS 0 rfl rfl 15 (by decide) ww6 (fun _ h9 => h9) rfl (tyX4_ok 15 (by decide)) rfl rfl (Nat.le_of_ble_eq_true rfl) dX4_add_63 (sc_Wb_secondWas _ _ _ _ _) (fun H locs hP hD hS => ?_)
    refine lv_aload_n hx hb dX4_add_66 rfl (lv_at hl 1 rfl) ?_
    refine lv_iconst (v := 0) hx hb dX4_add_67 (by decide) ?_
    refine kg_put (ci := 4) (v := .int 0) (ty := .int) (C := RX4) (T := TX4) (N := 16) (wz := (wWb cI cJ A (Wb_set_turned (Wb_set_secondWas (Wb_set_firstWas (Wb_set_second (Wb_set_first (Wb_set_links x ((Wb_links x) + 1)) f32) f39) g49) g62) 0))) hx hb hts hiX4 tyX4 tyX4_ok nmX4 hown hK hP hD hS 0 rfl rfl 12 (by decide) ww7 (fun _ h9 => h9) rfl (tyX4_ok 12 (by decide)) rfl rfl (Nat.le_of_ble_eq_true rfl) dX4_add_68 (sc_Wb_turned _ _ _ _ _) (fun H locs hP hD hS => ?_)
    refine lv_aload_n hx hb dX4_add_71 rfl (lv_at hl 1 rfl) ?_
    refine lv_iconst (v := 1) hx hb dX4_add_72 (by decide) ?_
    refine kg_put (ci := 4) (v := .int 1) (ty := .int) (C := RX4) (T := TX4) (N := 16) (wz := (wWb cI cJ A (Wb_set_joined (Wb_set_turned (Wb_set_secondWas (Wb_set_firstWas (Wb_set_second (Wb_set_first (Wb_set_links x ((Wb_links x) + 1)) f32) f39) g49) g62) 0) 1))) hx hb hts hiX4 tyX4 tyX4_ok nmX4 hown hK hP hD hS 0 rfl rfl 13 (by decide) ww8 (fun _ h9 => h9) rfl (tyX4_ok 13 (by decide)) rfl rfl (Nat.le_of_ble_eq_true rfl) dX4_add_73 (sc_Wb_joined _ _ _ _ _) (fun H locs hP hD hS => ?_)
    refine lv_aload_n hx hb dX4_add_76 rfl (lv_at hl 1 rfl) ?_
    refine va_get (D := (dC, dI)) (ci := 4) (v := .ref (A 18)) (C := RX4) (T := TX4) (N := 16) hx hb hts hiX4 hown hK hP 0 rfl rfl 9 (by decide) ww9 (fun _ h9 => h9) rfl dX4_add_77 ?_
    obtain ⟨g80, hc, hf⟩ := ob_bind hf
    have hPx := kg_eqP (sp_Wb_parts cI cJ A (Wb_set_joined (Wb_set_turned (Wb_set_secondWas (Wb_set_firstWas (Wb_set_second (Wb_set_first (Wb_set_links x ((Wb_links x) + 1)) f32) f39) g49) g62) 0) 1)) hP
    have hDx := kg_eqD (sp_Wb_parts cI cJ A (Wb_set_joined (Wb_set_turned (Wb_set_secondWas (Wb_set_firstWas (Wb_set_second (Wb_set_first (Wb_set_links x ((Wb_links x) + 1)) f32) f39) g49) g62) 0) 1)) hD
    refine kg_retWv (pre := (oWb cI cJ A (Wb_set_joined (Wb_set_turned (Wb_set_secondWas (Wb_set_firstWas (Wb_set_second (Wb_set_first (Wb_set_links x ((Wb_links x) + 1)) f32) f39) g49) g62) 0) 1)) ++ ((wNm cI cJ 32 (fun i => A (i + 8)) (Wb_blocks (Wb_set_joined (Wb_set_turned (Wb_set_secondWas (Wb_set_firstWas (Wb_set_second (Wb_set_first (Wb_set_links x ((Wb_links x) + 1)) f32) f39) g49) g62) 0) 1))) ++ ((wNm cI cJ 32 (fun i => A (i + 13)) (Wb_lands (Wb_set_joined (Wb_set_turned (Wb_set_secondWas (Wb_set_firstWas (Wb_set_second (Wb_set_first (Wb_set_links x ((Wb_links x) + 1)) f32) f39) g49) g62) 0) 1)))))) (wc := wNm cI cJ 64 (fun i => A (i + 18)) (Wb_parts (Wb_set_joined (Wb_set_turned (Wb_set_secondWas (Wb_set_firstWas (Wb_set_second (Wb_set_first (Wb_set_links x ((Wb_links x) + 1)) f32) f39) g49) g62) 0) 1))) (post := ([] : va_W)) (w1 := wNm cI cJ 64 (fun i => A (i + 18)) g80) (wz := (wWb cI cJ A (Wb_set_parts (Wb_set_joined (Wb_set_turned (Wb_set_secondWas (Wb_set_firstWas (Wb_set_second (Wb_set_first (Wb_set_links x ((Wb_links x) + 1)) f32) f39) g49) g62) 0) 1) g80))) (sj_Wb_parts _ _ _ _ _) hPx hDx hS hA (va_runV (As := []) (rest := []) ⟨hx, hb, hml, hown, hts⟩ (c_X1_begin l dC dI cI cJ (fun i => A (i + 18)) H.size 64 (Wb_parts (Wb_set_joined (Wb_set_turned (Wb_set_secondWas (Wb_set_firstWas (Wb_set_second (Wb_set_first (Wb_set_links x ((Wb_links x) + 1)) f32) f39) g49) g62) 0) 1)) _ hc) (cwV 0 hts (gw_V wd_5_9 wd_5_6 wd_5_7 wd_5_8 wd_2_20) rfl rfl rfl qX1_begin ⟨Nat.le_of_ble_eq_true rfl, Nat.le_of_ble_eq_true rfl⟩) (kg_preVW (ci := 1) (q := (RX1, TX1, 6)) (q0 := 0) (kg_cutP hPx) (kg_cutD hDx) hK hN rfl rfl) rfl rfl hl.1 rfl (lv_room (Nat.le_of_ble_eq_true rfl)) dX4_add_80 ⟨Nat.zero_le _, Nat.zero_le _⟩) (fun H locs hP hD hS => ?_)
    refine lv_aload_n hx hb dX4_add_83 rfl (lv_at hl 1 rfl) ?_
    refine lv_iload_n hx hb dX4_add_84 rfl (lv_at hl 2 rfl) ?_
    refine lv_iload_n hx hb dX4_add_85 rfl (lv_at hl 3 rfl) ?_
    obtain ⟨g86, hc, hf⟩ := ob_bind hf
    have hPx := kg_eqP (kg_slf _) hP
    have hDx := kg_eqD (kg_slf _) hD
    refine kg_retWi (pre := ([] : va_W)) (wc := wWb cI cJ A (Wb_set_parts (Wb_set_joined (Wb_set_turned (Wb_set_secondWas (Wb_set_firstWas (Wb_set_second (Wb_set_first (Wb_set_links x ((Wb_links x) + 1)) f32) f39) g49) g62) 0) 1) g80)) (post := ([] : va_W)) (w1 := wWb cI cJ A g86.2) (wz := (wWb cI cJ A g86.2)) (kg_slf _).symm hPx hDx hS hA (va_runV (As := [.int v1, .int v2]) (rest := []) ⟨hx, hb, hml, hown, hts⟩ (c_X4_trace l dC dI cI cJ A H.size (Wb_set_parts (Wb_set_joined (Wb_set_turned (Wb_set_secondWas (Wb_set_firstWas (Wb_set_second (Wb_set_first (Wb_set_links x ((Wb_links x) + 1)) f32) f39) g49) g62) 0) 1) g80) v1 v2 _ hc) (cwV 2 hts (gw_V wd_10_13 wd_10_10 wd_10_11 wd_10_12 wd_1_14) rfl rfl rfl qX4_trace ⟨Nat.le_of_ble_eq_true rfl, Nat.le_of_ble_eq_true rfl⟩) (kg_preVW (ci := 4) (q := (RX4, TX4, 16)) (q0 := 0) (kg_cutP hPx) (kg_cutD hDx) hK hN rfl rfl) rfl rfl hl.1 rfl (lv_room (Nat.le_of_ble_eq_true rfl)) dX4_add_86 ⟨Nat.zero_le _, Nat.zero_le _⟩) (fun H locs hP hD hS => ?_)
    refine lv_istore (lv' := [(4, .int g86.1), (3, .int (Wb_links x)), (0, .ref (A 0)), (1, .int v1), (2, .int v2)]) hx hb dX4_add_89 hl (by decide) rfl (fun ls hl => ?_)
    refine lv_iload hx hb dX4_add_91 (lv_at hl 0 rfl) ?_
    refine lv_iconst (v := (-1)) hx hb dX4_add_93 (by decide) ?_
    refine kg_icmp_ne (tgt := 114) hx hb hf dX4_add_94 (by decide) (fun hc hf => ?_) (fun hc hf => ?_)
    · refine lv_aload_n hx hb dX4_add_114 rfl (lv_at hl 2 rfl) ?_
      refine va_get (D := (dC, dI)) (ci := 4) (v := .ref (A 3)) (C := RX4) (T := TX4) (N := 16) hx hb hts hiX4 hown hK hP 0 rfl rfl 2 (by decide) ww10 (fun _ h9 => h9) rfl dX4_add_115 ?_
      refine lv_iload_n hx hb dX4_add_118 rfl (lv_at hl 1 rfl) ?_
      refine lv_iload_n hx hb dX4_add_119 rfl (lv_at hl 1 rfl) ?_
      obtain ⟨f120, hv, hf⟩ := ob_bind hf
      refine kg_iast (wz := (wWb cI cJ A (Wb_set_endedBy g86.2 f120))) hx hb hK hP hD hS 3 0 rfl rfl hv dX4_add_120 (sc_Wb_endedBy _ _ _ _ _) (fun H locs hP hD hS => ?_)
      refine lv_aload_n hx hb dX4_add_121 rfl (lv_at hl 2 rfl) ?_
      refine lv_iload hx hb dX4_add_122 (lv_at hl 0 rfl) ?_
      refine lv_iload_n hx hb dX4_add_124 rfl (lv_at hl 1 rfl) ?_
      obtain ⟨g125, hc, hf⟩ := ob_bind hf
      have hPx := kg_eqP (kg_slf _) hP
      have hDx := kg_eqD (kg_slf _) hD
      refine kg_retWi (pre := ([] : va_W)) (wc := wWb cI cJ A (Wb_set_endedBy g86.2 f120)) (post := ([] : va_W)) (w1 := wWb cI cJ A g125.2) (wz := (wWb cI cJ A g125.2)) (kg_slf _).symm hPx hDx hS hA (va_runV (As := [.int g86.1, .int (Wb_links x)]) (rest := []) ⟨hx, hb, hml, hown, hts⟩ (c_X4_closeRing l dC dI cI cJ A H.size (Wb_set_endedBy g86.2 f120) g86.1 (Wb_links x) _ hc) (cwV 2 hts (gw_V wd_11_21 wd_11_18 wd_11_19 wd_11_20 wd_1_14) rfl rfl rfl qX4_closeRing ⟨Nat.le_of_ble_eq_true rfl, Nat.le_of_ble_eq_true rfl⟩) (kg_preVW (ci := 4) (q := (RX4, TX4, 16)) (q0 := 0) (kg_cutP hPx) (kg_cutD hDx) hK hN rfl rfl) rfl rfl hl.1 rfl (lv_room (Nat.le_of_ble_eq_true rfl)) dX4_add_125 ⟨Nat.zero_le _, Nat.zero_le _⟩) (fun H locs hP hD hS => ?_)
      obtain rfl := Option.some.inj hf
      exact kg_iretW hx hb hr hlk rfl hP hD hS dX4_add_128
    · refine lv_aload_n hx hb dX4_add_97 rfl (lv_at hl 2 rfl) ?_
      refine va_get (D := (dC, dI)) (ci := 4) (v := .ref (A 3)) (C := RX4) (T := TX4) (N := 16) hx hb hts hiX4 hown hK hP 0 rfl rfl 2 (by decide) ww10 (fun _ h9 => h9) rfl dX4_add_98 ?_
      refine lv_iload_n hx hb dX4_add_101 rfl (lv_at hl 1 rfl) ?_
      refine lv_iconst (v := (-1)) hx hb dX4_add_102 (by decide) ?_
      obtain ⟨f103, hv, hf⟩ := ob_bind hf
      refine kg_iast (wz := (wWb cI cJ A (Wb_set_endedBy g86.2 f103))) hx hb hK hP hD hS 3 0 rfl rfl hv dX4_add_103 (sc_Wb_endedBy _ _ _ _ _) (fun H locs hP hD hS => ?_)
      refine lv_aload_n hx hb dX4_add_104 rfl (lv_at hl 2 rfl) ?_
      refine lv_iload_n hx hb dX4_add_105 rfl (lv_at hl 3 rfl) ?_
      refine lv_iload_n hx hb dX4_add_106 rfl (lv_at hl 4 rfl) ?_
      refine lv_iload_n hx hb dX4_add_107 rfl (lv_at hl 1 rfl) ?_
      obtain ⟨g108, hc, hf⟩ := ob_bind hf
      have hPx := kg_eqP (kg_slf _) hP
      have hDx := kg_eqD (kg_slf _) hD
      refine kg_retWv (pre := ([] : va_W)) (wc := wWb cI cJ A (Wb_set_endedBy g86.2 f103)) (post := ([] : va_W)) (w1 := wWb cI cJ A g108) (wz := (wWb cI cJ A g108)) (kg_slf _).symm hPx hDx hS hA (va_runV (As := [.int v1, .int v2, .int (Wb_links x)]) (rest := []) ⟨hx, hb, hml, hown, hts⟩ (c_X4_joinLands l dC dI cI cJ A H.size (Wb_set_endedBy g86.2 f103) v1 v2 (Wb_links x) _ hc) (cwV 3 hts (gw_V wd_11_1 wd_10_22 wd_10_23 wd_11_0 wd_1_14) rfl rfl rfl qX4_joinLands ⟨Nat.le_of_ble_eq_true rfl, Nat.le_of_ble_eq_true rfl⟩) (kg_preVW (ci := 4) (q := (RX4, TX4, 16)) (q0 := 0) (kg_cutP hPx) (kg_cutD hDx) hK hN rfl rfl) rfl rfl hl.1 rfl (lv_room (Nat.le_of_ble_eq_true rfl)) dX4_add_108 ⟨Nat.zero_le _, Nat.zero_le _⟩) (fun H locs hP hD hS => ?_)
      refine lv_bipush (v := (-2)) hx hb dX4_add_111 (by decide) ?_
      obtain rfl := Option.some.inj hf
      exact kg_iretW hx hb hr hlk rfl hP hD hS dX4_add_113
  · refine lv_iconst (v := (-1)) hx hb dX4_add_9 (by decide) ?_
    obtain rfl := Option.some.inj hf
    exact kg_iretW hx hb hr hlk rfl hP hD hS dX4_add_10
set_option maxHeartbeats 4000000 in
set_option maxRecDepth 100000 in
theorem c_X4_growAgain (l : Launch) (dC : Nat → ClassId) (dI : Nat → Nat → Nat) (cI cJ : ClassId) (A : Nat → Nat) (hq : Nat) (x : WbS) (v1 : Int32) (r0 : WbS) (hf : Wb_m_growAgain x v1 = some r0) : MWv l yX4_growAgain (wAll yX4_growAgain cX4_growAgain 3 none) ({ frames := 6, cells := 0, slots := 0, locals := 164 } : Room) [.ref (A 0), .int v1] hq (dC, dI) (vTy cI cJ) (wWb cI cJ A x) (wWb cI cJ A r0) := by
  refine kg_metW (Qc := fun Q => QWv (dC, dI) Q (wWb cI cJ A r0)) (cc := cX4_growAgain) (maxL := 3) (ret := none) (by decide) rfl (Nat.le_of_ble_eq_true rfl) ?_
  intro p e s m args below meth c Q hx hb hr hts hown hlk hml hP hK hN hD hA hS ls hl
  have hl : lv_has ls 3 [(0, .ref (A 0)), (1, .int v1)] := hl
  have ww0 := hts (.fieldLink RX4 48 "SafeBlocks$Web" "nodes" "I") (List.mem_cons_of_mem _ wd_3_0)
  have ww1 := hts (.fieldLink RX4 9 "SafeBlocks$Web" "first" "[I") (List.mem_cons_of_mem _ wd_2_11)
  have ww2 := hts (.fieldLink RX4 15 "SafeBlocks$Web" "second" "[I") (List.mem_cons_of_mem _ wd_2_12)
  have hiX4 : ∀ w ∈ u_ws RX4 TX4 16, w ∈ wAll yX4_growAgain cX4_growAgain 3 none := fun w h => List.mem_cons_of_mem _ (inlX4 w h)
  suffices hgo : ∀ (H : Heap) (locs : List Loc), va_P (dC, dI) vwCl (wWb cI cJ A x) H → va_S Q s.heap H locs → W p l e ({ frames := 6, cells := 0, slots := 0, locals := 164 } : Room) s m args below meth c H locs 0 0 (MQ below (QWv (dC, dI) Q (wWb cI cJ A r0)) args s 0 0 Q) (F0 m 0 ls []) from hgo _ _ hP hS
  clear hP hS
  intro H locs hP hS
  unfold Wb_m_growAgain at hf
  refine lv_aload_n hx hb dX4_growAgain_0 rfl (lv_at hl 0 rfl) ?_
  refine lv_aload_n hx hb dX4_growAgain_1 rfl (lv_at hl 0 rfl) ?_
  refine va_get (D := (dC, dI)) (ci := 4) (v := .int (Wb_nodes x)) (C := RX4) (T := TX4) (N := 16) hx hb hts hiX4 hown hK hP 0 rfl rfl 10 (by decide) ww0 (fun _ h9 => h9) rfl dX4_growAgain_2 ?_
  obtain ⟨g5, hc, hf⟩ := ob_bind hf
  have hPx := kg_eqP (kg_slf _) hP
  have hDx := kg_eqD (kg_slf _) hD
  refine kg_retWv (pre := ([] : va_W)) (wc := wWb cI cJ A x) (post := ([] : va_W)) (w1 := wWb cI cJ A g5) (wz := (wWb cI cJ A g5)) (kg_slf _).symm hPx hDx hS hA (va_runV (As := [.int (Wb_nodes x)]) (rest := []) ⟨hx, hb, hml, hown, hts⟩ (c_X4_clear l dC dI cI cJ A H.size x (Wb_nodes x) _ hc) (cwV 1 hts (gw_V wd_5_1 wd_15_22 wd_4_23 wd_5_0 wd_1_14) rfl rfl rfl qX4_clear ⟨Nat.le_of_ble_eq_true rfl, Nat.le_of_ble_eq_true rfl⟩) (kg_preVW (ci := 4) (q := (RX4, TX4, 16)) (q0 := 0) (kg_cutP hPx) (kg_cutD hDx) hK hN rfl rfl) rfl rfl hl.1 rfl (lv_room (Nat.le_of_ble_eq_true rfl)) dX4_growAgain_5 ⟨Nat.zero_le _, Nat.zero_le _⟩) (fun H locs hP hD hS => ?_)
  refine lv_iconst (v := 0) hx hb dX4_growAgain_8 (by decide) ?_
  refine lv_istore_n (lv' := [(2, .int 0), (0, .ref (A 0)), (1, .int v1)]) hx hb dX4_growAgain_9 rfl hl (by decide) rfl (fun ls hl => ?_)
  have hlp10 : ∀ (n : Nat) (x : WbS) (v2 : Int32), iter (fun p : WbS × Int32 => Wb_m_growAgain_s10 v1 p.1 p.2) n (x, v2) = some r0 → ∀ (H : Heap) (locs : List Loc) (ls : Array Slot), va_P (dC, dI) vwCl (wWb cI cJ A x) H → va_D Q (wWb cI cJ A x) → va_S Q s.heap H locs → lv_has ls 3 [(0, .ref (A 0)), (1, .int v1), (2, .int v2)] → W p l e ({ frames := 6, cells := 0, slots := 0, locals := 164 } : Room) s m args below meth c H locs 0 0 (MQ below (QWv (dC, dI) Q (wWb cI cJ A r0)) args s 0 0 Q) (F0 m 10 ls []) := by
    intro  n
    induction n with
    | zero => intro x v2 hf; exact iter_zero hf
    | succ n ih1 =>
      intro x v2 hf H locs ls hP hD hS hl
      obtain ⟨q1, hf, hk1⟩ := iter_succ hf
      have hf : Wb_m_growAgain_s10 v1 x v2 = some q1 := hf
      unfold Wb_m_growAgain_s10 at hf
      refine lv_iload_n hx hb dX4_growAgain_10 rfl (lv_at hl 2 rfl) ?_
      refine lv_iload_n hx hb dX4_growAgain_11 rfl (lv_at hl 1 rfl) ?_
      refine kg_icmp_ge (tgt := 38) hx hb hf dX4_growAgain_12 (by decide) (fun hc hf => ?_) (fun hc hf => ?_)
      · obtain ⟨qq, hf, hqq⟩ := omap_some hf
        have hkq : qq = r0 := by rw [← hqq] at hk1; exact hk1
        rw [hkq] at hf
        clear hkq hqq
        obtain rfl := Option.some.inj hf
        exact kg_vretW hx hb hr hlk hP hD hS dX4_growAgain_38
      · refine lv_aload_n hx hb dX4_growAgain_15 rfl (lv_at hl 0 rfl) ?_
        refine lv_aload_n hx hb dX4_growAgain_16 rfl (lv_at hl 0 rfl) ?_
        refine va_get (D := (dC, dI)) (ci := 4) (v := .ref (A 1)) (C := RX4) (T := TX4) (N := 16) hx hb hts hiX4 hown hK hP 0 rfl rfl 0 (by decide) ww1 (fun _ h9 => h9) rfl dX4_growAgain_17 ?_
        refine lv_iload_n hx hb dX4_growAgain_20 rfl (lv_at hl 2 rfl) ?_
        obtain ⟨g21, hv, hf⟩ := ob_bind hf
        refine kg_iald hx hb hK hP 1 0 rfl rfl hv dX4_growAgain_21 ?_
        refine lv_aload_n hx hb dX4_growAgain_22 rfl (lv_at hl 0 rfl) ?_
        refine va_get (D := (dC, dI)) (ci := 4) (v := .ref (A 2)) (C := RX4) (T := TX4) (N := 16) hx hb hts hiX4 hown hK hP 0 rfl rfl 1 (by decide) ww2 (fun _ h9 => h9) rfl dX4_growAgain_23 ?_
        refine lv_iload_n hx hb dX4_growAgain_26 rfl (lv_at hl 2 rfl) ?_
        obtain ⟨g27, hv, hf⟩ := ob_bind hf
        refine kg_iald hx hb hK hP 2 0 rfl rfl hv dX4_growAgain_27 ?_
        obtain ⟨g28, hc, hf⟩ := ob_bind hf
        have hPx := kg_eqP (kg_slf _) hP
        have hDx := kg_eqD (kg_slf _) hD
        refine kg_retWi (pre := ([] : va_W)) (wc := wWb cI cJ A x) (post := ([] : va_W)) (w1 := wWb cI cJ A g28.2) (wz := (wWb cI cJ A g28.2)) (kg_slf _).symm hPx hDx hS hA (va_runV (As := [.int g21, .int g27]) (rest := []) ⟨hx, hb, hml, hown, hts⟩ (c_X4_add l dC dI cI cJ A H.size x g21 g27 _ hc) (cwV 2 hts (gw_V wd_10_4 wd_15_23 wd_10_2 wd_10_3 wd_1_14) rfl rfl rfl qX4_add ⟨Nat.le_of_ble_eq_true rfl, Nat.le_of_ble_eq_true rfl⟩) (kg_preVW (ci := 4) (q := (RX4, TX4, 16)) (q0 := 0) (kg_cutP hPx) (kg_cutD hDx) hK hN rfl rfl) rfl rfl hl.1 rfl (lv_room (Nat.le_of_ble_eq_true rfl)) dX4_growAgain_28 ⟨Nat.zero_le _, Nat.zero_le _⟩) (fun H locs hP hD hS => ?_)
        refine lv_pop hx hb dX4_growAgain_31 rfl ?_
        refine lv_iinc (v := (v2 + 1)) (lv' := [(2, .int (v2 + 1)), (0, .ref (A 0)), (1, .int v1)]) hx hb dX4_growAgain_32 hl (k := 2) rfl rfl (by decide) rfl (fun ls hl => ?_)
        refine lv_goto (tgt := 10) hx hb dX4_growAgain_35 (by decide) ?_
        obtain rfl := Option.some.inj hf
        exact ih1 g28.2 (v2 + 1) hk1 _ _ _ hP hD hS (lv_sub hl [1, 2, 0] rfl)
  exact hlp10  FU g5 0 hf _ _ _ hP hD hS (lv_sub hl [1, 2, 0] rfl)
