set_option maxHeartbeats 4000000 in
set_option maxRecDepth 100000 in
theorem c_X5_readAgain (l : Launch) (dC : Nat → ClassId) (dI : Nat → Nat → Nat) (cI cJ : ClassId) (A : Nat → Nat) (hq : Nat) (x : SBS) (r0 : SBS) (hf : SB_m_readAgain x = some r0) : MWv l yX5_readAgain (wAll yX5_readAgain cX5_readAgain 1 none) ({ frames := 4, cells := 0, slots := 0, locals := 109 } : Room) [.ref (A 0)] hq (dC, dI) (vTy cI cJ) (wSB cI cJ A x) (wSB cI cJ A r0) := by
  refine kg_metW (Qc := fun Q => QWv (dC, dI) Q (wSB cI cJ A r0)) (cc := cX5_readAgain) (maxL := 1) (ret := none) (by decide) rfl (Nat.le_of_ble_eq_true rfl) ?_
  intro p e s m args below meth c Q hx hb hr hts hown hlk hml hP hK hN hD hA hS ls hl
  have hl : lv_has ls 1 [(0, .ref (A 0))] := hl
  have ww0 := hts (.fieldLink RX5 22 "SafeBlocks" "forest" "LSafeBlocks$Forest;") (List.mem_cons_of_mem _ wd_1_20)
  have ww1 := hts (.fieldLink RX5 12 "SafeBlocks" "now" "LSafeBlocks$Web;") (List.mem_cons_of_mem _ wd_1_15)
  have ww2 := hts (.fieldLink RX5 29 "SafeBlocks" "book" "LSafeBlocks$PartBook;") (List.mem_cons_of_mem _ wd_2_0)
  have hiX5 : ∀ w ∈ u_ws RX5 TX5 6, w ∈ wAll yX5_readAgain cX5_readAgain 1 none := fun w h => List.mem_cons_of_mem _ (inlX5 w h)
  suffices hgo : ∀ (H : Heap) (locs : List Loc), va_P (dC, dI) vwCl (wSB cI cJ A x) H → va_S Q s.heap H locs → W p l e ({ frames := 4, cells := 0, slots := 0, locals := 109 } : Room) s m args below meth c H locs 0 0 (MQ below (QWv (dC, dI) Q (wSB cI cJ A r0)) args s 0 0 Q) (F0 m 0 ls []) from hgo _ _ hP hS
  clear hP hS
  intro H locs hP hS
  unfold SB_m_readAgain at hf
  refine lv_aload_n hx hb dX5_readAgain_0 rfl (lv_at hl 0 rfl) ?_
  refine va_get (D := (dC, dI)) (ci := 5) (v := .ref (A 47)) (C := RX5) (T := TX5) (N := 6) hx hb hts hiX5 hown hK hP 0 rfl rfl 2 (by decide) ww0 (fun _ h9 => h9) rfl dX5_readAgain_1 ?_
  refine lv_aload_n hx hb dX5_readAgain_4 rfl (lv_at hl 0 rfl) ?_
  refine va_get (D := (dC, dI)) (ci := 5) (v := .ref (A 1)) (C := RX5) (T := TX5) (N := 6) hx hb hts hiX5 hown hK hP 0 rfl rfl 0 (by decide) ww1 (fun _ h9 => h9) rfl dX5_readAgain_5 ?_
  obtain ⟨g8, hc, hf⟩ := ob_bind hf
  have hPx : va_P (dC, dI) vwCl (([] : va_W) ++ ((wFo cI cJ (fun i => A (i + 47)) (SB_forest x) ++ (wWb cI cJ (fun i => A (i + 1)) (SB_now x))) ++ (((oSB cI cJ A x) ++ ((oWb cI cJ (fun i => A (i + 24)) (SB_trial x)) ++ ((wNm cI cJ 32 (fun i => A (i + 32)) (Wb_blocks (SB_trial x))) ++ ((wNm cI cJ 32 (fun i => A (i + 37)) (Wb_lands (SB_trial x))) ++ ((wNm cI cJ 64 (fun i => A (i + 42)) (Wb_parts (SB_trial x))) ++ ((wPb cI cJ (fun i => A (i + 59)) (SB_book x)) ++ (wRo cI cJ (fun i => A (i + 64)) (SB_round x))))))))))) H := hP.sub [47, 48, 49, 50, 51, 52, 53, 54, 55, 56, 57, 58, 1, 2, 3, 4, 5, 6, 7, 8, 9, 10, 11, 12, 13, 14, 15, 16, 17, 18, 19, 20, 21, 22, 23, 0, 24, 25, 26, 27, 28, 29, 30, 31, 32, 33, 34, 35, 36, 37, 38, 39, 40, 41, 42, 43, 44, 45, 46, 59, 60, 61, 62, 63, 64, 65] rfl
  have hDx : va_D Q (([] : va_W) ++ ((wFo cI cJ (fun i => A (i + 47)) (SB_forest x) ++ (wWb cI cJ (fun i => A (i + 1)) (SB_now x))) ++ (((oSB cI cJ A x) ++ ((oWb cI cJ (fun i => A (i + 24)) (SB_trial x)) ++ ((wNm cI cJ 32 (fun i => A (i + 32)) (Wb_blocks (SB_trial x))) ++ ((wNm cI cJ 32 (fun i => A (i + 37)) (Wb_lands (SB_trial x))) ++ ((wNm cI cJ 64 (fun i => A (i + 42)) (Wb_parts (SB_trial x))) ++ ((wPb cI cJ (fun i => A (i + 59)) (SB_book x)) ++ (wRo cI cJ (fun i => A (i + 64)) (SB_round x))))))))))) := hD.sub [47, 48, 49, 50, 51, 52, 53, 54, 55, 56, 57, 58, 1, 2, 3, 4, 5, 6, 7, 8, 9, 10, 11, 12, 13, 14, 15, 16, 17, 18, 19, 20, 21, 22, 23, 0, 24, 25, 26, 27, 28, 29, 30, 31, 32, 33, 34, 35, 36, 37, 38, 39, 40, 41, 42, 43, 44, 45, 46, 59, 60, 61, 62, 63, 64, 65] (by decide) rfl
  refine kg_retWv (pre := []) (wc := wFo cI cJ (fun i => A (i + 47)) (SB_forest x) ++ (wWb cI cJ (fun i => A (i + 1)) (SB_now x))) (post := (((oSB cI cJ A x) ++ ((oWb cI cJ (fun i => A (i + 24)) (SB_trial x)) ++ ((wNm cI cJ 32 (fun i => A (i + 32)) (Wb_blocks (SB_trial x))) ++ ((wNm cI cJ 32 (fun i => A (i + 37)) (Wb_lands (SB_trial x))) ++ ((wNm cI cJ 64 (fun i => A (i + 42)) (Wb_parts (SB_trial x))) ++ ((wPb cI cJ (fun i => A (i + 59)) (SB_book x)) ++ (wRo cI cJ (fun i => A (i + 64)) (SB_round x)))))))))) (w1 := wFo cI cJ (fun i => A (i + 47)) g8 ++ (wWb cI cJ (fun i => A (i + 1)) (SB_now x))) rfl hPx hDx hS hA (va_runV (As := [.ref (A 1)]) (rest := []) ⟨hx, hb, hml, hown, hts⟩ (c_X0_read l dC dI cI cJ (fun i => A (i + 47)) (fun i => A (i + 1)) H.size (SB_forest x) (SB_now x) _ hc) (cwV 1 hts (gw_V wd_5_17 wd_5_14 wd_5_15 wd_5_16 wd_1_19) rfl rfl rfl qX0_read ⟨Nat.le_of_ble_eq_true rfl, Nat.le_of_ble_eq_true rfl⟩) (kg_preVW (ci := 0) (q := (RX0, TX0, 13)) (q0 := 0) (kg_cutP hPx) (kg_cutD hDx) hK hN rfl rfl) rfl rfl hl.1 rfl (lv_room (Nat.le_of_ble_eq_true rfl)) dX5_readAgain_8 ⟨Nat.zero_le _, Nat.zero_le _⟩) (fun H locs hP hD hS => ?_)
  have hP : va_P (dC, dI) vwCl (wSB cI cJ A (SB_set_forest x g8)) H := hP.sub [35, 12, 13, 14, 15, 16, 17, 18, 19, 20, 21, 22, 23, 24, 25, 26, 27, 28, 29, 30, 31, 32, 33, 34, 36, 37, 38, 39, 40, 41, 42, 43, 44, 45, 46, 47, 48, 49, 50, 51, 52, 53, 54, 55, 56, 57, 58, 0, 1, 2, 3, 4, 5, 6, 7, 8, 9, 10, 11, 59, 60, 61, 62, 63, 64, 65] rfl
  have hD : va_D Q (wSB cI cJ A (SB_set_forest x g8)) := hD.sub [35, 12, 13, 14, 15, 16, 17, 18, 19, 20, 21, 22, 23, 24, 25, 26, 27, 28, 29, 30, 31, 32, 33, 34, 36, 37, 38, 39, 40, 41, 42, 43, 44, 45, 46, 47, 48, 49, 50, 51, 52, 53, 54, 55, 56, 57, 58, 0, 1, 2, 3, 4, 5, 6, 7, 8, 9, 10, 11, 59, 60, 61, 62, 63, 64, 65] (by decide) rfl
  refine lv_aload_n hx hb dX5_readAgain_11 rfl (lv_at hl 0 rfl) ?_
  refine va_get (D := (dC, dI)) (ci := 5) (v := .ref (A 59)) (C := RX5) (T := TX5) (N := 6) hx hb hts hiX5 hown hK hP 0 rfl rfl 3 (by decide) ww2 (fun _ h9 => h9) rfl dX5_readAgain_12 ?_
  refine lv_aload_n hx hb dX5_readAgain_15 rfl (lv_at hl 0 rfl) ?_
  refine va_get (D := (dC, dI)) (ci := 5) (v := .ref (A 1)) (C := RX5) (T := TX5) (N := 6) hx hb hts hiX5 hown hK hP 0 rfl rfl 0 (by decide) ww1 (fun _ h9 => h9) rfl dX5_readAgain_16 ?_
  obtain ⟨g19, hc, hf⟩ := ob_bind hf
  have hPx : va_P (dC, dI) vwCl (([] : va_W) ++ ((wPb cI cJ (fun i => A (i + 59)) (SB_book (SB_set_forest x g8)) ++ (wWb cI cJ (fun i => A (i + 1)) (SB_now (SB_set_forest x g8)))) ++ (((oSB cI cJ A (SB_set_forest x g8)) ++ ((oWb cI cJ (fun i => A (i + 24)) (SB_trial (SB_set_forest x g8))) ++ ((wNm cI cJ 32 (fun i => A (i + 32)) (Wb_blocks (SB_trial (SB_set_forest x g8)))) ++ ((wNm cI cJ 32 (fun i => A (i + 37)) (Wb_lands (SB_trial (SB_set_forest x g8)))) ++ ((wNm cI cJ 64 (fun i => A (i + 42)) (Wb_parts (SB_trial (SB_set_forest x g8)))) ++ ((wFo cI cJ (fun i => A (i + 47)) (SB_forest (SB_set_forest x g8))) ++ (wRo cI cJ (fun i => A (i + 64)) (SB_round (SB_set_forest x g8)))))))))))) H := hP.sub [59, 60, 61, 62, 63, 1, 2, 3, 4, 5, 6, 7, 8, 9, 10, 11, 12, 13, 14, 15, 16, 17, 18, 19, 20, 21, 22, 23, 0, 24, 25, 26, 27, 28, 29, 30, 31, 32, 33, 34, 35, 36, 37, 38, 39, 40, 41, 42, 43, 44, 45, 46, 47, 48, 49, 50, 51, 52, 53, 54, 55, 56, 57, 58, 64, 65] rfl
  have hDx : va_D Q (([] : va_W) ++ ((wPb cI cJ (fun i => A (i + 59)) (SB_book (SB_set_forest x g8)) ++ (wWb cI cJ (fun i => A (i + 1)) (SB_now (SB_set_forest x g8)))) ++ (((oSB cI cJ A (SB_set_forest x g8)) ++ ((oWb cI cJ (fun i => A (i + 24)) (SB_trial (SB_set_forest x g8))) ++ ((wNm cI cJ 32 (fun i => A (i + 32)) (Wb_blocks (SB_trial (SB_set_forest x g8)))) ++ ((wNm cI cJ 32 (fun i => A (i + 37)) (Wb_lands (SB_trial (SB_set_forest x g8)))) ++ ((wNm cI cJ 64 (fun i => A (i + 42)) (Wb_parts (SB_trial (SB_set_forest x g8)))) ++ ((wFo cI cJ (fun i => A (i + 47)) (SB_forest (SB_set_forest x g8))) ++ (wRo cI cJ (fun i => A (i + 64)) (SB_round (SB_set_forest x g8)))))))))))) := hD.sub [59, 60, 61, 62, 63, 1, 2, 3, 4, 5, 6, 7, 8, 9, 10, 11, 12, 13, 14, 15, 16, 17, 18, 19, 20, 21, 22, 23, 0, 24, 25, 26, 27, 28, 29, 30, 31, 32, 33, 34, 35, 36, 37, 38, 39, 40, 41, 42, 43, 44, 45, 46, 47, 48, 49, 50, 51, 52, 53, 54, 55, 56, 57, 58, 64, 65] (by decide) rfl
  refine kg_retWv (pre := []) (wc := wPb cI cJ (fun i => A (i + 59)) (SB_book (SB_set_forest x g8)) ++ (wWb cI cJ (fun i => A (i + 1)) (SB_now (SB_set_forest x g8)))) (post := (((oSB cI cJ A (SB_set_forest x g8)) ++ ((oWb cI cJ (fun i => A (i + 24)) (SB_trial (SB_set_forest x g8))) ++ ((wNm cI cJ 32 (fun i => A (i + 32)) (Wb_blocks (SB_trial (SB_set_forest x g8)))) ++ ((wNm cI cJ 32 (fun i => A (i + 37)) (Wb_lands (SB_trial (SB_set_forest x g8)))) ++ ((wNm cI cJ 64 (fun i => A (i + 42)) (Wb_parts (SB_trial (SB_set_forest x g8)))) ++ ((wFo cI cJ (fun i => A (i + 47)) (SB_forest (SB_set_forest x g8))) ++ (wRo cI cJ (fun i => A (i + 64)) (SB_round (SB_set_forest x g8))))))))))) (w1 := wPb cI cJ (fun i => A (i + 59)) g19 ++ (wWb cI cJ (fun i => A (i + 1)) (SB_now (SB_set_forest x g8)))) rfl hPx hDx hS hA (va_runV (As := [.ref (A 1)]) (rest := []) ⟨hx, hb, hml, hown, hts⟩ (c_X2_read l dC dI cI cJ (fun i => A (i + 59)) (fun i => A (i + 1)) H.size (SB_book (SB_set_forest x g8)) (SB_now (SB_set_forest x g8)) _ hc) (cwV 1 hts (gw_V wd_7_2 wd_6_23 wd_7_0 wd_7_1 wd_1_23) rfl rfl rfl qX2_read ⟨Nat.le_of_ble_eq_true rfl, Nat.le_of_ble_eq_true rfl⟩) (kg_preVW (ci := 2) (q := (RX2, TX2, 7)) (q0 := 0) (kg_cutP hPx) (kg_cutD hDx) hK hN rfl rfl) rfl rfl hl.1 rfl (lv_room (Nat.le_of_ble_eq_true rfl)) dX5_readAgain_19 ⟨Nat.zero_le _, Nat.zero_le _⟩) (fun H locs hP hD hS => ?_)
  have hP : va_P (dC, dI) vwCl (wSB cI cJ A (SB_set_book (SB_set_forest x g8) g19)) H := hP.sub [28, 5, 6, 7, 8, 9, 10, 11, 12, 13, 14, 15, 16, 17, 18, 19, 20, 21, 22, 23, 24, 25, 26, 27, 29, 30, 31, 32, 33, 34, 35, 36, 37, 38, 39, 40, 41, 42, 43, 44, 45, 46, 47, 48, 49, 50, 51, 52, 53, 54, 55, 56, 57, 58, 59, 60, 61, 62, 63, 0, 1, 2, 3, 4, 64, 65] rfl
  have hD : va_D Q (wSB cI cJ A (SB_set_book (SB_set_forest x g8) g19)) := hD.sub [28, 5, 6, 7, 8, 9, 10, 11, 12, 13, 14, 15, 16, 17, 18, 19, 20, 21, 22, 23, 24, 25, 26, 27, 29, 30, 31, 32, 33, 34, 35, 36, 37, 38, 39, 40, 41, 42, 43, 44, 45, 46, 47, 48, 49, 50, 51, 52, 53, 54, 55, 56, 57, 58, 59, 60, 61, 62, 63, 0, 1, 2, 3, 4, 64, 65] (by decide) rfl
  obtain rfl := Option.some.inj hf
  exact kg_vretW hx hb hr hlk hP hD hS dX5_readAgain_22
set_option maxHeartbeats 4000000 in
set_option maxRecDepth 100000 in
theorem c_X5_nodes (l : Launch) (dC : Nat → ClassId) (dI : Nat → Nat → Nat) (cI cJ : ClassId) (A : Nat → Nat) (hq : Nat) (x : SBS) (v1 : Int32) (r0 : (Bool × SBS)) (hf : SB_m_nodes x v1 = some r0) : MWi l yX5_nodes (wAll yX5_nodes cX5_nodes 2 (some .boolean)) ({ frames := 5, cells := 0, slots := 0, locals := 129 } : Room) [.ref (A 0), .int v1] hq (dC, dI) (vTy cI cJ) (wSB cI cJ A x) (wSB cI cJ A r0.2) (b2i r0.1) := by
  refine kg_metW (Qc := fun Q => QWi (dC, dI) Q (wSB cI cJ A r0.2) (b2i r0.1)) (cc := cX5_nodes) (maxL := 2) (ret := (some .boolean)) (by decide) rfl (Nat.le_of_ble_eq_true rfl) ?_
  intro p e s m args below meth c Q hx hb hr hts hown hlk hml hP hK hN hD hA hS ls hl
  have hl : lv_has ls 2 [(0, .ref (A 0)), (1, .int v1)] := hl
  have ww0 := hts (.fieldLink RX5 12 "SafeBlocks" "now" "LSafeBlocks$Web;") (List.mem_cons_of_mem _ wd_1_15)
  have hiX5 : ∀ w ∈ u_ws RX5 TX5 6, w ∈ wAll yX5_nodes cX5_nodes 2 (some .boolean) := fun w h => List.mem_cons_of_mem _ (inlX5 w h)
  suffices hgo : ∀ (H : Heap) (locs : List Loc), va_P (dC, dI) vwCl (wSB cI cJ A x) H → va_S Q s.heap H locs → W p l e ({ frames := 5, cells := 0, slots := 0, locals := 129 } : Room) s m args below meth c H locs 0 0 (MQ below (QWi (dC, dI) Q (wSB cI cJ A r0.2) (b2i r0.1)) args s 0 0 Q) (F0 m 0 ls []) from hgo _ _ hP hS
  clear hP hS
  intro H locs hP hS
  unfold SB_m_nodes at hf
  refine lv_iload_n hx hb dX5_nodes_0 rfl (lv_at hl 1 rfl) ?_
  refine lv_iconst (v := 2) hx hb dX5_nodes_1 (by decide) ?_
  refine kg_icmp_lt (tgt := 11) hx hb hf dX5_nodes_2 (by decide) (fun hc hf => ?_) (fun hc hf => ?_)
  · refine lv_iconst (v := 0) hx hb dX5_nodes_11 (by decide) ?_
    obtain rfl := Option.some.inj hf
    exact kg_zretW (b := false) hx hb hr hlk rfl rfl hP hD hS dX5_nodes_12
  · refine lv_iload_n hx hb dX5_nodes_5 rfl (lv_at hl 1 rfl) ?_
    refine lv_bipush (v := 32) hx hb dX5_nodes_6 (by decide) ?_
    refine kg_icmp_le (tgt := 13) hx hb hf dX5_nodes_8 (by decide) (fun hc hf => ?_) (fun hc hf => ?_)
    · refine lv_aload_n hx hb dX5_nodes_13 rfl (lv_at hl 0 rfl) ?_
      refine va_get (D := (dC, dI)) (ci := 5) (v := .ref (A 1)) (C := RX5) (T := TX5) (N := 6) hx hb hts hiX5 hown hK hP 0 rfl rfl 0 (by decide) ww0 (fun _ h9 => h9) rfl dX5_nodes_14 ?_
      refine lv_iload_n hx hb dX5_nodes_17 rfl (lv_at hl 1 rfl) ?_
      obtain ⟨g18, hc, hf⟩ := ob_bind hf
      have hPx := kg_eqP (sp_SB_now cI cJ A x) hP
      have hDx := kg_eqD (sp_SB_now cI cJ A x) hD
      refine kg_retWv (pre := (oSB cI cJ A x)) (wc := wWb cI cJ (fun i => A (i + 1)) (SB_now x)) (post := (oWb cI cJ (fun i => A (i + 24)) (SB_trial x)) ++ ((wNm cI cJ 32 (fun i => A (i + 32)) (Wb_blocks (SB_trial x))) ++ ((wNm cI cJ 32 (fun i => A (i + 37)) (Wb_lands (SB_trial x))) ++ ((wNm cI cJ 64 (fun i => A (i + 42)) (Wb_parts (SB_trial x))) ++ ((wFo cI cJ (fun i => A (i + 47)) (SB_forest x)) ++ ((wPb cI cJ (fun i => A (i + 59)) (SB_book x)) ++ ((wRo cI cJ (fun i => A (i + 64)) (SB_round x))))))))) (w1 := wWb cI cJ (fun i => A (i + 1)) g18) (wz := (wSB cI cJ A (SB_set_now x g18))) (sj_SB_now _ _ _ _ _) hPx hDx hS hA (va_runV (As := [.int v1]) (rest := []) ⟨hx, hb, hml, hown, hts⟩ (c_X4_clear l dC dI cI cJ (fun i => A (i + 1)) H.size (SB_now x) v1 _ hc) (cwV 1 hts (gw_V wd_5_1 wd_4_22 wd_4_23 wd_5_0 wd_1_14) rfl rfl rfl qX4_clear ⟨Nat.le_of_ble_eq_true rfl, Nat.le_of_ble_eq_true rfl⟩) (kg_preVW (ci := 4) (q := (RX4, TX4, 16)) (q0 := 0) (kg_cutP hPx) (kg_cutD hDx) hK hN rfl rfl) rfl rfl hl.1 rfl (lv_room (Nat.le_of_ble_eq_true rfl)) dX5_nodes_18 ⟨Nat.zero_le _, Nat.zero_le _⟩) (fun H locs hP hD hS => ?_)
      refine lv_aload_n hx hb dX5_nodes_21 rfl (lv_at hl 0 rfl) ?_
      obtain ⟨g22, hc, hf⟩ := ob_bind hf
      have hPx := kg_eqP (kg_slf _) hP
      have hDx := kg_eqD (kg_slf _) hD
      refine kg_retWv (pre := ([] : va_W)) (wc := wSB cI cJ A (SB_set_now x g18)) (post := ([] : va_W)) (w1 := wSB cI cJ A g22) (wz := (wSB cI cJ A g22)) (kg_slf _).symm hPx hDx hS hA (va_runV (As := []) (rest := []) ⟨hx, hb, hml, hown, hts⟩ (c_X5_readAgain l dC dI cI cJ A H.size (SB_set_now x g18) _ hc) (cwV 0 hts (gw_V wd_5_13 wd_5_10 wd_5_11 wd_5_12 wd_1_2) rfl rfl rfl qX5_readAgain ⟨Nat.le_of_ble_eq_true rfl, Nat.le_of_ble_eq_true rfl⟩) (kg_preVW (ci := 5) (q := (RX5, TX5, 6)) (q0 := 0) (kg_cutP hPx) (kg_cutD hDx) hK hN rfl rfl) rfl rfl hl.1 rfl (lv_room (Nat.le_of_ble_eq_true rfl)) dX5_nodes_22 ⟨Nat.zero_le _, Nat.zero_le _⟩) (fun H locs hP hD hS => ?_)
      refine lv_iconst (v := 1) hx hb dX5_nodes_25 (by decide) ?_
      obtain rfl := Option.some.inj hf
      exact kg_zretW (b := true) hx hb hr hlk rfl rfl hP hD hS dX5_nodes_26
    · refine lv_iconst (v := 0) hx hb dX5_nodes_11 (by decide) ?_
      obtain rfl := Option.some.inj hf
      exact kg_zretW (b := false) hx hb hr hlk rfl rfl hP hD hS dX5_nodes_12
set_option maxHeartbeats 4000000 in
set_option maxRecDepth 100000 in
theorem c_X5_link (l : Launch) (dC : Nat → ClassId) (dI : Nat → Nat → Nat) (cI cJ : ClassId) (A : Nat → Nat) (hq : Nat) (x : SBS) (v1 : Int32) (v2 : Int32) (r0 : (Int32 × SBS)) (hf : SB_m_link x v1 v2 = some r0) : MWi l yX5_link (wAll yX5_link cX5_link 4 (some .int)) ({ frames := 6, cells := 0, slots := 0, locals := 164 } : Room) [.ref (A 0), .int v1, .int v2] hq (dC, dI) (vTy cI cJ) (wSB cI cJ A x) (wSB cI cJ A r0.2) r0.1 := by
  refine kg_metW (Qc := fun Q => QWi (dC, dI) Q (wSB cI cJ A r0.2) r0.1) (cc := cX5_link) (maxL := 4) (ret := (some .int)) (by decide) rfl (Nat.le_of_ble_eq_true rfl) ?_
  intro p e s m args below meth c Q hx hb hr hts hown hlk hml hP hK hN hD hA hS ls hl
  have hl : lv_has ls 4 [(0, .ref (A 0)), (1, .int v1), (2, .int v2)] := hl
  have ww0 := hts (.fieldLink RX5 12 "SafeBlocks" "now" "LSafeBlocks$Web;") (List.mem_cons_of_mem _ wd_1_15)
  have ww1 := hts (.fieldLink RX5 55 "SafeBlocks$Web" "links" "I") (List.mem_cons_of_mem _ wd_9_15)
  have hiX5 : ∀ w ∈ u_ws RX5 TX5 6, w ∈ wAll yX5_link cX5_link 4 (some .int) := fun w h => List.mem_cons_of_mem _ (inlX5 w h)
  have hiX4 : ∀ w ∈ u_ws RX4 TX4 16, w ∈ wAll yX5_link cX5_link 4 (some .int) := fun w h => List.mem_cons_of_mem _ (inlX4 w h)
  suffices hgo : ∀ (H : Heap) (locs : List Loc), va_P (dC, dI) vwCl (wSB cI cJ A x) H → va_S Q s.heap H locs → W p l e ({ frames := 6, cells := 0, slots := 0, locals := 164 } : Room) s m args below meth c H locs 0 0 (MQ below (QWi (dC, dI) Q (wSB cI cJ A r0.2) r0.1) args s 0 0 Q) (F0 m 0 ls []) from hgo _ _ hP hS
  clear hP hS
  intro H locs hP hS
  unfold SB_m_link at hf
  refine lv_aload_n hx hb dX5_link_0 rfl (lv_at hl 0 rfl) ?_
  refine lv_iload_n hx hb dX5_link_1 rfl (lv_at hl 1 rfl) ?_
  refine lv_iload_n hx hb dX5_link_2 rfl (lv_at hl 2 rfl) ?_
  obtain ⟨g3, hc, hf⟩ := ob_bind hf
  have hPc : va_P (dC, dI) vwCl (wSB cI cJ A x) H := hP
  refine kg_retRi (va_runV (As := [.int v1, .int v2]) (rest := []) ⟨hx, hb, hml, hown, hts⟩ (c_X5_areTwoNodes l dC dI cI cJ A H x v1 v2 _ hc) (cwV 2 hts (gw_V wd_9_19 wd_9_16 wd_9_17 wd_9_18 wd_1_2) rfl rfl rfl qX5_areTwoNodes ⟨Nat.le_of_ble_eq_true rfl, Nat.le_of_ble_eq_true rfl⟩) (kg_preVR (ci := 5) (q := (RX5, TX5, 6)) (q0 := 0) hPc hK hN rfl rfl) rfl rfl hl.1 rfl (lv_room (Nat.le_of_ble_eq_true rfl)) dX5_link_3 ⟨Nat.zero_le _, Nat.zero_le _⟩) ?_
  refine kg_b_eq (tgt := 21) hx hb hf dX5_link_6 (by decide) (fun hc hf => ?_) (fun hc hf => ?_)
  · refine lv_iconst (v := (-1)) hx hb dX5_link_21 (by decide) ?_
    obtain rfl := Option.some.inj hf
    exact kg_iretW hx hb hr hlk rfl hP hD hS dX5_link_22
  · refine lv_aload_n hx hb dX5_link_9 rfl (lv_at hl 0 rfl) ?_
    refine va_get (D := (dC, dI)) (ci := 5) (v := .ref (A 1)) (C := RX5) (T := TX5) (N := 6) hx hb hts hiX5 hown hK hP 0 rfl rfl 0 (by decide) ww0 (fun _ h9 => h9) rfl dX5_link_10 ?_
    refine va_get (D := (dC, dI)) (ci := 4) (v := .int (Wb_links (SB_now x))) (C := RX4) (T := TX4) (N := 16) hx hb hts hiX4 hown hK hP 1 rfl rfl 11 (by decide) ww1 (fun _ h9 => h9) rfl dX5_link_13 ?_
    refine lv_bipush (v := 64) hx hb dX5_link_16 (by decide) ?_
    refine kg_icmp_lt (tgt := 23) hx hb hf dX5_link_18 (by decide) (fun hc hf => ?_) (fun hc hf => ?_)
    · refine lv_aload_n hx hb dX5_link_23 rfl (lv_at hl 0 rfl) ?_
      refine va_get (D := (dC, dI)) (ci := 5) (v := .ref (A 1)) (C := RX5) (T := TX5) (N := 6) hx hb hts hiX5 hown hK hP 0 rfl rfl 0 (by decide) ww0 (fun _ h9 => h9) rfl dX5_link_24 ?_
      refine lv_iload_n hx hb dX5_link_27 rfl (lv_at hl 1 rfl) ?_
      refine lv_iload_n hx hb dX5_link_28 rfl (lv_at hl 2 rfl) ?_
      obtain ⟨g29, hc, hf⟩ := ob_bind hf
      have hPx := kg_eqP (sp_SB_now cI cJ A x) hP
      have hDx := kg_eqD (sp_SB_now cI cJ A x) hD
      refine kg_retWi (pre := (oSB cI cJ A x)) (wc := wWb cI cJ (fun i => A (i + 1)) (SB_now x)) (post := (oWb cI cJ (fun i => A (i + 24)) (SB_trial x)) ++ ((wNm cI cJ 32 (fun i => A (i + 32)) (Wb_blocks (SB_trial x))) ++ ((wNm cI cJ 32 (fun i => A (i + 37)) (Wb_lands (SB_trial x))) ++ ((wNm cI cJ 64 (fun i => A (i + 42)) (Wb_parts (SB_trial x))) ++ ((wFo cI cJ (fun i => A (i + 47)) (SB_forest x)) ++ ((wPb cI cJ (fun i => A (i + 59)) (SB_book x)) ++ ((wRo cI cJ (fun i => A (i + 64)) (SB_round x))))))))) (w1 := wWb cI cJ (fun i => A (i + 1)) g29.2) (wz := (wSB cI cJ A (SB_set_now x g29.2))) (sj_SB_now _ _ _ _ _) hPx hDx hS hA (va_runV (As := [.int v1, .int v2]) (rest := []) ⟨hx, hb, hml, hown, hts⟩ (c_X4_add l dC dI cI cJ (fun i => A (i + 1)) H.size (SB_now x) v1 v2 _ hc) (cwV 2 hts (gw_V wd_10_4 wd_10_1 wd_10_2 wd_10_3 wd_1_14) rfl rfl rfl qX4_add ⟨Nat.le_of_ble_eq_true rfl, Nat.le_of_ble_eq_true rfl⟩) (kg_preVW (ci := 4) (q := (RX4, TX4, 16)) (q0 := 0) (kg_cutP hPx) (kg_cutD hDx) hK hN rfl rfl) rfl rfl hl.1 rfl (lv_room (Nat.le_of_ble_eq_true rfl)) dX5_link_29 ⟨Nat.zero_le _, Nat.zero_le _⟩) (fun H locs hP hD hS => ?_)
      refine lv_istore_n (lv' := [(3, .int g29.1), (0, .ref (A 0)), (1, .int v1), (2, .int v2)]) hx hb dX5_link_32 rfl hl (by decide) rfl (fun ls hl => ?_)
      refine lv_aload_n hx hb dX5_link_33 rfl (lv_at hl 1 rfl) ?_
      obtain ⟨g34, hc, hf⟩ := ob_bind hf
      have hPx := kg_eqP (kg_slf _) hP
      have hDx := kg_eqD (kg_slf _) hD
      refine kg_retWv (pre := ([] : va_W)) (wc := wSB cI cJ A (SB_set_now x g29.2)) (post := ([] : va_W)) (w1 := wSB cI cJ A g34) (wz := (wSB cI cJ A g34)) (kg_slf _).symm hPx hDx hS hA (va_runV (As := []) (rest := []) ⟨hx, hb, hml, hown, hts⟩ (c_X5_readAgain l dC dI cI cJ A H.size (SB_set_now x g29.2) _ hc) (cwV 0 hts (gw_V wd_5_13 wd_5_10 wd_5_11 wd_5_12 wd_1_2) rfl rfl rfl qX5_readAgain ⟨Nat.le_of_ble_eq_true rfl, Nat.le_of_ble_eq_true rfl⟩) (kg_preVW (ci := 5) (q := (RX5, TX5, 6)) (q0 := 0) (kg_cutP hPx) (kg_cutD hDx) hK hN rfl rfl) rfl rfl hl.1 rfl (lv_room (Nat.le_of_ble_eq_true rfl)) dX5_link_34 ⟨Nat.zero_le _, Nat.zero_le _⟩) (fun H locs hP hD hS => ?_)
      refine lv_iload_n hx hb dX5_link_37 rfl (lv_at hl 0 rfl) ?_
      obtain rfl := Option.some.inj hf
      exact kg_iretW hx hb hr hlk rfl hP hD hS dX5_link_38
    · refine lv_iconst (v := (-1)) hx hb dX5_link_21 (by decide) ?_
      obtain rfl := Option.some.inj hf
      exact kg_iretW hx hb hr hlk rfl hP hD hS dX5_link_22
set_option maxHeartbeats 4000000 in
set_option maxRecDepth 100000 in
theorem c_X5_undo (l : Launch) (dC : Nat → ClassId) (dI : Nat → Nat → Nat) (cI cJ : ClassId) (A : Nat → Nat) (hq : Nat) (x : SBS) (v1 : Int32) (r0 : (Int32 × SBS)) (hf : SB_m_undo x v1 = some r0) : MWi l yX5_undo (wAll yX5_undo cX5_undo 2 (some .int)) ({ frames := 7, cells := 0, slots := 0, locals := 186 } : Room) [.ref (A 0), .int v1] hq (dC, dI) (vTy cI cJ) (wSB cI cJ A x) (wSB cI cJ A r0.2) r0.1 := by
  refine kg_metW (Qc := fun Q => QWi (dC, dI) Q (wSB cI cJ A r0.2) r0.1) (cc := cX5_undo) (maxL := 2) (ret := (some .int)) (by decide) rfl (Nat.le_of_ble_eq_true rfl) ?_
  intro p e s m args below meth c Q hx hb hr hts hown hlk hml hP hK hN hD hA hS ls hl
  have hl : lv_has ls 2 [(0, .ref (A 0)), (1, .int v1)] := hl
  have ww0 := hts (.fieldLink RX5 12 "SafeBlocks" "now" "LSafeBlocks$Web;") (List.mem_cons_of_mem _ wd_1_15)
  have ww1 := hts (.fieldLink RX5 55 "SafeBlocks$Web" "links" "I") (List.mem_cons_of_mem _ wd_9_15)
  have hiX5 : ∀ w ∈ u_ws RX5 TX5 6, w ∈ wAll yX5_undo cX5_undo 2 (some .int) := fun w h => List.mem_cons_of_mem _ (inlX5 w h)
  have hiX4 : ∀ w ∈ u_ws RX4 TX4 16, w ∈ wAll yX5_undo cX5_undo 2 (some .int) := fun w h => List.mem_cons_of_mem _ (inlX4 w h)
  suffices hgo : ∀ (H : Heap) (locs : List Loc), va_P (dC, dI) vwCl (wSB cI cJ A x) H → va_S Q s.heap H locs → W p l e ({ frames := 7, cells := 0, slots := 0, locals := 186 } : Room) s m args below meth c H locs 0 0 (MQ below (QWi (dC, dI) Q (wSB cI cJ A r0.2) r0.1) args s 0 0 Q) (F0 m 0 ls []) from hgo _ _ hP hS
  clear hP hS
  intro H locs hP hS
  unfold SB_m_undo at hf
  have hj41 : ∀ (x : SBS), SB_m_undo_j41 x = some r0 → ∀ (H : Heap) (locs : List Loc) (ls : Array Slot), va_P (dC, dI) vwCl (wSB cI cJ A x) H → va_D Q (wSB cI cJ A x) → va_S Q s.heap H locs → lv_has ls 2 [(0, .ref (A 0))] → W p l e ({ frames := 7, cells := 0, slots := 0, locals := 186 } : Room) s m args below meth c H locs 0 0 (MQ below (QWi (dC, dI) Q (wSB cI cJ A r0.2) r0.1) args s 0 0 Q) (F0 m 41 ls []) := by
    intro x hf H locs ls hP hD hS hl
    unfold SB_m_undo_j41 at hf
    refine lv_aload_n hx hb dX5_undo_41 rfl (lv_at hl 0 rfl) ?_
    refine va_get (D := (dC, dI)) (ci := 5) (v := .ref (A 1)) (C := RX5) (T := TX5) (N := 6) hx hb hts hiX5 hown hK hP 0 rfl rfl 0 (by decide) ww0 (fun _ h9 => h9) rfl dX5_undo_42 ?_
    refine va_get (D := (dC, dI)) (ci := 4) (v := .int (Wb_links (SB_now x))) (C := RX4) (T := TX4) (N := 16) hx hb hts hiX4 hown hK hP 1 rfl rfl 11 (by decide) ww1 (fun _ h9 => h9) rfl dX5_undo_45 ?_
    obtain rfl := Option.some.inj hf
    exact kg_iretW hx hb hr hlk rfl hP hD hS dX5_undo_48
  refine lv_iload_n hx hb dX5_undo_0 rfl (lv_at hl 1 rfl) ?_
  refine kg_if_lt (tgt := 15) hx hb hf dX5_undo_1 (by decide) (fun hc hf => ?_) (fun hc hf => ?_)
  · refine lv_iconst (v := (-1)) hx hb dX5_undo_15 (by decide) ?_
    obtain rfl := Option.some.inj hf
    exact kg_iretW hx hb hr hlk rfl hP hD hS dX5_undo_16
  · refine lv_iload_n hx hb dX5_undo_4 rfl (lv_at hl 1 rfl) ?_
    refine lv_aload_n hx hb dX5_undo_5 rfl (lv_at hl 0 rfl) ?_
    refine va_get (D := (dC, dI)) (ci := 5) (v := .ref (A 1)) (C := RX5) (T := TX5) (N := 6) hx hb hts hiX5 hown hK hP 0 rfl rfl 0 (by decide) ww0 (fun _ h9 => h9) rfl dX5_undo_6 ?_
    refine va_get (D := (dC, dI)) (ci := 4) (v := .int (Wb_links (SB_now x))) (C := RX4) (T := TX4) (N := 16) hx hb hts hiX4 hown hK hP 1 rfl rfl 11 (by decide) ww1 (fun _ h9 => h9) rfl dX5_undo_9 ?_
    refine kg_icmp_le (tgt := 17) hx hb hf dX5_undo_12 (by decide) (fun hc hf => ?_) (fun hc hf => ?_)
    · refine lv_iload_n hx hb dX5_undo_17 rfl (lv_at hl 1 rfl) ?_
      refine kg_if_le (tgt := 41) hx hb hf dX5_undo_18 (by decide) (fun hc hf => ?_) (fun hc hf => ?_)
      · exact hj41 x hf _ _ _ hP hD hS (lv_sub hl [0] rfl)
      · refine lv_aload_n hx hb dX5_undo_21 rfl (lv_at hl 0 rfl) ?_
        refine va_get (D := (dC, dI)) (ci := 5) (v := .ref (A 1)) (C := RX5) (T := TX5) (N := 6) hx hb hts hiX5 hown hK hP 0 rfl rfl 0 (by decide) ww0 (fun _ h9 => h9) rfl dX5_undo_22 ?_
        refine lv_aload_n hx hb dX5_undo_25 rfl (lv_at hl 0 rfl) ?_
        refine va_get (D := (dC, dI)) (ci := 5) (v := .ref (A 1)) (C := RX5) (T := TX5) (N := 6) hx hb hts hiX5 hown hK hP 0 rfl rfl 0 (by decide) ww0 (fun _ h9 => h9) rfl dX5_undo_26 ?_
        refine va_get (D := (dC, dI)) (ci := 4) (v := .int (Wb_links (SB_now x))) (C := RX4) (T := TX4) (N := 16) hx hb hts hiX4 hown hK hP 1 rfl rfl 11 (by decide) ww1 (fun _ h9 => h9) rfl dX5_undo_29 ?_
        refine lv_iload_n hx hb dX5_undo_32 rfl (lv_at hl 1 rfl) ?_
        refine lv_isub hx hb dX5_undo_33 ?_
        obtain ⟨g34, hc, hf⟩ := ob_bind hf
        have hPx := kg_eqP (sp_SB_now cI cJ A x) hP
        have hDx := kg_eqD (sp_SB_now cI cJ A x) hD
        refine kg_retWv (pre := (oSB cI cJ A x)) (wc := wWb cI cJ (fun i => A (i + 1)) (SB_now x)) (post := (oWb cI cJ (fun i => A (i + 24)) (SB_trial x)) ++ ((wNm cI cJ 32 (fun i => A (i + 32)) (Wb_blocks (SB_trial x))) ++ ((wNm cI cJ 32 (fun i => A (i + 37)) (Wb_lands (SB_trial x))) ++ ((wNm cI cJ 64 (fun i => A (i + 42)) (Wb_parts (SB_trial x))) ++ ((wFo cI cJ (fun i => A (i + 47)) (SB_forest x)) ++ ((wPb cI cJ (fun i => A (i + 59)) (SB_book x)) ++ ((wRo cI cJ (fun i => A (i + 64)) (SB_round x))))))))) (w1 := wWb cI cJ (fun i => A (i + 1)) g34) (wz := (wSB cI cJ A (SB_set_now x g34))) (sj_SB_now _ _ _ _ _) hPx hDx hS hA (va_runV (As := [.int ((Wb_links (SB_now x)) - v1)]) (rest := []) ⟨hx, hb, hml, hown, hts⟩ (c_X4_growAgain l dC dI cI cJ (fun i => A (i + 1)) H.size (SB_now x) ((Wb_links (SB_now x)) - v1) _ hc) (cwV 1 hts (gw_V wd_15_21 wd_15_18 wd_15_19 wd_15_20 wd_1_14) rfl rfl rfl qX4_growAgain ⟨Nat.le_of_ble_eq_true rfl, Nat.le_of_ble_eq_true rfl⟩) (kg_preVW (ci := 4) (q := (RX4, TX4, 16)) (q0 := 0) (kg_cutP hPx) (kg_cutD hDx) hK hN rfl rfl) rfl rfl hl.1 rfl (lv_room (Nat.le_of_ble_eq_true rfl)) dX5_undo_34 ⟨Nat.zero_le _, Nat.zero_le _⟩) (fun H locs hP hD hS => ?_)
        refine lv_aload_n hx hb dX5_undo_37 rfl (lv_at hl 0 rfl) ?_
        obtain ⟨g38, hc, hf⟩ := ob_bind hf
        have hPx := kg_eqP (kg_slf _) hP
        have hDx := kg_eqD (kg_slf _) hD
        refine kg_retWv (pre := ([] : va_W)) (wc := wSB cI cJ A (SB_set_now x g34)) (post := ([] : va_W)) (w1 := wSB cI cJ A g38) (wz := (wSB cI cJ A g38)) (kg_slf _).symm hPx hDx hS hA (va_runV (As := []) (rest := []) ⟨hx, hb, hml, hown, hts⟩ (c_X5_readAgain l dC dI cI cJ A H.size (SB_set_now x g34) _ hc) (cwV 0 hts (gw_V wd_5_13 wd_5_10 wd_5_11 wd_5_12 wd_1_2) rfl rfl rfl qX5_readAgain ⟨Nat.le_of_ble_eq_true rfl, Nat.le_of_ble_eq_true rfl⟩) (kg_preVW (ci := 5) (q := (RX5, TX5, 6)) (q0 := 0) (kg_cutP hPx) (kg_cutD hDx) hK hN rfl rfl) rfl rfl hl.1 rfl (lv_room (Nat.le_of_ble_eq_true rfl)) dX5_undo_38 ⟨Nat.zero_le _, Nat.zero_le _⟩) (fun H locs hP hD hS => ?_)
        exact hj41 g38 hf _ _ _ hP hD hS (lv_sub hl [0] rfl)
    · refine lv_iconst (v := (-1)) hx hb dX5_undo_15 (by decide) ?_
      obtain rfl := Option.some.inj hf
      exact kg_iretW hx hb hr hlk rfl hP hD hS dX5_undo_16
set_option maxHeartbeats 4000000 in
set_option maxRecDepth 100000 in
theorem c_X5_draw (l : Launch) (dC : Nat → ClassId) (dI : Nat → Nat → Nat) (cI cJ : ClassId) (A : Nat → Nat) (hq : Nat) (x : SBS) (v1 : Int32) (r0 : (Int32 × SBS)) (hf : SB_m_draw x v1 = some r0) : MWi l yX5_draw (wAll yX5_draw cX5_draw 2 (some .int)) ({ frames := 1, cells := 0, slots := 0, locals := 40 } : Room) [.ref (A 0), .int v1] hq (dC, dI) (vTy cI cJ) (wSB cI cJ A x) (wSB cI cJ A r0.2) r0.1 := by
  refine kg_metW (Qc := fun Q => QWi (dC, dI) Q (wSB cI cJ A r0.2) r0.1) (cc := cX5_draw) (maxL := 2) (ret := (some .int)) (by decide) rfl (Nat.le_of_ble_eq_true rfl) ?_
  intro p e s m args below meth c Q hx hb hr hts hown hlk hml hP hK hN hD hA hS ls hl
  have hl : lv_has ls 2 [(0, .ref (A 0)), (1, .int v1)] := hl
  have ww0 := hts (.fieldLink RX5 40 "SafeBlocks" "drawn" "I") (List.mem_cons_of_mem _ wd_2_5)
  have ww1 := hts (.constant RX5 72 (1664525)) (List.mem_cons_of_mem _ wd_16_12)
  have ww2 := hts (.constant RX5 73 (1013904223)) (List.mem_cons_of_mem _ wd_16_13)
  have hiX5 : ∀ w ∈ u_ws RX5 TX5 6, w ∈ wAll yX5_draw cX5_draw 2 (some .int) := fun w h => List.mem_cons_of_mem _ (inlX5 w h)
  suffices hgo : ∀ (H : Heap) (locs : List Loc), va_P (dC, dI) vwCl (wSB cI cJ A x) H → va_S Q s.heap H locs → W p l e ({ frames := 1, cells := 0, slots := 0, locals := 40 } : Room) s m args below meth c H locs 0 0 (MQ below (QWi (dC, dI) Q (wSB cI cJ A r0.2) r0.1) args s 0 0 Q) (F0 m 0 ls []) from hgo _ _ hP hS
  clear hP hS
  intro H locs hP hS
  unfold SB_m_draw at hf
  refine lv_aload_n hx hb dX5_draw_0 rfl (lv_at hl 0 rfl) ?_
  refine lv_aload_n hx hb dX5_draw_1 rfl (lv_at hl 0 rfl) ?_
  refine va_get (D := (dC, dI)) (ci := 5) (v := .int (SB_drawn x)) (C := RX5) (T := TX5) (N := 6) hx hb hts hiX5 hown hK hP 0 rfl rfl 5 (by decide) ww0 (fun _ h9 => h9) rfl dX5_draw_2 ?_
  refine lv_ldc (v := 1664525) hx hb hown ww1 dX5_draw_5 ?_
  refine lv_imul hx hb dX5_draw_7 ?_
  refine lv_ldc (v := 1013904223) hx hb hown ww2 dX5_draw_8 ?_
  refine lv_iadd hx hb dX5_draw_10 ?_
  refine kg_put (ci := 5) (v := .int (((SB_drawn x) * 1664525) + 1013904223)) (ty := .int) (C := RX5) (T := TX5) (N := 6) (wz := (wSB cI cJ A (SB_set_drawn x (((SB_drawn x) * 1664525) + 1013904223)))) hx hb hts hiX5 tyX5 tyX5_ok nmX5 hown hK hP hD hS 0 rfl rfl 5 (by decide) ww0 (fun _ h9 => h9) rfl (tyX5_ok 5 (by decide)) rfl rfl (Nat.le_of_ble_eq_true rfl) dX5_draw_11 (sc_SB_drawn _ _ _ _ _) (fun H locs hP hD hS => ?_)
  refine lv_iload_n hx hb dX5_draw_14 rfl (lv_at hl 1 rfl) ?_
  refine lv_iconst (v := 1) hx hb dX5_draw_15 (by decide) ?_
  refine kg_icmp_ge (tgt := 23) hx hb hf dX5_draw_16 (by decide) (fun hc hf => ?_) (fun hc hf => ?_)
  · refine lv_aload_n hx hb dX5_draw_23 rfl (lv_at hl 0 rfl) ?_
    refine va_get (D := (dC, dI)) (ci := 5) (v := .int (SB_drawn (SB_set_drawn x (((SB_drawn x) * 1664525) + 1013904223)))) (C := RX5) (T := TX5) (N := 6) hx hb hts hiX5 hown hK hP 0 rfl rfl 5 (by decide) ww0 (fun _ h9 => h9) rfl dX5_draw_24 ?_
    refine lv_bipush (v := 8) hx hb dX5_draw_27 (by decide) ?_
    refine lv_iushr hx hb dX5_draw_29 rfl ?_
    refine lv_iload_n hx hb dX5_draw_30 rfl (lv_at hl 1 rfl) ?_
    obtain ⟨g31, hv, hf⟩ := ob_bind hf
    refine kg_irem hx hb hv dX5_draw_31 ?_
    obtain rfl := Option.some.inj hf
    exact kg_iretW hx hb hr hlk rfl hP hD hS dX5_draw_32
  · refine lv_iconst (v := 0) hx hb dX5_draw_19 (by decide) ?_
    refine lv_goto (tgt := 32) hx hb dX5_draw_20 (by decide) ?_
    obtain rfl := Option.some.inj hf
    exact kg_iretW hx hb hr hlk rfl hP hD hS dX5_draw_32
set_option maxHeartbeats 4000000 in
set_option maxRecDepth 100000 in
theorem c_X5_rain (l : Launch) (dC : Nat → ClassId) (dI : Nat → Nat → Nat) (cI cJ : ClassId) (A : Nat → Nat) (hq : Nat) (x : SBS) (v1 : Int32) (r0 : (Int32 × SBS)) (hf : SB_m_rain x v1 = some r0) : MWi l yX5_rain (wAll yX5_rain cX5_rain 5 (some .int)) ({ frames := 6, cells := 0, slots := 0, locals := 164 } : Room) [.ref (A 0), .int v1] hq (dC, dI) (vTy cI cJ) (wSB cI cJ A x) (wSB cI cJ A r0.2) r0.1 := by
  refine kg_metW (Qc := fun Q => QWi (dC, dI) Q (wSB cI cJ A r0.2) r0.1) (cc := cX5_rain) (maxL := 5) (ret := (some .int)) (by decide) rfl (Nat.le_of_ble_eq_true rfl) ?_
  intro p e s m args below meth c Q hx hb hr hts hown hlk hml hP hK hN hD hA hS ls hl
  have hl : lv_has ls 5 [(0, .ref (A 0)), (1, .int v1)] := hl
  have ww0 := hts (.fieldLink RX5 12 "SafeBlocks" "now" "LSafeBlocks$Web;") (List.mem_cons_of_mem _ wd_1_15)
  have ww1 := hts (.fieldLink RX5 55 "SafeBlocks$Web" "links" "I") (List.mem_cons_of_mem _ wd_9_15)
  have ww2 := hts (.fieldLink RX5 65 "SafeBlocks$Web" "nodes" "I") (List.mem_cons_of_mem _ wd_10_0)
  have hiX5 : ∀ w ∈ u_ws RX5 TX5 6, w ∈ wAll yX5_rain cX5_rain 5 (some .int) := fun w h => List.mem_cons_of_mem _ (inlX5 w h)
  have hiX4 : ∀ w ∈ u_ws RX4 TX4 16, w ∈ wAll yX5_rain cX5_rain 5 (some .int) := fun w h => List.mem_cons_of_mem _ (inlX4 w h)
  suffices hgo : ∀ (H : Heap) (locs : List Loc), va_P (dC, dI) vwCl (wSB cI cJ A x) H → va_S Q s.heap H locs → W p l e ({ frames := 6, cells := 0, slots := 0, locals := 164 } : Room) s m args below meth c H locs 0 0 (MQ below (QWi (dC, dI) Q (wSB cI cJ A r0.2) r0.1) args s 0 0 Q) (F0 m 0 ls []) from hgo _ _ hP hS
  clear hP hS
  intro H locs hP hS
  unfold SB_m_rain at hf
  refine lv_iload_n hx hb dX5_rain_0 rfl (lv_at hl 1 rfl) ?_
  refine lv_iconst (v := 1) hx hb dX5_rain_1 (by decide) ?_
  refine kg_icmp_lt (tgt := 19) hx hb hf dX5_rain_2 (by decide) (fun hc hf => ?_) (fun hc hf => ?_)
  · refine lv_iconst (v := (-1)) hx hb dX5_rain_19 (by decide) ?_
    obtain rfl := Option.some.inj hf
    exact kg_iretW hx hb hr hlk rfl hP hD hS dX5_rain_20
  · refine lv_iload_n hx hb dX5_rain_5 rfl (lv_at hl 1 rfl) ?_
    refine lv_bipush (v := 64) hx hb dX5_rain_6 (by decide) ?_
    refine lv_aload_n hx hb dX5_rain_8 rfl (lv_at hl 0 rfl) ?_
    refine va_get (D := (dC, dI)) (ci := 5) (v := .ref (A 1)) (C := RX5) (T := TX5) (N := 6) hx hb hts hiX5 hown hK hP 0 rfl rfl 0 (by decide) ww0 (fun _ h9 => h9) rfl dX5_rain_9 ?_
    refine va_get (D := (dC, dI)) (ci := 4) (v := .int (Wb_links (SB_now x))) (C := RX4) (T := TX4) (N := 16) hx hb hts hiX4 hown hK hP 1 rfl rfl 11 (by decide) ww1 (fun _ h9 => h9) rfl dX5_rain_12 ?_
    refine lv_isub hx hb dX5_rain_15 ?_
    refine kg_icmp_le (tgt := 21) hx hb hf dX5_rain_16 (by decide) (fun hc hf => ?_) (fun hc hf => ?_)
    · refine lv_iconst (v := 0) hx hb dX5_rain_21 (by decide) ?_
      refine lv_istore_n (lv' := [(2, .int 0), (0, .ref (A 0)), (1, .int v1)]) hx hb dX5_rain_22 rfl hl (by decide) rfl (fun ls hl => ?_)
      have hlp23 : ∀ (n : Nat) (x : SBS) (v2 : Int32), iter (fun p : SBS × Int32 => SB_m_rain_s23 v1 p.1 p.2) n (x, v2) = some r0 → ∀ (H : Heap) (locs : List Loc) (ls : Array Slot), va_P (dC, dI) vwCl (wSB cI cJ A x) H → va_D Q (wSB cI cJ A x) → va_S Q s.heap H locs → lv_has ls 5 [(0, .ref (A 0)), (1, .int v1), (2, .int v2)] → W p l e ({ frames := 6, cells := 0, slots := 0, locals := 164 } : Room) s m args below meth c H locs 0 0 (MQ below (QWi (dC, dI) Q (wSB cI cJ A r0.2) r0.1) args s 0 0 Q) (F0 m 23 ls []) := by
        intro  n
        induction n with
        | zero => intro x v2 hf; exact iter_zero hf
        | succ n ih1 =>
          intro x v2 hf H locs ls hP hD hS hl
          obtain ⟨q1, hf, hk1⟩ := iter_succ hf
          have hf : SB_m_rain_s23 v1 x v2 = some q1 := hf
          unfold SB_m_rain_s23 at hf
          have hj75 : ∀ (x : SBS) (v2 : Int32) (w1 : Int32) (w2 : Int32), SB_m_rain_j75 x v1 v2 w1 w2 = some q1 → ∀ (H : Heap) (locs : List Loc) (ls : Array Slot), va_P (dC, dI) vwCl (wSB cI cJ A x) H → va_D Q (wSB cI cJ A x) → va_S Q s.heap H locs → lv_has ls 5 [(0, .ref (A 0)), (1, .int v1), (2, .int v2)] → W p l e ({ frames := 6, cells := 0, slots := 0, locals := 164 } : Room) s m args below meth c H locs 0 0 (MQ below (QWi (dC, dI) Q (wSB cI cJ A r0.2) r0.1) args s 0 0 Q) (F0 m 75 ls [.int w2, .int w1, .ref (A 1)]) := by
            intro x v2 w1 w2 hf H locs ls hP hD hS hl
            unfold SB_m_rain_j75 at hf
            obtain ⟨g75, hc, hf⟩ := ob_bind hf
            have hPx := kg_eqP (sp_SB_now cI cJ A x) hP
            have hDx := kg_eqD (sp_SB_now cI cJ A x) hD
            refine kg_retWi (pre := (oSB cI cJ A x)) (wc := wWb cI cJ (fun i => A (i + 1)) (SB_now x)) (post := (oWb cI cJ (fun i => A (i + 24)) (SB_trial x)) ++ ((wNm cI cJ 32 (fun i => A (i + 32)) (Wb_blocks (SB_trial x))) ++ ((wNm cI cJ 32 (fun i => A (i + 37)) (Wb_lands (SB_trial x))) ++ ((wNm cI cJ 64 (fun i => A (i + 42)) (Wb_parts (SB_trial x))) ++ ((wFo cI cJ (fun i => A (i + 47)) (SB_forest x)) ++ ((wPb cI cJ (fun i => A (i + 59)) (SB_book x)) ++ ((wRo cI cJ (fun i => A (i + 64)) (SB_round x))))))))) (w1 := wWb cI cJ (fun i => A (i + 1)) g75.2) (wz := (wSB cI cJ A (SB_set_now x g75.2))) (sj_SB_now _ _ _ _ _) hPx hDx hS hA (va_runV (As := [.int w1, .int w2]) (rest := []) ⟨hx, hb, hml, hown, hts⟩ (c_X4_add l dC dI cI cJ (fun i => A (i + 1)) H.size (SB_now x) w1 w2 _ hc) (cwV 2 hts (gw_V wd_10_4 wd_10_1 wd_10_2 wd_10_3 wd_1_14) rfl rfl rfl qX4_add ⟨Nat.le_of_ble_eq_true rfl, Nat.le_of_ble_eq_true rfl⟩) (kg_preVW (ci := 4) (q := (RX4, TX4, 16)) (q0 := 0) (kg_cutP hPx) (kg_cutD hDx) hK hN rfl rfl) rfl rfl hl.1 rfl (lv_room (Nat.le_of_ble_eq_true rfl)) dX5_rain_75 ⟨Nat.zero_le _, Nat.zero_le _⟩) (fun H locs hP hD hS => ?_)
            refine lv_pop hx hb dX5_rain_78 rfl ?_
            refine lv_iinc (v := (v2 + 1)) (lv' := [(2, .int (v2 + 1)), (0, .ref (A 0)), (1, .int v1)]) hx hb dX5_rain_79 hl (k := 2) rfl rfl (by decide) rfl (fun ls hl => ?_)
            refine lv_goto (tgt := 23) hx hb dX5_rain_82 (by decide) ?_
            obtain rfl := Option.some.inj hf
            exact ih1 (SB_set_now x g75.2) (v2 + 1) hk1 _ _ _ hP hD hS (lv_sub hl [1, 2, 0] rfl)
          refine lv_iload_n hx hb dX5_rain_23 rfl (lv_at hl 2 rfl) ?_
          refine lv_iload_n hx hb dX5_rain_24 rfl (lv_at hl 1 rfl) ?_
          refine kg_icmp_ge (tgt := 85) hx hb hf dX5_rain_25 (by decide) (fun hc hf => ?_) (fun hc hf => ?_)
          · obtain ⟨qq, hf, hqq⟩ := omap_some hf
            have hkq : qq = r0 := by rw [← hqq] at hk1; exact hk1
            rw [hkq] at hf
            clear hkq hqq
            refine lv_aload_n hx hb dX5_rain_85 rfl (lv_at hl 0 rfl) ?_
            obtain ⟨g86, hc, hf⟩ := ob_bind hf
            have hPx := kg_eqP (kg_slf _) hP
            have hDx := kg_eqD (kg_slf _) hD
            refine kg_retWv (pre := ([] : va_W)) (wc := wSB cI cJ A x) (post := ([] : va_W)) (w1 := wSB cI cJ A g86) (wz := (wSB cI cJ A g86)) (kg_slf _).symm hPx hDx hS hA (va_runV (As := []) (rest := []) ⟨hx, hb, hml, hown, hts⟩ (c_X5_readAgain l dC dI cI cJ A H.size x _ hc) (cwV 0 hts (gw_V wd_5_13 wd_5_10 wd_5_11 wd_5_12 wd_1_2) rfl rfl rfl qX5_readAgain ⟨Nat.le_of_ble_eq_true rfl, Nat.le_of_ble_eq_true rfl⟩) (kg_preVW (ci := 5) (q := (RX5, TX5, 6)) (q0 := 0) (kg_cutP hPx) (kg_cutD hDx) hK hN rfl rfl) rfl rfl hl.1 rfl (lv_room (Nat.le_of_ble_eq_true rfl)) dX5_rain_86 ⟨Nat.zero_le _, Nat.zero_le _⟩) (fun H locs hP hD hS => ?_)
            refine lv_aload_n hx hb dX5_rain_89 rfl (lv_at hl 0 rfl) ?_
            refine va_get (D := (dC, dI)) (ci := 5) (v := .ref (A 1)) (C := RX5) (T := TX5) (N := 6) hx hb hts hiX5 hown hK hP 0 rfl rfl 0 (by decide) ww0 (fun _ h9 => h9) rfl dX5_rain_90 ?_
            refine va_get (D := (dC, dI)) (ci := 4) (v := .int (Wb_links (SB_now g86))) (C := RX4) (T := TX4) (N := 16) hx hb hts hiX4 hown hK hP 1 rfl rfl 11 (by decide) ww1 (fun _ h9 => h9) rfl dX5_rain_93 ?_
            obtain rfl := Option.some.inj hf
            exact kg_iretW hx hb hr hlk rfl hP hD hS dX5_rain_96
          · refine lv_aload_n hx hb dX5_rain_28 rfl (lv_at hl 0 rfl) ?_
            refine lv_aload_n hx hb dX5_rain_29 rfl (lv_at hl 0 rfl) ?_
            refine va_get (D := (dC, dI)) (ci := 5) (v := .ref (A 1)) (C := RX5) (T := TX5) (N := 6) hx hb hts hiX5 hown hK hP 0 rfl rfl 0 (by decide) ww0 (fun _ h9 => h9) rfl dX5_rain_30 ?_
            refine va_get (D := (dC, dI)) (ci := 4) (v := .int (Wb_nodes (SB_now x))) (C := RX4) (T := TX4) (N := 16) hx hb hts hiX4 hown hK hP 1 rfl rfl 10 (by decide) ww2 (fun _ h9 => h9) rfl dX5_rain_33 ?_
            obtain ⟨g36, hc, hf⟩ := ob_bind hf
            have hPx := kg_eqP (kg_slf _) hP
            have hDx := kg_eqD (kg_slf _) hD
            refine kg_retWi (pre := ([] : va_W)) (wc := wSB cI cJ A x) (post := ([] : va_W)) (w1 := wSB cI cJ A g36.2) (wz := (wSB cI cJ A g36.2)) (kg_slf _).symm hPx hDx hS hA (va_runV (As := [.int (Wb_nodes (SB_now x))]) (rest := []) ⟨hx, hb, hml, hown, hts⟩ (c_X5_draw l dC dI cI cJ A H.size x (Wb_nodes (SB_now x)) _ hc) (cwV 1 hts (gw_V wd_16_11 wd_16_8 wd_16_9 wd_16_10 wd_1_2) rfl rfl rfl qX5_draw ⟨Nat.le_of_ble_eq_true rfl, Nat.le_of_ble_eq_true rfl⟩) (kg_preVW (ci := 5) (q := (RX5, TX5, 6)) (q0 := 0) (kg_cutP hPx) (kg_cutD hDx) hK hN rfl rfl) rfl rfl hl.1 rfl (lv_room (Nat.le_of_ble_eq_true rfl)) dX5_rain_36 ⟨Nat.zero_le _, Nat.zero_le _⟩) (fun H locs hP hD hS => ?_)
            refine lv_istore_n (lv' := [(3, .int g36.1), (0, .ref (A 0)), (1, .int v1), (2, .int v2)]) hx hb dX5_rain_39 rfl hl (by decide) rfl (fun ls hl => ?_)
            refine lv_aload_n hx hb dX5_rain_40 rfl (lv_at hl 1 rfl) ?_
            refine lv_aload_n hx hb dX5_rain_41 rfl (lv_at hl 1 rfl) ?_
            refine va_get (D := (dC, dI)) (ci := 5) (v := .ref (A 1)) (C := RX5) (T := TX5) (N := 6) hx hb hts hiX5 hown hK hP 0 rfl rfl 0 (by decide) ww0 (fun _ h9 => h9) rfl dX5_rain_42 ?_
            refine va_get (D := (dC, dI)) (ci := 4) (v := .int (Wb_nodes (SB_now g36.2))) (C := RX4) (T := TX4) (N := 16) hx hb hts hiX4 hown hK hP 1 rfl rfl 10 (by decide) ww2 (fun _ h9 => h9) rfl dX5_rain_45 ?_
            refine lv_iconst (v := 1) hx hb dX5_rain_48 (by decide) ?_
            refine lv_isub hx hb dX5_rain_49 ?_
            obtain ⟨g50, hc, hf⟩ := ob_bind hf
            have hPx := kg_eqP (kg_slf _) hP
            have hDx := kg_eqD (kg_slf _) hD
            refine kg_retWi (pre := ([] : va_W)) (wc := wSB cI cJ A g36.2) (post := ([] : va_W)) (w1 := wSB cI cJ A g50.2) (wz := (wSB cI cJ A g50.2)) (kg_slf _).symm hPx hDx hS hA (va_runV (As := [.int ((Wb_nodes (SB_now g36.2)) - 1)]) (rest := []) ⟨hx, hb, hml, hown, hts⟩ (c_X5_draw l dC dI cI cJ A H.size g36.2 ((Wb_nodes (SB_now g36.2)) - 1) _ hc) (cwV 1 hts (gw_V wd_16_11 wd_16_8 wd_16_9 wd_16_10 wd_1_2) rfl rfl rfl qX5_draw ⟨Nat.le_of_ble_eq_true rfl, Nat.le_of_ble_eq_true rfl⟩) (kg_preVW (ci := 5) (q := (RX5, TX5, 6)) (q0 := 0) (kg_cutP hPx) (kg_cutD hDx) hK hN rfl rfl) rfl rfl hl.1 rfl (lv_room (Nat.le_of_ble_eq_true rfl)) dX5_rain_50 ⟨Nat.zero_le _, Nat.zero_le _⟩) (fun H locs hP hD hS => ?_)
            refine lv_istore (lv' := [(4, .int g50.1), (3, .int g36.1), (0, .ref (A 0)), (1, .int v1), (2, .int v2)]) hx hb dX5_rain_53 hl (by decide) rfl (fun ls hl => ?_)
            refine lv_aload_n hx hb dX5_rain_55 rfl (lv_at hl 2 rfl) ?_
            refine va_get (D := (dC, dI)) (ci := 5) (v := .ref (A 1)) (C := RX5) (T := TX5) (N := 6) hx hb hts hiX5 hown hK hP 0 rfl rfl 0 (by decide) ww0 (fun _ h9 => h9) rfl dX5_rain_56 ?_
            refine lv_iload_n hx hb dX5_rain_59 rfl (lv_at hl 1 rfl) ?_
            refine lv_iload hx hb dX5_rain_60 (lv_at hl 0 rfl) ?_
            refine lv_iload_n hx hb dX5_rain_62 rfl (lv_at hl 1 rfl) ?_
            refine kg_icmp_ge (tgt := 71) hx hb hf dX5_rain_63 (by decide) (fun hc hf => ?_) (fun hc hf => ?_)
            · refine lv_iload hx hb dX5_rain_71 (lv_at hl 0 rfl) ?_
              refine lv_iconst (v := 1) hx hb dX5_rain_73 (by decide) ?_
              refine lv_iadd hx hb dX5_rain_74 ?_
              exact hj75 g50.2 v2 g36.1 (g50.1 + 1) hf _ _ _ hP hD hS (lv_sub hl [2, 3, 4] rfl)
            · refine lv_iload hx hb dX5_rain_66 (lv_at hl 0 rfl) ?_
              refine lv_goto (tgt := 75) hx hb dX5_rain_68 (by decide) ?_
              exact hj75 g50.2 v2 g36.1 g50.1 hf _ _ _ hP hD hS (lv_sub hl [2, 3, 4] rfl)
      exact hlp23  FU x 0 hf _ _ _ hP hD hS (lv_sub hl [1, 2, 0] rfl)
    · refine lv_iconst (v := (-1)) hx hb dX5_rain_19 (by decide) ?_
      obtain rfl := Option.some.inj hf
      exact kg_iretW hx hb hr hlk rfl hP hD hS dX5_rain_20
set_option maxHeartbeats 4000000 in
set_option maxRecDepth 100000 in
theorem c_X5_state (l : Launch) (dC : Nat → ClassId) (dI : Nat → Nat → Nat) (cI cJ : ClassId) (A : Nat → Nat) (hq : Nat) (x : SBS) (v1 : Int32) (r0 : (Int32 × SBS)) (hf : SB_m_state x v1 = some r0) : MWi l yX5_state (wAll yX5_state cX5_state 3 (some .int)) ({ frames := 1, cells := 0, slots := 0, locals := 40 } : Room) [.ref (A 0), .int v1] hq (dC, dI) (vTy cI cJ) (wSB cI cJ A x) (wSB cI cJ A r0.2) r0.1 := by
  refine kg_metW (Qc := fun Q => QWi (dC, dI) Q (wSB cI cJ A r0.2) r0.1) (cc := cX5_state) (maxL := 3) (ret := (some .int)) (by decide) rfl (Nat.le_of_ble_eq_true rfl) ?_
  intro p e s m args below meth c Q hx hb hr hts hown hlk hml hP hK hN hD hA hS ls hl
  have hl : lv_has ls 3 [(0, .ref (A 0)), (1, .int v1)] := hl
  have ww0 := hts (.fieldLink RX5 40 "SafeBlocks" "drawn" "I") (List.mem_cons_of_mem _ wd_2_5)
  have hiX5 : ∀ w ∈ u_ws RX5 TX5 6, w ∈ wAll yX5_state cX5_state 3 (some .int) := fun w h => List.mem_cons_of_mem _ (inlX5 w h)
  suffices hgo : ∀ (H : Heap) (locs : List Loc), va_P (dC, dI) vwCl (wSB cI cJ A x) H → va_S Q s.heap H locs → W p l e ({ frames := 1, cells := 0, slots := 0, locals := 40 } : Room) s m args below meth c H locs 0 0 (MQ below (QWi (dC, dI) Q (wSB cI cJ A r0.2) r0.1) args s 0 0 Q) (F0 m 0 ls []) from hgo _ _ hP hS
  clear hP hS
  intro H locs hP hS
  unfold SB_m_state at hf
  refine lv_aload_n hx hb dX5_state_0 rfl (lv_at hl 0 rfl) ?_
  refine va_get (D := (dC, dI)) (ci := 5) (v := .int (SB_drawn x)) (C := RX5) (T := TX5) (N := 6) hx hb hts hiX5 hown hK hP 0 rfl rfl 5 (by decide) ww0 (fun _ h9 => h9) rfl dX5_state_1 ?_
  refine lv_istore_n (lv' := [(2, .int (SB_drawn x)), (0, .ref (A 0)), (1, .int v1)]) hx hb dX5_state_4 rfl hl (by decide) rfl (fun ls hl => ?_)
  refine lv_aload_n hx hb dX5_state_5 rfl (lv_at hl 1 rfl) ?_
  refine lv_iload_n hx hb dX5_state_6 rfl (lv_at hl 2 rfl) ?_
  refine kg_put (ci := 5) (v := .int v1) (ty := .int) (C := RX5) (T := TX5) (N := 6) (wz := (wSB cI cJ A (SB_set_drawn x v1))) hx hb hts hiX5 tyX5 tyX5_ok nmX5 hown hK hP hD hS 0 rfl rfl 5 (by decide) ww0 (fun _ h9 => h9) rfl (tyX5_ok 5 (by decide)) rfl rfl (Nat.le_of_ble_eq_true rfl) dX5_state_7 (sc_SB_drawn _ _ _ _ _) (fun H locs hP hD hS => ?_)
  refine lv_iload_n hx hb dX5_state_10 rfl (lv_at hl 0 rfl) ?_
  obtain rfl := Option.some.inj hf
  exact kg_iretW hx hb hr hlk rfl hP hD hS dX5_state_11
set_option maxHeartbeats 4000000 in
set_option maxRecDepth 100000 in
theorem c_X5_land (l : Launch) (dC : Nat → ClassId) (dI : Nat → Nat → Nat) (cI cJ : ClassId) (A : Nat → Nat) (hq : Nat) (x : SBS) (v1 : Int32) (v2 : Int32) (r0 : (Int32 × SBS)) (hf : SB_m_land x v1 v2 = some r0) : MWi l yX5_land (wAll yX5_land cX5_land 3 (some .int)) ({ frames := 7, cells := 0, slots := 0, locals := 185 } : Room) [.ref (A 0), .int v1, .int v2] hq (dC, dI) (vTy cI cJ) (wSB cI cJ A x) (wSB cI cJ A r0.2) r0.1 := by
  refine kg_metW (Qc := fun Q => QWi (dC, dI) Q (wSB cI cJ A r0.2) r0.1) (cc := cX5_land) (maxL := 3) (ret := (some .int)) (by decide) rfl (Nat.le_of_ble_eq_true rfl) ?_
  intro p e s m args below meth c Q hx hb hr hts hown hlk hml hP hK hN hD hA hS ls hl
  have hl : lv_has ls 3 [(0, .ref (A 0)), (1, .int v1), (2, .int v2)] := hl
  have ww0 := hts (.fieldLink RX5 12 "SafeBlocks" "now" "LSafeBlocks$Web;") (List.mem_cons_of_mem _ wd_1_15)
  have ww1 := hts (.fieldLink RX5 121 "SafeBlocks$Web" "lands" "LSafeBlocks$Names;") (List.mem_cons_of_mem _ wd_18_8)
  have ww2 := hts (.fieldLink RX5 124 "SafeBlocks$Names" "size" "[I") (List.mem_cons_of_mem _ wd_18_9)
  have ww3 := hts (.fieldLink RX5 22 "SafeBlocks" "forest" "LSafeBlocks$Forest;") (List.mem_cons_of_mem _ wd_1_20)
  have ww4 := hts (.fieldLink RX5 29 "SafeBlocks" "book" "LSafeBlocks$PartBook;") (List.mem_cons_of_mem _ wd_2_0)
  have hiX5 : ∀ w ∈ u_ws RX5 TX5 6, w ∈ wAll yX5_land cX5_land 3 (some .int) := fun w h => List.mem_cons_of_mem _ (inlX5 w h)
  have hiX4 : ∀ w ∈ u_ws RX4 TX4 16, w ∈ wAll yX5_land cX5_land 3 (some .int) := fun w h => List.mem_cons_of_mem _ (inlX4 w h)
  have hiX1 : ∀ w ∈ u_ws RX1 TX1 6, w ∈ wAll yX5_land cX5_land 3 (some .int) := fun w h => List.mem_cons_of_mem _ (inlX1 w h)
  suffices hgo : ∀ (H : Heap) (locs : List Loc), va_P (dC, dI) vwCl (wSB cI cJ A x) H → va_S Q s.heap H locs → W p l e ({ frames := 7, cells := 0, slots := 0, locals := 185 } : Room) s m args below meth c H locs 0 0 (MQ below (QWi (dC, dI) Q (wSB cI cJ A r0.2) r0.1) args s 0 0 Q) (F0 m 0 ls []) from hgo _ _ hP hS
  clear hP hS
  intro H locs hP hS
  unfold SB_m_land at hf
  refine lv_aload_n hx hb dX5_land_0 rfl (lv_at hl 0 rfl) ?_
  refine va_get (D := (dC, dI)) (ci := 5) (v := .ref (A 1)) (C := RX5) (T := TX5) (N := 6) hx hb hts hiX5 hown hK hP 0 rfl rfl 0 (by decide) ww0 (fun _ h9 => h9) rfl dX5_land_1 ?_
  refine va_get (D := (dC, dI)) (ci := 4) (v := .ref (A 14)) (C := RX4) (T := TX4) (N := 16) hx hb hts hiX4 hown hK hP 1 rfl rfl 8 (by decide) ww1 (fun _ h9 => h9) rfl dX5_land_4 ?_
  refine lv_iload_n hx hb dX5_land_7 rfl (lv_at hl 1 rfl) ?_
  obtain ⟨g8, hc, hf⟩ := ob_bind hf
  have hPc : va_P (dC, dI) vwCl (wNm cI cJ 32 (fun i => A (i + 14)) (Wb_lands (SB_now x))) H := hP.sub [14, 15, 16, 17, 18] rfl
  refine kg_retRi (va_runV (As := [.int v1]) (rest := []) ⟨hx, hb, hml, hown, hts⟩ (c_X1_lives l dC dI cI cJ (fun i => A (i + 14)) H 32 (Wb_lands (SB_now x)) v1 _ hc) (cwV 1 hts (gw_V wd_6_18 wd_23_17 wd_6_16 wd_6_17 wd_2_20) rfl rfl rfl qX1_lives ⟨Nat.le_of_ble_eq_true rfl, Nat.le_of_ble_eq_true rfl⟩) (kg_preVR (ci := 1) (q := (RX1, TX1, 6)) (q0 := 0) hPc hK hN rfl rfl) rfl rfl hl.1 rfl (lv_room (Nat.le_of_ble_eq_true rfl)) dX5_land_8 ⟨Nat.zero_le _, Nat.zero_le _⟩) ?_
  refine kg_b_ne (tgt := 16) hx hb hf dX5_land_11 (by decide) (fun hc hf => ?_) (fun hc hf => ?_)
  · refine lv_iload_n hx hb dX5_land_16 rfl (lv_at hl 2 rfl) ?_
    by_cases hc0 : v2 = 0
    · rw [if_pos hc0] at hf
      refine lv_tableIn (tgt := 76) (off := 59) hx hb dX5_land_17 (by rw [hc0]; decide) (by rw [hc0]; decide) (by rw [hc0]; rfl) (by decide) ?_
      refine lv_aload_n hx hb dX5_land_76 rfl (lv_at hl 0 rfl) ?_
      refine va_get (D := (dC, dI)) (ci := 5) (v := .ref (A 1)) (C := RX5) (T := TX5) (N := 6) hx hb hts hiX5 hown hK hP 0 rfl rfl 0 (by decide) ww0 (fun _ h9 => h9) rfl dX5_land_77 ?_
      refine va_get (D := (dC, dI)) (ci := 4) (v := .ref (A 14)) (C := RX4) (T := TX4) (N := 16) hx hb hts hiX4 hown hK hP 1 rfl rfl 8 (by decide) ww1 (fun _ h9 => h9) rfl dX5_land_80 ?_
      refine va_get (D := (dC, dI)) (ci := 1) (v := .ref (A 16)) (C := RX1) (T := TX1) (N := 6) hx hb hts hiX1 hown hK hP 14 rfl rfl 1 (by decide) ww2 (fun _ h9 => h9) rfl dX5_land_83 ?_
      refine lv_iload_n hx hb dX5_land_86 rfl (lv_at hl 1 rfl) ?_
      obtain ⟨g87, hv, hf⟩ := ob_bind hf
      refine kg_iald hx hb hK hP 16 0 rfl rfl hv dX5_land_87 ?_
      obtain rfl := Option.some.inj hf
      exact kg_iretW hx hb hr hlk rfl hP hD hS dX5_land_88
    · rw [if_neg hc0] at hf
      by_cases hc1 : v2 = 1
      · rw [if_pos hc1] at hf
        refine lv_tableIn (tgt := 89) (off := 72) hx hb dX5_land_17 (by rw [hc1]; decide) (by rw [hc1]; decide) (by rw [hc1]; rfl) (by decide) ?_
        refine lv_aload_n hx hb dX5_land_89 rfl (lv_at hl 0 rfl) ?_
        refine va_get (D := (dC, dI)) (ci := 5) (v := .ref (A 47)) (C := RX5) (T := TX5) (N := 6) hx hb hts hiX5 hown hK hP 0 rfl rfl 2 (by decide) ww3 (fun _ h9 => h9) rfl dX5_land_90 ?_
        refine lv_aload_n hx hb dX5_land_93 rfl (lv_at hl 0 rfl) ?_
        refine va_get (D := (dC, dI)) (ci := 5) (v := .ref (A 1)) (C := RX5) (T := TX5) (N := 6) hx hb hts hiX5 hown hK hP 0 rfl rfl 0 (by decide) ww0 (fun _ h9 => h9) rfl dX5_land_94 ?_
        refine va_get (D := (dC, dI)) (ci := 4) (v := .ref (A 14)) (C := RX4) (T := TX4) (N := 16) hx hb hts hiX4 hown hK hP 1 rfl rfl 8 (by decide) ww1 (fun _ h9 => h9) rfl dX5_land_97 ?_
        refine lv_iload_n hx hb dX5_land_100 rfl (lv_at hl 1 rfl) ?_
        obtain ⟨g101, hc, hf⟩ := ob_bind hf
        have hPc : va_P (dC, dI) vwCl (wFo cI cJ (fun i => A (i + 47)) (SB_forest x) ++ (wNm cI cJ 32 (fun i => A (i + 14)) (Wb_lands (SB_now x)))) H := hP.sub [47, 48, 49, 50, 51, 52, 53, 54, 55, 56, 57, 58, 14, 15, 16, 17, 18] rfl
        refine kg_retRi (va_runV (As := [.ref (A 14), .int v1]) (rest := []) ⟨hx, hb, hml, hown, hts⟩ (c_X0_blocksOf l dC dI cI cJ (fun i => A (i + 47)) (fun i => A (i + 14)) H (SB_forest x) 32 (Wb_lands (SB_now x)) v1 _ hc) (cwV 2 hts (gw_V wd_27_2 wd_26_23 wd_27_0 wd_27_1 wd_1_19) rfl rfl rfl qX0_blocksOf ⟨Nat.le_of_ble_eq_true rfl, Nat.le_of_ble_eq_true rfl⟩) (kg_preVR (ci := 0) (q := (RX0, TX0, 13)) (q0 := 0) hPc hK hN rfl rfl) rfl rfl hl.1 rfl (lv_room (Nat.le_of_ble_eq_true rfl)) dX5_land_101 ⟨Nat.zero_le _, Nat.zero_le _⟩) ?_
        obtain rfl := Option.some.inj hf
        exact kg_iretW hx hb hr hlk rfl hP hD hS dX5_land_104
      · rw [if_neg hc1] at hf
        by_cases hc2 : v2 = 2
        · rw [if_pos hc2] at hf
          refine lv_tableIn (tgt := 105) (off := 88) hx hb dX5_land_17 (by rw [hc2]; decide) (by rw [hc2]; decide) (by rw [hc2]; rfl) (by decide) ?_
          refine lv_aload_n hx hb dX5_land_105 rfl (lv_at hl 0 rfl) ?_
          refine va_get (D := (dC, dI)) (ci := 5) (v := .ref (A 1)) (C := RX5) (T := TX5) (N := 6) hx hb hts hiX5 hown hK hP 0 rfl rfl 0 (by decide) ww0 (fun _ h9 => h9) rfl dX5_land_106 ?_
          refine lv_iload_n hx hb dX5_land_109 rfl (lv_at hl 1 rfl) ?_
          obtain ⟨g110, hc, hf⟩ := ob_bind hf
          have hPc : va_P (dC, dI) vwCl (wWb cI cJ (fun i => A (i + 1)) (SB_now x)) H := hP.sub [1, 2, 3, 4, 5, 6, 7, 8, 9, 10, 11, 12, 13, 14, 15, 16, 17, 18, 19, 20, 21, 22, 23] rfl
          refine kg_retRi (va_runV (As := [.int v1]) (rest := []) ⟨hx, hb, hml, hown, hts⟩ (c_X4_bridgesOf l dC dI cI cJ (fun i => A (i + 1)) H (SB_now x) v1 _ hc) (cwV 1 hts (gw_V wd_27_6 wd_27_3 wd_27_4 wd_27_5 wd_1_14) rfl rfl rfl qX4_bridgesOf ⟨Nat.le_of_ble_eq_true rfl, Nat.le_of_ble_eq_true rfl⟩) (kg_preVR (ci := 4) (q := (RX4, TX4, 16)) (q0 := 0) hPc hK hN rfl rfl) rfl rfl hl.1 rfl (lv_room (Nat.le_of_ble_eq_true rfl)) dX5_land_110 ⟨Nat.zero_le _, Nat.zero_le _⟩) ?_
          obtain rfl := Option.some.inj hf
          exact kg_iretW hx hb hr hlk rfl hP hD hS dX5_land_113
        · rw [if_neg hc2] at hf
          by_cases hc3 : v2 = 3
          · rw [if_pos hc3] at hf
            refine lv_tableIn (tgt := 114) (off := 97) hx hb dX5_land_17 (by rw [hc3]; decide) (by rw [hc3]; decide) (by rw [hc3]; rfl) (by decide) ?_
            refine lv_aload_n hx hb dX5_land_114 rfl (lv_at hl 0 rfl) ?_
            refine va_get (D := (dC, dI)) (ci := 5) (v := .ref (A 1)) (C := RX5) (T := TX5) (N := 6) hx hb hts hiX5 hown hK hP 0 rfl rfl 0 (by decide) ww0 (fun _ h9 => h9) rfl dX5_land_115 ?_
            refine lv_iload_n hx hb dX5_land_118 rfl (lv_at hl 1 rfl) ?_
            obtain ⟨g119, hc, hf⟩ := ob_bind hf
            have hPc : va_P (dC, dI) vwCl (wWb cI cJ (fun i => A (i + 1)) (SB_now x)) H := hP.sub [1, 2, 3, 4, 5, 6, 7, 8, 9, 10, 11, 12, 13, 14, 15, 16, 17, 18, 19, 20, 21, 22, 23] rfl
            refine kg_retRi (va_runV (As := [.int v1]) (rest := []) ⟨hx, hb, hml, hown, hts⟩ (c_X4_linksOf l dC dI cI cJ (fun i => A (i + 1)) H (SB_now x) v1 _ hc) (cwV 1 hts (gw_V wd_27_10 wd_27_7 wd_27_8 wd_27_9 wd_1_14) rfl rfl rfl qX4_linksOf ⟨Nat.le_of_ble_eq_true rfl, Nat.le_of_ble_eq_true rfl⟩) (kg_preVR (ci := 4) (q := (RX4, TX4, 16)) (q0 := 0) hPc hK hN rfl rfl) rfl rfl hl.1 rfl (lv_room (Nat.le_of_ble_eq_true rfl)) dX5_land_119 ⟨Nat.zero_le _, Nat.zero_le _⟩) ?_
            obtain rfl := Option.some.inj hf
            exact kg_iretW hx hb hr hlk rfl hP hD hS dX5_land_122
          · rw [if_neg hc3] at hf
            by_cases hc4 : v2 = 4
            · rw [if_pos hc4] at hf
              refine lv_tableIn (tgt := 123) (off := 106) hx hb dX5_land_17 (by rw [hc4]; decide) (by rw [hc4]; decide) (by rw [hc4]; rfl) (by decide) ?_
              refine lv_aload_n hx hb dX5_land_123 rfl (lv_at hl 0 rfl) ?_
              refine va_get (D := (dC, dI)) (ci := 5) (v := .ref (A 47)) (C := RX5) (T := TX5) (N := 6) hx hb hts hiX5 hown hK hP 0 rfl rfl 2 (by decide) ww3 (fun _ h9 => h9) rfl dX5_land_124 ?_
              refine lv_aload_n hx hb dX5_land_127 rfl (lv_at hl 0 rfl) ?_
              refine va_get (D := (dC, dI)) (ci := 5) (v := .ref (A 1)) (C := RX5) (T := TX5) (N := 6) hx hb hts hiX5 hown hK hP 0 rfl rfl 0 (by decide) ww0 (fun _ h9 => h9) rfl dX5_land_128 ?_
              refine va_get (D := (dC, dI)) (ci := 4) (v := .ref (A 14)) (C := RX4) (T := TX4) (N := 16) hx hb hts hiX4 hown hK hP 1 rfl rfl 8 (by decide) ww1 (fun _ h9 => h9) rfl dX5_land_131 ?_
              refine lv_iload_n hx hb dX5_land_134 rfl (lv_at hl 1 rfl) ?_
              obtain ⟨g135, hc, hf⟩ := ob_bind hf
              have hPc : va_P (dC, dI) vwCl (wFo cI cJ (fun i => A (i + 47)) (SB_forest x) ++ (wNm cI cJ 32 (fun i => A (i + 14)) (Wb_lands (SB_now x)))) H := hP.sub [47, 48, 49, 50, 51, 52, 53, 54, 55, 56, 57, 58, 14, 15, 16, 17, 18] rfl
              refine kg_retRi (va_runV (As := [.ref (A 14), .int v1]) (rest := []) ⟨hx, hb, hml, hown, hts⟩ (c_X0_rootOf l dC dI cI cJ (fun i => A (i + 47)) (fun i => A (i + 14)) H (SB_forest x) 32 (Wb_lands (SB_now x)) v1 _ hc) (cwV 2 hts (gw_V wd_27_14 wd_27_11 wd_27_12 wd_27_13 wd_1_19) rfl rfl rfl qX0_rootOf ⟨Nat.le_of_ble_eq_true rfl, Nat.le_of_ble_eq_true rfl⟩) (kg_preVR (ci := 0) (q := (RX0, TX0, 13)) (q0 := 0) hPc hK hN rfl rfl) rfl rfl hl.1 rfl (lv_room (Nat.le_of_ble_eq_true rfl)) dX5_land_135 ⟨Nat.zero_le _, Nat.zero_le _⟩) ?_
              obtain rfl := Option.some.inj hf
              exact kg_iretW hx hb hr hlk rfl hP hD hS dX5_land_138
            · rw [if_neg hc4] at hf
              by_cases hc5 : v2 = 5
              · rw [if_pos hc5] at hf
                refine lv_tableIn (tgt := 139) (off := 122) hx hb dX5_land_17 (by rw [hc5]; decide) (by rw [hc5]; decide) (by rw [hc5]; rfl) (by decide) ?_
                refine lv_aload_n hx hb dX5_land_139 rfl (lv_at hl 0 rfl) ?_
                refine lv_iload_n hx hb dX5_land_140 rfl (lv_at hl 1 rfl) ?_
                obtain ⟨g141, hc, hf⟩ := ob_bind hf
                have hPc : va_P (dC, dI) vwCl (wSB cI cJ A x) H := hP
                refine kg_retRi (va_runV (As := [.int v1]) (rest := []) ⟨hx, hb, hml, hown, hts⟩ (c_X5_mendOf l dC dI cI cJ A H x v1 _ hc) (cwV 1 hts (gw_V wd_27_18 wd_27_15 wd_27_16 wd_27_17 wd_1_2) rfl rfl rfl qX5_mendOf ⟨Nat.le_of_ble_eq_true rfl, Nat.le_of_ble_eq_true rfl⟩) (kg_preVR (ci := 5) (q := (RX5, TX5, 6)) (q0 := 0) hPc hK hN rfl rfl) rfl rfl hl.1 rfl (lv_room (Nat.le_of_ble_eq_true rfl)) dX5_land_141 ⟨Nat.zero_le _, Nat.zero_le _⟩) ?_
                obtain rfl := Option.some.inj hf
                exact kg_iretW hx hb hr hlk rfl hP hD hS dX5_land_144
              · rw [if_neg hc5] at hf
                by_cases hc6 : v2 = 6
                · rw [if_pos hc6] at hf
                  refine lv_tableIn (tgt := 145) (off := 128) hx hb dX5_land_17 (by rw [hc6]; decide) (by rw [hc6]; decide) (by rw [hc6]; rfl) (by decide) ?_
                  refine lv_aload_n hx hb dX5_land_145 rfl (lv_at hl 0 rfl) ?_
                  refine va_get (D := (dC, dI)) (ci := 5) (v := .ref (A 59)) (C := RX5) (T := TX5) (N := 6) hx hb hts hiX5 hown hK hP 0 rfl rfl 3 (by decide) ww4 (fun _ h9 => h9) rfl dX5_land_146 ?_
                  refine lv_aload_n hx hb dX5_land_149 rfl (lv_at hl 0 rfl) ?_
                  refine va_get (D := (dC, dI)) (ci := 5) (v := .ref (A 1)) (C := RX5) (T := TX5) (N := 6) hx hb hts hiX5 hown hK hP 0 rfl rfl 0 (by decide) ww0 (fun _ h9 => h9) rfl dX5_land_150 ?_
                  refine va_get (D := (dC, dI)) (ci := 4) (v := .ref (A 14)) (C := RX4) (T := TX4) (N := 16) hx hb hts hiX4 hown hK hP 1 rfl rfl 8 (by decide) ww1 (fun _ h9 => h9) rfl dX5_land_153 ?_
                  refine lv_iload_n hx hb dX5_land_156 rfl (lv_at hl 1 rfl) ?_
                  obtain ⟨g157, hc, hf⟩ := ob_bind hf
                  have hPc : va_P (dC, dI) vwCl (wPb cI cJ (fun i => A (i + 59)) (SB_book x) ++ (wNm cI cJ 32 (fun i => A (i + 14)) (Wb_lands (SB_now x)))) H := hP.sub [59, 60, 61, 62, 63, 14, 15, 16, 17, 18] rfl
                  refine kg_retRi (va_runV (As := [.ref (A 14), .int v1]) (rest := []) ⟨hx, hb, hml, hown, hts⟩ (c_X2_cutsOf l dC dI cI cJ (fun i => A (i + 59)) (fun i => A (i + 14)) H (SB_book x) 32 (Wb_lands (SB_now x)) v1 _ hc) (cwV 2 hts (gw_V wd_28_2 wd_27_23 wd_28_0 wd_28_1 wd_1_23) rfl rfl rfl qX2_cutsOf ⟨Nat.le_of_ble_eq_true rfl, Nat.le_of_ble_eq_true rfl⟩) (kg_preVR (ci := 2) (q := (RX2, TX2, 7)) (q0 := 0) hPc hK hN rfl rfl) rfl rfl hl.1 rfl (lv_room (Nat.le_of_ble_eq_true rfl)) dX5_land_157 ⟨Nat.zero_le _, Nat.zero_le _⟩) ?_
                  obtain rfl := Option.some.inj hf
                  exact kg_iretW hx hb hr hlk rfl hP hD hS dX5_land_160
                · rw [if_neg hc6] at hf
                  by_cases hc7 : v2 = 7
                  · rw [if_pos hc7] at hf
                    refine lv_tableIn (tgt := 161) (off := 144) hx hb dX5_land_17 (by rw [hc7]; decide) (by rw [hc7]; decide) (by rw [hc7]; rfl) (by decide) ?_
                    refine lv_aload_n hx hb dX5_land_161 rfl (lv_at hl 0 rfl) ?_
                    refine va_get (D := (dC, dI)) (ci := 5) (v := .ref (A 47)) (C := RX5) (T := TX5) (N := 6) hx hb hts hiX5 hown hK hP 0 rfl rfl 2 (by decide) ww3 (fun _ h9 => h9) rfl dX5_land_162 ?_
                    refine lv_aload_n hx hb dX5_land_165 rfl (lv_at hl 0 rfl) ?_
                    refine va_get (D := (dC, dI)) (ci := 5) (v := .ref (A 1)) (C := RX5) (T := TX5) (N := 6) hx hb hts hiX5 hown hK hP 0 rfl rfl 0 (by decide) ww0 (fun _ h9 => h9) rfl dX5_land_166 ?_
                    refine va_get (D := (dC, dI)) (ci := 4) (v := .ref (A 14)) (C := RX4) (T := TX4) (N := 16) hx hb hts hiX4 hown hK hP 1 rfl rfl 8 (by decide) ww1 (fun _ h9 => h9) rfl dX5_land_169 ?_
                    refine lv_iload_n hx hb dX5_land_172 rfl (lv_at hl 1 rfl) ?_
                    obtain ⟨g173, hc, hf⟩ := ob_bind hf
                    have hPx : va_P (dC, dI) vwCl (([] : va_W) ++ ((wFo cI cJ (fun i => A (i + 47)) (SB_forest x) ++ (wNm cI cJ 32 (fun i => A (i + 14)) (Wb_lands (SB_now x)))) ++ (((oSB cI cJ A x) ++ ((oWb cI cJ (fun i => A (i + 1)) (SB_now x)) ++ ((wNm cI cJ 32 (fun i => A (i + 9)) (Wb_blocks (SB_now x))) ++ ((wNm cI cJ 64 (fun i => A (i + 19)) (Wb_parts (SB_now x))) ++ ((oWb cI cJ (fun i => A (i + 24)) (SB_trial x)) ++ ((wNm cI cJ 32 (fun i => A (i + 32)) (Wb_blocks (SB_trial x))) ++ ((wNm cI cJ 32 (fun i => A (i + 37)) (Wb_lands (SB_trial x))) ++ ((wNm cI cJ 64 (fun i => A (i + 42)) (Wb_parts (SB_trial x))) ++ ((wPb cI cJ (fun i => A (i + 59)) (SB_book x)) ++ (wRo cI cJ (fun i => A (i + 64)) (SB_round x)))))))))))))) H := hP.sub [47, 48, 49, 50, 51, 52, 53, 54, 55, 56, 57, 58, 14, 15, 16, 17, 18, 0, 1, 2, 3, 4, 5, 6, 7, 8, 9, 10, 11, 12, 13, 19, 20, 21, 22, 23, 24, 25, 26, 27, 28, 29, 30, 31, 32, 33, 34, 35, 36, 37, 38, 39, 40, 41, 42, 43, 44, 45, 46, 59, 60, 61, 62, 63, 64, 65] rfl
                    have hDx : va_D Q (([] : va_W) ++ ((wFo cI cJ (fun i => A (i + 47)) (SB_forest x) ++ (wNm cI cJ 32 (fun i => A (i + 14)) (Wb_lands (SB_now x)))) ++ (((oSB cI cJ A x) ++ ((oWb cI cJ (fun i => A (i + 1)) (SB_now x)) ++ ((wNm cI cJ 32 (fun i => A (i + 9)) (Wb_blocks (SB_now x))) ++ ((wNm cI cJ 64 (fun i => A (i + 19)) (Wb_parts (SB_now x))) ++ ((oWb cI cJ (fun i => A (i + 24)) (SB_trial x)) ++ ((wNm cI cJ 32 (fun i => A (i + 32)) (Wb_blocks (SB_trial x))) ++ ((wNm cI cJ 32 (fun i => A (i + 37)) (Wb_lands (SB_trial x))) ++ ((wNm cI cJ 64 (fun i => A (i + 42)) (Wb_parts (SB_trial x))) ++ ((wPb cI cJ (fun i => A (i + 59)) (SB_book x)) ++ (wRo cI cJ (fun i => A (i + 64)) (SB_round x)))))))))))))) := hD.sub [47, 48, 49, 50, 51, 52, 53, 54, 55, 56, 57, 58, 14, 15, 16, 17, 18, 0, 1, 2, 3, 4, 5, 6, 7, 8, 9, 10, 11, 12, 13, 19, 20, 21, 22, 23, 24, 25, 26, 27, 28, 29, 30, 31, 32, 33, 34, 35, 36, 37, 38, 39, 40, 41, 42, 43, 44, 45, 46, 59, 60, 61, 62, 63, 64, 65] (by decide) rfl
                    refine kg_retWi (pre := []) (wc := wFo cI cJ (fun i => A (i + 47)) (SB_forest x) ++ (wNm cI cJ 32 (fun i => A (i + 14)) (Wb_lands (SB_now x)))) (post := (((oSB cI cJ A x) ++ ((oWb cI cJ (fun i => A (i + 1)) (SB_now x)) ++ ((wNm cI cJ 32 (fun i => A (i + 9)) (Wb_blocks (SB_now x))) ++ ((wNm cI cJ 64 (fun i => A (i + 19)) (Wb_parts (SB_now x))) ++ ((oWb cI cJ (fun i => A (i + 24)) (SB_trial x)) ++ ((wNm cI cJ 32 (fun i => A (i + 32)) (Wb_blocks (SB_trial x))) ++ ((wNm cI cJ 32 (fun i => A (i + 37)) (Wb_lands (SB_trial x))) ++ ((wNm cI cJ 64 (fun i => A (i + 42)) (Wb_parts (SB_trial x))) ++ ((wPb cI cJ (fun i => A (i + 59)) (SB_book x)) ++ (wRo cI cJ (fun i => A (i + 64)) (SB_round x))))))))))))) (w1 := wFo cI cJ (fun i => A (i + 47)) g173.2 ++ (wNm cI cJ 32 (fun i => A (i + 14)) (Wb_lands (SB_now x)))) rfl hPx hDx hS hA (va_runV (As := [.ref (A 14), .int v1]) (rest := []) ⟨hx, hb, hml, hown, hts⟩ (c_X0_longest l dC dI cI cJ (fun i => A (i + 47)) (fun i => A (i + 14)) H.size (SB_forest x) 32 (Wb_lands (SB_now x)) v1 _ hc) (cwV 2 hts (gw_V wd_28_7 wd_28_4 wd_28_5 wd_28_6 wd_1_19) rfl rfl rfl qX0_longest ⟨Nat.le_of_ble_eq_true rfl, Nat.le_of_ble_eq_true rfl⟩) (kg_preVW (ci := 0) (q := (RX0, TX0, 13)) (q0 := 0) (kg_cutP hPx) (kg_cutD hDx) hK hN rfl rfl) rfl rfl hl.1 rfl (lv_room (Nat.le_of_ble_eq_true rfl)) dX5_land_173 ⟨Nat.zero_le _, Nat.zero_le _⟩) (fun H locs hP hD hS => ?_)
                    have hP : va_P (dC, dI) vwCl (wSB cI cJ A (SB_set_forest x g173.2)) H := hP.sub [17, 18, 19, 20, 21, 22, 23, 24, 25, 26, 27, 28, 29, 30, 12, 13, 14, 15, 16, 31, 32, 33, 34, 35, 36, 37, 38, 39, 40, 41, 42, 43, 44, 45, 46, 47, 48, 49, 50, 51, 52, 53, 54, 55, 56, 57, 58, 0, 1, 2, 3, 4, 5, 6, 7, 8, 9, 10, 11, 59, 60, 61, 62, 63, 64, 65] rfl
                    have hD : va_D Q (wSB cI cJ A (SB_set_forest x g173.2)) := hD.sub [17, 18, 19, 20, 21, 22, 23, 24, 25, 26, 27, 28, 29, 30, 12, 13, 14, 15, 16, 31, 32, 33, 34, 35, 36, 37, 38, 39, 40, 41, 42, 43, 44, 45, 46, 47, 48, 49, 50, 51, 52, 53, 54, 55, 56, 57, 58, 0, 1, 2, 3, 4, 5, 6, 7, 8, 9, 10, 11, 59, 60, 61, 62, 63, 64, 65] (by decide) rfl
                    obtain rfl := Option.some.inj hf
                    exact kg_iretW hx hb hr hlk rfl hP hD hS dX5_land_176
                  · rw [if_neg hc7] at hf
                    by_cases hc8 : v2 = 8
                    · rw [if_pos hc8] at hf
                      refine lv_tableIn (tgt := 177) (off := 160) hx hb dX5_land_17 (by rw [hc8]; decide) (by rw [hc8]; decide) (by rw [hc8]; rfl) (by decide) ?_
                      refine lv_aload_n hx hb dX5_land_177 rfl (lv_at hl 0 rfl) ?_
                      refine va_get (D := (dC, dI)) (ci := 5) (v := .ref (A 47)) (C := RX5) (T := TX5) (N := 6) hx hb hts hiX5 hown hK hP 0 rfl rfl 2 (by decide) ww3 (fun _ h9 => h9) rfl dX5_land_178 ?_
                      refine lv_aload_n hx hb dX5_land_181 rfl (lv_at hl 0 rfl) ?_
                      refine va_get (D := (dC, dI)) (ci := 5) (v := .ref (A 1)) (C := RX5) (T := TX5) (N := 6) hx hb hts hiX5 hown hK hP 0 rfl rfl 0 (by decide) ww0 (fun _ h9 => h9) rfl dX5_land_182 ?_
                      refine va_get (D := (dC, dI)) (ci := 4) (v := .ref (A 14)) (C := RX4) (T := TX4) (N := 16) hx hb hts hiX4 hown hK hP 1 rfl rfl 8 (by decide) ww1 (fun _ h9 => h9) rfl dX5_land_185 ?_
                      refine lv_iload_n hx hb dX5_land_188 rfl (lv_at hl 1 rfl) ?_
                      obtain ⟨g189, hc, hf⟩ := ob_bind hf
                      have hPx : va_P (dC, dI) vwCl (([] : va_W) ++ ((wFo cI cJ (fun i => A (i + 47)) (SB_forest x) ++ (wNm cI cJ 32 (fun i => A (i + 14)) (Wb_lands (SB_now x)))) ++ (((oSB cI cJ A x) ++ ((oWb cI cJ (fun i => A (i + 1)) (SB_now x)) ++ ((wNm cI cJ 32 (fun i => A (i + 9)) (Wb_blocks (SB_now x))) ++ ((wNm cI cJ 64 (fun i => A (i + 19)) (Wb_parts (SB_now x))) ++ ((oWb cI cJ (fun i => A (i + 24)) (SB_trial x)) ++ ((wNm cI cJ 32 (fun i => A (i + 32)) (Wb_blocks (SB_trial x))) ++ ((wNm cI cJ 32 (fun i => A (i + 37)) (Wb_lands (SB_trial x))) ++ ((wNm cI cJ 64 (fun i => A (i + 42)) (Wb_parts (SB_trial x))) ++ ((wPb cI cJ (fun i => A (i + 59)) (SB_book x)) ++ (wRo cI cJ (fun i => A (i + 64)) (SB_round x)))))))))))))) H := hP.sub [47, 48, 49, 50, 51, 52, 53, 54, 55, 56, 57, 58, 14, 15, 16, 17, 18, 0, 1, 2, 3, 4, 5, 6, 7, 8, 9, 10, 11, 12, 13, 19, 20, 21, 22, 23, 24, 25, 26, 27, 28, 29, 30, 31, 32, 33, 34, 35, 36, 37, 38, 39, 40, 41, 42, 43, 44, 45, 46, 59, 60, 61, 62, 63, 64, 65] rfl
                      have hDx : va_D Q (([] : va_W) ++ ((wFo cI cJ (fun i => A (i + 47)) (SB_forest x) ++ (wNm cI cJ 32 (fun i => A (i + 14)) (Wb_lands (SB_now x)))) ++ (((oSB cI cJ A x) ++ ((oWb cI cJ (fun i => A (i + 1)) (SB_now x)) ++ ((wNm cI cJ 32 (fun i => A (i + 9)) (Wb_blocks (SB_now x))) ++ ((wNm cI cJ 64 (fun i => A (i + 19)) (Wb_parts (SB_now x))) ++ ((oWb cI cJ (fun i => A (i + 24)) (SB_trial x)) ++ ((wNm cI cJ 32 (fun i => A (i + 32)) (Wb_blocks (SB_trial x))) ++ ((wNm cI cJ 32 (fun i => A (i + 37)) (Wb_lands (SB_trial x))) ++ ((wNm cI cJ 64 (fun i => A (i + 42)) (Wb_parts (SB_trial x))) ++ ((wPb cI cJ (fun i => A (i + 59)) (SB_book x)) ++ (wRo cI cJ (fun i => A (i + 64)) (SB_round x)))))))))))))) := hD.sub [47, 48, 49, 50, 51, 52, 53, 54, 55, 56, 57, 58, 14, 15, 16, 17, 18, 0, 1, 2, 3, 4, 5, 6, 7, 8, 9, 10, 11, 12, 13, 19, 20, 21, 22, 23, 24, 25, 26, 27, 28, 29, 30, 31, 32, 33, 34, 35, 36, 37, 38, 39, 40, 41, 42, 43, 44, 45, 46, 59, 60, 61, 62, 63, 64, 65] (by decide) rfl
                      refine kg_retWi (pre := []) (wc := wFo cI cJ (fun i => A (i + 47)) (SB_forest x) ++ (wNm cI cJ 32 (fun i => A (i + 14)) (Wb_lands (SB_now x)))) (post := (((oSB cI cJ A x) ++ ((oWb cI cJ (fun i => A (i + 1)) (SB_now x)) ++ ((wNm cI cJ 32 (fun i => A (i + 9)) (Wb_blocks (SB_now x))) ++ ((wNm cI cJ 64 (fun i => A (i + 19)) (Wb_parts (SB_now x))) ++ ((oWb cI cJ (fun i => A (i + 24)) (SB_trial x)) ++ ((wNm cI cJ 32 (fun i => A (i + 32)) (Wb_blocks (SB_trial x))) ++ ((wNm cI cJ 32 (fun i => A (i + 37)) (Wb_lands (SB_trial x))) ++ ((wNm cI cJ 64 (fun i => A (i + 42)) (Wb_parts (SB_trial x))) ++ ((wPb cI cJ (fun i => A (i + 59)) (SB_book x)) ++ (wRo cI cJ (fun i => A (i + 64)) (SB_round x))))))))))))) (w1 := wFo cI cJ (fun i => A (i + 47)) g189.2 ++ (wNm cI cJ 32 (fun i => A (i + 14)) (Wb_lands (SB_now x)))) rfl hPx hDx hS hA (va_runV (As := [.ref (A 14), .int v1]) (rest := []) ⟨hx, hb, hml, hown, hts⟩ (c_X0_longestLesser l dC dI cI cJ (fun i => A (i + 47)) (fun i => A (i + 14)) H.size (SB_forest x) 32 (Wb_lands (SB_now x)) v1 _ hc) (cwV 2 hts (gw_V wd_28_21 wd_28_18 wd_28_19 wd_28_20 wd_1_19) rfl rfl rfl qX0_longestLesser ⟨Nat.le_of_ble_eq_true rfl, Nat.le_of_ble_eq_true rfl⟩) (kg_preVW (ci := 0) (q := (RX0, TX0, 13)) (q0 := 0) (kg_cutP hPx) (kg_cutD hDx) hK hN rfl rfl) rfl rfl hl.1 rfl (lv_room (Nat.le_of_ble_eq_true rfl)) dX5_land_189 ⟨Nat.zero_le _, Nat.zero_le _⟩) (fun H locs hP hD hS => ?_)
                      have hP : va_P (dC, dI) vwCl (wSB cI cJ A (SB_set_forest x g189.2)) H := hP.sub [17, 18, 19, 20, 21, 22, 23, 24, 25, 26, 27, 28, 29, 30, 12, 13, 14, 15, 16, 31, 32, 33, 34, 35, 36, 37, 38, 39, 40, 41, 42, 43, 44, 45, 46, 47, 48, 49, 50, 51, 52, 53, 54, 55, 56, 57, 58, 0, 1, 2, 3, 4, 5, 6, 7, 8, 9, 10, 11, 59, 60, 61, 62, 63, 64, 65] rfl
                      have hD : va_D Q (wSB cI cJ A (SB_set_forest x g189.2)) := hD.sub [17, 18, 19, 20, 21, 22, 23, 24, 25, 26, 27, 28, 29, 30, 12, 13, 14, 15, 16, 31, 32, 33, 34, 35, 36, 37, 38, 39, 40, 41, 42, 43, 44, 45, 46, 47, 48, 49, 50, 51, 52, 53, 54, 55, 56, 57, 58, 0, 1, 2, 3, 4, 5, 6, 7, 8, 9, 10, 11, 59, 60, 61, 62, 63, 64, 65] (by decide) rfl
                      obtain rfl := Option.some.inj hf
                      exact kg_iretW hx hb hr hlk rfl hP hD hS dX5_land_192
                    · rw [if_neg hc8] at hf
                      by_cases hc9 : v2 = 9
                      · rw [if_pos hc9] at hf
                        refine lv_tableIn (tgt := 193) (off := 176) hx hb dX5_land_17 (by rw [hc9]; decide) (by rw [hc9]; decide) (by rw [hc9]; rfl) (by decide) ?_
                        refine lv_aload_n hx hb dX5_land_193 rfl (lv_at hl 0 rfl) ?_
                        refine va_get (D := (dC, dI)) (ci := 5) (v := .ref (A 47)) (C := RX5) (T := TX5) (N := 6) hx hb hts hiX5 hown hK hP 0 rfl rfl 2 (by decide) ww3 (fun _ h9 => h9) rfl dX5_land_194 ?_
                        refine lv_aload_n hx hb dX5_land_197 rfl (lv_at hl 0 rfl) ?_
                        refine va_get (D := (dC, dI)) (ci := 5) (v := .ref (A 1)) (C := RX5) (T := TX5) (N := 6) hx hb hts hiX5 hown hK hP 0 rfl rfl 0 (by decide) ww0 (fun _ h9 => h9) rfl dX5_land_198 ?_
                        refine va_get (D := (dC, dI)) (ci := 4) (v := .ref (A 14)) (C := RX4) (T := TX4) (N := 16) hx hb hts hiX4 hown hK hP 1 rfl rfl 8 (by decide) ww1 (fun _ h9 => h9) rfl dX5_land_201 ?_
                        refine lv_iload_n hx hb dX5_land_204 rfl (lv_at hl 1 rfl) ?_
                        obtain ⟨g205, hc, hf⟩ := ob_bind hf
                        have hPx : va_P (dC, dI) vwCl (([] : va_W) ++ ((wFo cI cJ (fun i => A (i + 47)) (SB_forest x) ++ (wNm cI cJ 32 (fun i => A (i + 14)) (Wb_lands (SB_now x)))) ++ (((oSB cI cJ A x) ++ ((oWb cI cJ (fun i => A (i + 1)) (SB_now x)) ++ ((wNm cI cJ 32 (fun i => A (i + 9)) (Wb_blocks (SB_now x))) ++ ((wNm cI cJ 64 (fun i => A (i + 19)) (Wb_parts (SB_now x))) ++ ((oWb cI cJ (fun i => A (i + 24)) (SB_trial x)) ++ ((wNm cI cJ 32 (fun i => A (i + 32)) (Wb_blocks (SB_trial x))) ++ ((wNm cI cJ 32 (fun i => A (i + 37)) (Wb_lands (SB_trial x))) ++ ((wNm cI cJ 64 (fun i => A (i + 42)) (Wb_parts (SB_trial x))) ++ ((wPb cI cJ (fun i => A (i + 59)) (SB_book x)) ++ (wRo cI cJ (fun i => A (i + 64)) (SB_round x)))))))))))))) H := hP.sub [47, 48, 49, 50, 51, 52, 53, 54, 55, 56, 57, 58, 14, 15, 16, 17, 18, 0, 1, 2, 3, 4, 5, 6, 7, 8, 9, 10, 11, 12, 13, 19, 20, 21, 22, 23, 24, 25, 26, 27, 28, 29, 30, 31, 32, 33, 34, 35, 36, 37, 38, 39, 40, 41, 42, 43, 44, 45, 46, 59, 60, 61, 62, 63, 64, 65] rfl
                        have hDx : va_D Q (([] : va_W) ++ ((wFo cI cJ (fun i => A (i + 47)) (SB_forest x) ++ (wNm cI cJ 32 (fun i => A (i + 14)) (Wb_lands (SB_now x)))) ++ (((oSB cI cJ A x) ++ ((oWb cI cJ (fun i => A (i + 1)) (SB_now x)) ++ ((wNm cI cJ 32 (fun i => A (i + 9)) (Wb_blocks (SB_now x))) ++ ((wNm cI cJ 64 (fun i => A (i + 19)) (Wb_parts (SB_now x))) ++ ((oWb cI cJ (fun i => A (i + 24)) (SB_trial x)) ++ ((wNm cI cJ 32 (fun i => A (i + 32)) (Wb_blocks (SB_trial x))) ++ ((wNm cI cJ 32 (fun i => A (i + 37)) (Wb_lands (SB_trial x))) ++ ((wNm cI cJ 64 (fun i => A (i + 42)) (Wb_parts (SB_trial x))) ++ ((wPb cI cJ (fun i => A (i + 59)) (SB_book x)) ++ (wRo cI cJ (fun i => A (i + 64)) (SB_round x)))))))))))))) := hD.sub [47, 48, 49, 50, 51, 52, 53, 54, 55, 56, 57, 58, 14, 15, 16, 17, 18, 0, 1, 2, 3, 4, 5, 6, 7, 8, 9, 10, 11, 12, 13, 19, 20, 21, 22, 23, 24, 25, 26, 27, 28, 29, 30, 31, 32, 33, 34, 35, 36, 37, 38, 39, 40, 41, 42, 43, 44, 45, 46, 59, 60, 61, 62, 63, 64, 65] (by decide) rfl
                        refine kg_retWi (pre := []) (wc := wFo cI cJ (fun i => A (i + 47)) (SB_forest x) ++ (wNm cI cJ 32 (fun i => A (i + 14)) (Wb_lands (SB_now x)))) (post := (((oSB cI cJ A x) ++ ((oWb cI cJ (fun i => A (i + 1)) (SB_now x)) ++ ((wNm cI cJ 32 (fun i => A (i + 9)) (Wb_blocks (SB_now x))) ++ ((wNm cI cJ 64 (fun i => A (i + 19)) (Wb_parts (SB_now x))) ++ ((oWb cI cJ (fun i => A (i + 24)) (SB_trial x)) ++ ((wNm cI cJ 32 (fun i => A (i + 32)) (Wb_blocks (SB_trial x))) ++ ((wNm cI cJ 32 (fun i => A (i + 37)) (Wb_lands (SB_trial x))) ++ ((wNm cI cJ 64 (fun i => A (i + 42)) (Wb_parts (SB_trial x))) ++ ((wPb cI cJ (fun i => A (i + 59)) (SB_book x)) ++ (wRo cI cJ (fun i => A (i + 64)) (SB_round x))))))))))))) (w1 := wFo cI cJ (fun i => A (i + 47)) g205.2 ++ (wNm cI cJ 32 (fun i => A (i + 14)) (Wb_lands (SB_now x)))) rfl hPx hDx hS hA (va_runV (As := [.ref (A 14), .int v1]) (rest := []) ⟨hx, hb, hml, hown, hts⟩ (c_X0_longestOther l dC dI cI cJ (fun i => A (i + 47)) (fun i => A (i + 14)) H.size (SB_forest x) 32 (Wb_lands (SB_now x)) v1 _ hc) (cwV 2 hts (gw_V wd_29_6 wd_29_3 wd_29_4 wd_29_5 wd_1_19) rfl rfl rfl qX0_longestOther ⟨Nat.le_of_ble_eq_true rfl, Nat.le_of_ble_eq_true rfl⟩) (kg_preVW (ci := 0) (q := (RX0, TX0, 13)) (q0 := 0) (kg_cutP hPx) (kg_cutD hDx) hK hN rfl rfl) rfl rfl hl.1 rfl (lv_room (Nat.le_of_ble_eq_true rfl)) dX5_land_205 ⟨Nat.zero_le _, Nat.zero_le _⟩) (fun H locs hP hD hS => ?_)
                        have hP : va_P (dC, dI) vwCl (wSB cI cJ A (SB_set_forest x g205.2)) H := hP.sub [17, 18, 19, 20, 21, 22, 23, 24, 25, 26, 27, 28, 29, 30, 12, 13, 14, 15, 16, 31, 32, 33, 34, 35, 36, 37, 38, 39, 40, 41, 42, 43, 44, 45, 46, 47, 48, 49, 50, 51, 52, 53, 54, 55, 56, 57, 58, 0, 1, 2, 3, 4, 5, 6, 7, 8, 9, 10, 11, 59, 60, 61, 62, 63, 64, 65] rfl
                        have hD : va_D Q (wSB cI cJ A (SB_set_forest x g205.2)) := hD.sub [17, 18, 19, 20, 21, 22, 23, 24, 25, 26, 27, 28, 29, 30, 12, 13, 14, 15, 16, 31, 32, 33, 34, 35, 36, 37, 38, 39, 40, 41, 42, 43, 44, 45, 46, 47, 48, 49, 50, 51, 52, 53, 54, 55, 56, 57, 58, 0, 1, 2, 3, 4, 5, 6, 7, 8, 9, 10, 11, 59, 60, 61, 62, 63, 64, 65] (by decide) rfl
                        obtain rfl := Option.some.inj hf
                        exact kg_iretW hx hb hr hlk rfl hP hD hS dX5_land_208
                      · rw [if_neg hc9] at hf
                        by_cases hc10 : v2 = 10
                        · rw [if_pos hc10] at hf
                          refine lv_tableIn (tgt := 209) (off := 192) hx hb dX5_land_17 (by rw [hc10]; decide) (by rw [hc10]; decide) (by rw [hc10]; rfl) (by decide) ?_
                          refine lv_aload_n hx hb dX5_land_209 rfl (lv_at hl 0 rfl) ?_
                          refine va_get (D := (dC, dI)) (ci := 5) (v := .ref (A 59)) (C := RX5) (T := TX5) (N := 6) hx hb hts hiX5 hown hK hP 0 rfl rfl 3 (by decide) ww4 (fun _ h9 => h9) rfl dX5_land_210 ?_
                          refine lv_aload_n hx hb dX5_land_213 rfl (lv_at hl 0 rfl) ?_
                          refine va_get (D := (dC, dI)) (ci := 5) (v := .ref (A 1)) (C := RX5) (T := TX5) (N := 6) hx hb hts hiX5 hown hK hP 0 rfl rfl 0 (by decide) ww0 (fun _ h9 => h9) rfl dX5_land_214 ?_
                          refine va_get (D := (dC, dI)) (ci := 4) (v := .ref (A 14)) (C := RX4) (T := TX4) (N := 16) hx hb hts hiX4 hown hK hP 1 rfl rfl 8 (by decide) ww1 (fun _ h9 => h9) rfl dX5_land_217 ?_
                          refine lv_iload_n hx hb dX5_land_220 rfl (lv_at hl 1 rfl) ?_
                          obtain ⟨g221, hc, hf⟩ := ob_bind hf
                          have hPc : va_P (dC, dI) vwCl (wPb cI cJ (fun i => A (i + 59)) (SB_book x) ++ (wNm cI cJ 32 (fun i => A (i + 14)) (Wb_lands (SB_now x)))) H := hP.sub [59, 60, 61, 62, 63, 14, 15, 16, 17, 18] rfl
                          refine kg_retRj (va_runV (As := [.ref (A 14), .int v1]) (rest := []) ⟨hx, hb, hml, hown, hts⟩ (c_X2_allAt l dC dI cI cJ (fun i => A (i + 59)) (fun i => A (i + 14)) H (SB_book x) 32 (Wb_lands (SB_now x)) v1 _ hc) (cwV 2 hts (gw_V wd_24_9 wd_24_6 wd_24_7 wd_24_8 wd_1_23) rfl rfl rfl qX2_allAt ⟨Nat.le_of_ble_eq_true rfl, Nat.le_of_ble_eq_true rfl⟩) (kg_preVR (ci := 2) (q := (RX2, TX2, 7)) (q0 := 0) hPc hK hN rfl rfl) rfl rfl hl.1 rfl (lv_room (Nat.le_of_ble_eq_true rfl)) dX5_land_221 ⟨Nat.zero_le _, Nat.zero_le _⟩) ?_
                          obtain ⟨g224, hc, hf⟩ := ob_bind hf
                          have hPc : va_P (dC, dI) vwCl ([] : va_W) H := fun k q h => by cases h
                          refine kg_retRi (va_runS (As := [.long g221]) (rest := []) ⟨hx, hb, hml, hown, hts⟩ (c_J13_bitCount l dC dI cI cJ  H g221 _ hc) (va_cwS 1 hts (gw_X wd_22_7 wd_22_4 wd_22_5 wd_22_6) rfl rfl rfl qJ13_bitCount_95d88_o ⟨Nat.le_of_ble_eq_true rfl, Nat.le_of_ble_eq_true rfl⟩) (kg_preSR hPc hK hN) rfl rfl hl.1 rfl (lv_room (Nat.le_of_ble_eq_true rfl)) dX5_land_224 ⟨Nat.zero_le _, Nat.zero_le _⟩) ?_
                          obtain rfl := Option.some.inj hf
                          exact kg_iretW hx hb hr hlk rfl hP hD hS dX5_land_227
                        · rw [if_neg hc10] at hf
                          have ehc0 := ne_toInt hc0 (k := 0) (by decide)
                          have ehc1 := ne_toInt hc1 (k := 1) (by decide)
                          have ehc2 := ne_toInt hc2 (k := 2) (by decide)
                          have ehc3 := ne_toInt hc3 (k := 3) (by decide)
                          have ehc4 := ne_toInt hc4 (k := 4) (by decide)
                          have ehc5 := ne_toInt hc5 (k := 5) (by decide)
                          have ehc6 := ne_toInt hc6 (k := 6) (by decide)
                          have ehc7 := ne_toInt hc7 (k := 7) (by decide)
                          have ehc8 := ne_toInt hc8 (k := 8) (by decide)
                          have ehc9 := ne_toInt hc9 (k := 9) (by decide)
                          have ehc10 := ne_toInt hc10 (k := 10) (by decide)
                          refine lv_tableOut (tgt := 228) hx hb dX5_land_17 (by omega) (by decide) ?_
                          refine lv_iconst (v := (-1)) hx hb dX5_land_228 (by decide) ?_
                          obtain rfl := Option.some.inj hf
                          exact kg_iretW hx hb hr hlk rfl hP hD hS dX5_land_229
  · refine lv_iconst (v := (-1)) hx hb dX5_land_14 (by decide) ?_
    obtain rfl := Option.some.inj hf
    exact kg_iretW hx hb hr hlk rfl hP hD hS dX5_land_15
set_option maxHeartbeats 4000000 in
set_option maxRecDepth 100000 in
theorem c_X5_centre (l : Launch) (dC : Nat → ClassId) (dI : Nat → Nat → Nat) (cI cJ : ClassId) (A : Nat → Nat) (hq : Nat) (x : SBS) (v1 : Int32) (r0 : (Int32 × SBS)) (hf : SB_m_centre x v1 = some r0) : MWi l yX5_centre (wAll yX5_centre cX5_centre 2 (some .int)) ({ frames := 5, cells := 0, slots := 0, locals := 138 } : Room) [.ref (A 0), .int v1] hq (dC, dI) (vTy cI cJ) (wSB cI cJ A x) (wSB cI cJ A r0.2) r0.1 := by
  refine kg_metW (Qc := fun Q => QWi (dC, dI) Q (wSB cI cJ A r0.2) r0.1) (cc := cX5_centre) (maxL := 2) (ret := (some .int)) (by decide) rfl (Nat.le_of_ble_eq_true rfl) ?_
  intro p e s m args below meth c Q hx hb hr hts hown hlk hml hP hK hN hD hA hS ls hl
  have hl : lv_has ls 2 [(0, .ref (A 0)), (1, .int v1)] := hl
  have ww0 := hts (.fieldLink RX5 12 "SafeBlocks" "now" "LSafeBlocks$Web;") (List.mem_cons_of_mem _ wd_1_15)
  have ww1 := hts (.fieldLink RX5 121 "SafeBlocks$Web" "lands" "LSafeBlocks$Names;") (List.mem_cons_of_mem _ wd_18_8)
  have ww2 := hts (.fieldLink RX5 22 "SafeBlocks" "forest" "LSafeBlocks$Forest;") (List.mem_cons_of_mem _ wd_1_20)
  have hiX5 : ∀ w ∈ u_ws RX5 TX5 6, w ∈ wAll yX5_centre cX5_centre 2 (some .int) := fun w h => List.mem_cons_of_mem _ (inlX5 w h)
  have hiX4 : ∀ w ∈ u_ws RX4 TX4 16, w ∈ wAll yX5_centre cX5_centre 2 (some .int) := fun w h => List.mem_cons_of_mem _ (inlX4 w h)
  suffices hgo : ∀ (H : Heap) (locs : List Loc), va_P (dC, dI) vwCl (wSB cI cJ A x) H → va_S Q s.heap H locs → W p l e ({ frames := 5, cells := 0, slots := 0, locals := 138 } : Room) s m args below meth c H locs 0 0 (MQ below (QWi (dC, dI) Q (wSB cI cJ A r0.2) r0.1) args s 0 0 Q) (F0 m 0 ls []) from hgo _ _ hP hS
  clear hP hS
  intro H locs hP hS
  unfold SB_m_centre at hf
  refine lv_aload_n hx hb dX5_centre_0 rfl (lv_at hl 0 rfl) ?_
  refine va_get (D := (dC, dI)) (ci := 5) (v := .ref (A 1)) (C := RX5) (T := TX5) (N := 6) hx hb hts hiX5 hown hK hP 0 rfl rfl 0 (by decide) ww0 (fun _ h9 => h9) rfl dX5_centre_1 ?_
  refine va_get (D := (dC, dI)) (ci := 4) (v := .ref (A 14)) (C := RX4) (T := TX4) (N := 16) hx hb hts hiX4 hown hK hP 1 rfl rfl 8 (by decide) ww1 (fun _ h9 => h9) rfl dX5_centre_4 ?_
  refine lv_iload_n hx hb dX5_centre_7 rfl (lv_at hl 1 rfl) ?_
  obtain ⟨g8, hc, hf⟩ := ob_bind hf
  have hPc : va_P (dC, dI) vwCl (wNm cI cJ 32 (fun i => A (i + 14)) (Wb_lands (SB_now x))) H := hP.sub [14, 15, 16, 17, 18] rfl
  refine kg_retRi (va_runV (As := [.int v1]) (rest := []) ⟨hx, hb, hml, hown, hts⟩ (c_X1_lives l dC dI cI cJ (fun i => A (i + 14)) H 32 (Wb_lands (SB_now x)) v1 _ hc) (cwV 1 hts (gw_V wd_6_18 wd_23_17 wd_6_16 wd_6_17 wd_2_20) rfl rfl rfl qX1_lives ⟨Nat.le_of_ble_eq_true rfl, Nat.le_of_ble_eq_true rfl⟩) (kg_preVR (ci := 1) (q := (RX1, TX1, 6)) (q0 := 0) hPc hK hN rfl rfl) rfl rfl hl.1 rfl (lv_room (Nat.le_of_ble_eq_true rfl)) dX5_centre_8 ⟨Nat.zero_le _, Nat.zero_le _⟩) ?_
  refine kg_b_eq (tgt := 32) hx hb hf dX5_centre_11 (by decide) (fun hc hf => ?_) (fun hc hf => ?_)
  · refine lv_iconst (v := (-1)) hx hb dX5_centre_32 (by decide) ?_
    obtain rfl := Option.some.inj hf
    exact kg_iretW hx hb hr hlk rfl hP hD hS dX5_centre_33
  · refine lv_aload_n hx hb dX5_centre_14 rfl (lv_at hl 0 rfl) ?_
    refine va_get (D := (dC, dI)) (ci := 5) (v := .ref (A 47)) (C := RX5) (T := TX5) (N := 6) hx hb hts hiX5 hown hK hP 0 rfl rfl 2 (by decide) ww2 (fun _ h9 => h9) rfl dX5_centre_15 ?_
    refine lv_aload_n hx hb dX5_centre_18 rfl (lv_at hl 0 rfl) ?_
    refine va_get (D := (dC, dI)) (ci := 5) (v := .ref (A 1)) (C := RX5) (T := TX5) (N := 6) hx hb hts hiX5 hown hK hP 0 rfl rfl 0 (by decide) ww0 (fun _ h9 => h9) rfl dX5_centre_19 ?_
    refine va_get (D := (dC, dI)) (ci := 4) (v := .ref (A 14)) (C := RX4) (T := TX4) (N := 16) hx hb hts hiX4 hown hK hP 1 rfl rfl 8 (by decide) ww1 (fun _ h9 => h9) rfl dX5_centre_22 ?_
    refine lv_iload_n hx hb dX5_centre_25 rfl (lv_at hl 1 rfl) ?_
    obtain ⟨g26, hc, hf⟩ := ob_bind hf
    have hPx : va_P (dC, dI) vwCl (([] : va_W) ++ ((wFo cI cJ (fun i => A (i + 47)) (SB_forest x) ++ (wNm cI cJ 32 (fun i => A (i + 14)) (Wb_lands (SB_now x)))) ++ (((oSB cI cJ A x) ++ ((oWb cI cJ (fun i => A (i + 1)) (SB_now x)) ++ ((wNm cI cJ 32 (fun i => A (i + 9)) (Wb_blocks (SB_now x))) ++ ((wNm cI cJ 64 (fun i => A (i + 19)) (Wb_parts (SB_now x))) ++ ((oWb cI cJ (fun i => A (i + 24)) (SB_trial x)) ++ ((wNm cI cJ 32 (fun i => A (i + 32)) (Wb_blocks (SB_trial x))) ++ ((wNm cI cJ 32 (fun i => A (i + 37)) (Wb_lands (SB_trial x))) ++ ((wNm cI cJ 64 (fun i => A (i + 42)) (Wb_parts (SB_trial x))) ++ ((wPb cI cJ (fun i => A (i + 59)) (SB_book x)) ++ (wRo cI cJ (fun i => A (i + 64)) (SB_round x)))))))))))))) H := hP.sub [47, 48, 49, 50, 51, 52, 53, 54, 55, 56, 57, 58, 14, 15, 16, 17, 18, 0, 1, 2, 3, 4, 5, 6, 7, 8, 9, 10, 11, 12, 13, 19, 20, 21, 22, 23, 24, 25, 26, 27, 28, 29, 30, 31, 32, 33, 34, 35, 36, 37, 38, 39, 40, 41, 42, 43, 44, 45, 46, 59, 60, 61, 62, 63, 64, 65] rfl
    have hDx : va_D Q (([] : va_W) ++ ((wFo cI cJ (fun i => A (i + 47)) (SB_forest x) ++ (wNm cI cJ 32 (fun i => A (i + 14)) (Wb_lands (SB_now x)))) ++ (((oSB cI cJ A x) ++ ((oWb cI cJ (fun i => A (i + 1)) (SB_now x)) ++ ((wNm cI cJ 32 (fun i => A (i + 9)) (Wb_blocks (SB_now x))) ++ ((wNm cI cJ 64 (fun i => A (i + 19)) (Wb_parts (SB_now x))) ++ ((oWb cI cJ (fun i => A (i + 24)) (SB_trial x)) ++ ((wNm cI cJ 32 (fun i => A (i + 32)) (Wb_blocks (SB_trial x))) ++ ((wNm cI cJ 32 (fun i => A (i + 37)) (Wb_lands (SB_trial x))) ++ ((wNm cI cJ 64 (fun i => A (i + 42)) (Wb_parts (SB_trial x))) ++ ((wPb cI cJ (fun i => A (i + 59)) (SB_book x)) ++ (wRo cI cJ (fun i => A (i + 64)) (SB_round x)))))))))))))) := hD.sub [47, 48, 49, 50, 51, 52, 53, 54, 55, 56, 57, 58, 14, 15, 16, 17, 18, 0, 1, 2, 3, 4, 5, 6, 7, 8, 9, 10, 11, 12, 13, 19, 20, 21, 22, 23, 24, 25, 26, 27, 28, 29, 30, 31, 32, 33, 34, 35, 36, 37, 38, 39, 40, 41, 42, 43, 44, 45, 46, 59, 60, 61, 62, 63, 64, 65] (by decide) rfl
    refine kg_retWi (pre := []) (wc := wFo cI cJ (fun i => A (i + 47)) (SB_forest x) ++ (wNm cI cJ 32 (fun i => A (i + 14)) (Wb_lands (SB_now x)))) (post := (((oSB cI cJ A x) ++ ((oWb cI cJ (fun i => A (i + 1)) (SB_now x)) ++ ((wNm cI cJ 32 (fun i => A (i + 9)) (Wb_blocks (SB_now x))) ++ ((wNm cI cJ 64 (fun i => A (i + 19)) (Wb_parts (SB_now x))) ++ ((oWb cI cJ (fun i => A (i + 24)) (SB_trial x)) ++ ((wNm cI cJ 32 (fun i => A (i + 32)) (Wb_blocks (SB_trial x))) ++ ((wNm cI cJ 32 (fun i => A (i + 37)) (Wb_lands (SB_trial x))) ++ ((wNm cI cJ 64 (fun i => A (i + 42)) (Wb_parts (SB_trial x))) ++ ((wPb cI cJ (fun i => A (i + 59)) (SB_book x)) ++ (wRo cI cJ (fun i => A (i + 64)) (SB_round x))))))))))))) (w1 := wFo cI cJ (fun i => A (i + 47)) g26.2 ++ (wNm cI cJ 32 (fun i => A (i + 14)) (Wb_lands (SB_now x)))) rfl hPx hDx hS hA (va_runV (As := [.ref (A 14), .int v1]) (rest := []) ⟨hx, hb, hml, hown, hts⟩ (c_X0_middle l dC dI cI cJ (fun i => A (i + 47)) (fun i => A (i + 14)) H.size (SB_forest x) 32 (Wb_lands (SB_now x)) v1 _ hc) (cwV 2 hts (gw_V wd_38_18 wd_38_15 wd_38_16 wd_38_17 wd_1_19) rfl rfl rfl qX0_middle ⟨Nat.le_of_ble_eq_true rfl, Nat.le_of_ble_eq_true rfl⟩) (kg_preVW (ci := 0) (q := (RX0, TX0, 13)) (q0 := 0) (kg_cutP hPx) (kg_cutD hDx) hK hN rfl rfl) rfl rfl hl.1 rfl (lv_room (Nat.le_of_ble_eq_true rfl)) dX5_centre_26 ⟨Nat.zero_le _, Nat.zero_le _⟩) (fun H locs hP hD hS => ?_)
    have hP : va_P (dC, dI) vwCl (wSB cI cJ A (SB_set_forest x g26.2)) H := hP.sub [17, 18, 19, 20, 21, 22, 23, 24, 25, 26, 27, 28, 29, 30, 12, 13, 14, 15, 16, 31, 32, 33, 34, 35, 36, 37, 38, 39, 40, 41, 42, 43, 44, 45, 46, 47, 48, 49, 50, 51, 52, 53, 54, 55, 56, 57, 58, 0, 1, 2, 3, 4, 5, 6, 7, 8, 9, 10, 11, 59, 60, 61, 62, 63, 64, 65] rfl
    have hD : va_D Q (wSB cI cJ A (SB_set_forest x g26.2)) := hD.sub [17, 18, 19, 20, 21, 22, 23, 24, 25, 26, 27, 28, 29, 30, 12, 13, 14, 15, 16, 31, 32, 33, 34, 35, 36, 37, 38, 39, 40, 41, 42, 43, 44, 45, 46, 47, 48, 49, 50, 51, 52, 53, 54, 55, 56, 57, 58, 0, 1, 2, 3, 4, 5, 6, 7, 8, 9, 10, 11, 59, 60, 61, 62, 63, 64, 65] (by decide) rfl
    refine lv_goto (tgt := 33) hx hb dX5_centre_29 (by decide) ?_
    obtain rfl := Option.some.inj hf
    exact kg_iretW hx hb hr hlk rfl hP hD hS dX5_centre_33
set_option maxHeartbeats 4000000 in
set_option maxRecDepth 100000 in
theorem c_X5_since (l : Launch) (dC : Nat → ClassId) (dI : Nat → Nat → Nat) (cI cJ : ClassId) (A : Nat → Nat) (hq : Nat) (x : SBS) (v1 : Int32) (v2 : Int32) (v3 : Int32) (r0 : (Int32 × SBS)) (hf : SB_m_since x v1 v2 v3 = some r0) : MWi l yX5_since (wAll yX5_since cX5_since 5 (some .int)) ({ frames := 4, cells := 0, slots := 0, locals := 113 } : Room) [.ref (A 0), .int v1, .int v2, .int v3] hq (dC, dI) (vTy cI cJ) (wSB cI cJ A x) (wSB cI cJ A r0.2) r0.1 := by
  refine kg_metW (Qc := fun Q => QWi (dC, dI) Q (wSB cI cJ A r0.2) r0.1) (cc := cX5_since) (maxL := 5) (ret := (some .int)) (by decide) rfl (Nat.le_of_ble_eq_true rfl) ?_
  intro p e s m args below meth c Q hx hb hr hts hown hlk hml hP hK hN hD hA hS ls hl
  have hl : lv_has ls 5 [(0, .ref (A 0)), (1, .int v1), (2, .int v2), (3, .int v3)] := hl
  have ww0 := hts (.fieldLink RX5 12 "SafeBlocks" "now" "LSafeBlocks$Web;") (List.mem_cons_of_mem _ wd_1_15)
  have hiX5 : ∀ w ∈ u_ws RX5 TX5 6, w ∈ wAll yX5_since cX5_since 5 (some .int) := fun w h => List.mem_cons_of_mem _ (inlX5 w h)
  suffices hgo : ∀ (H : Heap) (locs : List Loc), va_P (dC, dI) vwCl (wSB cI cJ A x) H → va_S Q s.heap H locs → W p l e ({ frames := 4, cells := 0, slots := 0, locals := 113 } : Room) s m args below meth c H locs 0 0 (MQ below (QWi (dC, dI) Q (wSB cI cJ A r0.2) r0.1) args s 0 0 Q) (F0 m 0 ls []) from hgo _ _ hP hS
  clear hP hS
  intro H locs hP hS
  unfold SB_m_since at hf
  refine lv_aload_n hx hb dX5_since_0 rfl (lv_at hl 0 rfl) ?_
  refine lv_iload_n hx hb dX5_since_1 rfl (lv_at hl 1 rfl) ?_
  refine lv_iload_n hx hb dX5_since_2 rfl (lv_at hl 2 rfl) ?_
  obtain ⟨g3, hc, hf⟩ := ob_bind hf
  have hPc : va_P (dC, dI) vwCl (wSB cI cJ A x) H := hP
  refine kg_retRi (va_runV (As := [.int v1, .int v2]) (rest := []) ⟨hx, hb, hml, hown, hts⟩ (c_X5_areTwoNodes l dC dI cI cJ A H x v1 v2 _ hc) (cwV 2 hts (gw_V wd_9_19 wd_9_16 wd_9_17 wd_9_18 wd_1_2) rfl rfl rfl qX5_areTwoNodes ⟨Nat.le_of_ble_eq_true rfl, Nat.le_of_ble_eq_true rfl⟩) (kg_preVR (ci := 5) (q := (RX5, TX5, 6)) (q0 := 0) hPc hK hN rfl rfl) rfl rfl hl.1 rfl (lv_room (Nat.le_of_ble_eq_true rfl)) dX5_since_3 ⟨Nat.zero_le _, Nat.zero_le _⟩) ?_
  refine kg_b_ne (tgt := 11) hx hb hf dX5_since_6 (by decide) (fun hc hf => ?_) (fun hc hf => ?_)
  · refine lv_aload_n hx hb dX5_since_11 rfl (lv_at hl 0 rfl) ?_
    refine va_get (D := (dC, dI)) (ci := 5) (v := .ref (A 1)) (C := RX5) (T := TX5) (N := 6) hx hb hts hiX5 hown hK hP 0 rfl rfl 0 (by decide) ww0 (fun _ h9 => h9) rfl dX5_since_12 ?_
    refine lv_iload_n hx hb dX5_since_15 rfl (lv_at hl 1 rfl) ?_
    refine lv_iload_n hx hb dX5_since_16 rfl (lv_at hl 2 rfl) ?_
    obtain ⟨g17, hc, hf⟩ := ob_bind hf
    have hPx := kg_eqP (sp_SB_now cI cJ A x) hP
    have hDx := kg_eqD (sp_SB_now cI cJ A x) hD
    refine kg_retWi (pre := (oSB cI cJ A x)) (wc := wWb cI cJ (fun i => A (i + 1)) (SB_now x)) (post := (oWb cI cJ (fun i => A (i + 24)) (SB_trial x)) ++ ((wNm cI cJ 32 (fun i => A (i + 32)) (Wb_blocks (SB_trial x))) ++ ((wNm cI cJ 32 (fun i => A (i + 37)) (Wb_lands (SB_trial x))) ++ ((wNm cI cJ 64 (fun i => A (i + 42)) (Wb_parts (SB_trial x))) ++ ((wFo cI cJ (fun i => A (i + 47)) (SB_forest x)) ++ ((wPb cI cJ (fun i => A (i + 59)) (SB_book x)) ++ ((wRo cI cJ (fun i => A (i + 64)) (SB_round x))))))))) (w1 := wWb cI cJ (fun i => A (i + 1)) g17.2) (wz := (wSB cI cJ A (SB_set_now x g17.2))) (sj_SB_now _ _ _ _ _) hPx hDx hS hA (va_runV (As := [.int v1, .int v2]) (rest := []) ⟨hx, hb, hml, hown, hts⟩ (c_X4_trace l dC dI cI cJ (fun i => A (i + 1)) H.size (SB_now x) v1 v2 _ hc) (cwV 2 hts (gw_V wd_10_13 wd_33_16 wd_10_11 wd_10_12 wd_1_14) rfl rfl rfl qX4_trace ⟨Nat.le_of_ble_eq_true rfl, Nat.le_of_ble_eq_true rfl⟩) (kg_preVW (ci := 4) (q := (RX4, TX4, 16)) (q0 := 0) (kg_cutP hPx) (kg_cutD hDx) hK hN rfl rfl) rfl rfl hl.1 rfl (lv_room (Nat.le_of_ble_eq_true rfl)) dX5_since_17 ⟨Nat.zero_le _, Nat.zero_le _⟩) (fun H locs hP hD hS => ?_)
    refine lv_istore (lv' := [(4, .int g17.1), (0, .ref (A 0)), (1, .int v1), (2, .int v2), (3, .int v3)]) hx hb dX5_since_20 hl (by decide) rfl (fun ls hl => ?_)
    refine lv_iload hx hb dX5_since_22 (lv_at hl 0 rfl) ?_
    refine lv_iconst (v := (-1)) hx hb dX5_since_24 (by decide) ?_
    refine kg_icmp_ne (tgt := 30) hx hb hf dX5_since_25 (by decide) (fun hc hf => ?_) (fun hc hf => ?_)
    · refine lv_iload_n hx hb dX5_since_30 rfl (lv_at hl 4 rfl) ?_
      by_cases hc0 : v3 = 0
      · rw [if_pos hc0] at hf
        refine lv_tableIn (tgt := 56) (off := 25) hx hb dX5_since_31 (by rw [hc0]; decide) (by rw [hc0]; decide) (by rw [hc0]; rfl) (by decide) ?_
        refine lv_aload_n hx hb dX5_since_56 rfl (lv_at hl 1 rfl) ?_
        refine va_get (D := (dC, dI)) (ci := 5) (v := .ref (A 1)) (C := RX5) (T := TX5) (N := 6) hx hb hts hiX5 hown hK hP 0 rfl rfl 0 (by decide) ww0 (fun _ h9 => h9) rfl dX5_since_57 ?_
        refine lv_iload hx hb dX5_since_60 (lv_at hl 0 rfl) ?_
        obtain ⟨g62, hc, hf⟩ := ob_bind hf
        have hPc : va_P (dC, dI) vwCl (wWb cI cJ (fun i => A (i + 1)) (SB_now (SB_set_now x g17.2))) H := hP.sub [1, 2, 3, 4, 5, 6, 7, 8, 9, 10, 11, 12, 13, 14, 15, 16, 17, 18, 19, 20, 21, 22, 23] rfl
        refine kg_retRi (va_runV (As := [.int g17.1]) (rest := []) ⟨hx, hb, hml, hown, hts⟩ (c_X4_landSince l dC dI cI cJ (fun i => A (i + 1)) H (SB_now (SB_set_now x g17.2)) g17.1 _ hc) (cwV 1 hts (gw_V wd_34_13 wd_34_10 wd_34_11 wd_34_12 wd_1_14) rfl rfl rfl qX4_landSince ⟨Nat.le_of_ble_eq_true rfl, Nat.le_of_ble_eq_true rfl⟩) (kg_preVR (ci := 4) (q := (RX4, TX4, 16)) (q0 := 0) hPc hK hN rfl rfl) rfl rfl hl.1 rfl (lv_room (Nat.le_of_ble_eq_true rfl)) dX5_since_62 ⟨Nat.zero_le _, Nat.zero_le _⟩) ?_
        obtain rfl := Option.some.inj hf
        exact kg_iretW hx hb hr hlk rfl hP hD hS dX5_since_65
      · rw [if_neg hc0] at hf
        by_cases hc1 : v3 = 1
        · rw [if_pos hc1] at hf
          refine lv_tableIn (tgt := 66) (off := 35) hx hb dX5_since_31 (by rw [hc1]; decide) (by rw [hc1]; decide) (by rw [hc1]; rfl) (by decide) ?_
          refine lv_aload_n hx hb dX5_since_66 rfl (lv_at hl 1 rfl) ?_
          refine va_get (D := (dC, dI)) (ci := 5) (v := .ref (A 1)) (C := RX5) (T := TX5) (N := 6) hx hb hts hiX5 hown hK hP 0 rfl rfl 0 (by decide) ww0 (fun _ h9 => h9) rfl dX5_since_67 ?_
          refine lv_iload hx hb dX5_since_70 (lv_at hl 0 rfl) ?_
          obtain ⟨g72, hc, hf⟩ := ob_bind hf
          have hPc : va_P (dC, dI) vwCl (wWb cI cJ (fun i => A (i + 1)) (SB_now (SB_set_now x g17.2))) H := hP.sub [1, 2, 3, 4, 5, 6, 7, 8, 9, 10, 11, 12, 13, 14, 15, 16, 17, 18, 19, 20, 21, 22, 23] rfl
          refine kg_retRi (va_runV (As := [.int g17.1]) (rest := []) ⟨hx, hb, hml, hown, hts⟩ (c_X4_blockSince l dC dI cI cJ (fun i => A (i + 1)) H (SB_now (SB_set_now x g17.2)) g17.1 _ hc) (cwV 1 hts (gw_V wd_34_18 wd_34_15 wd_34_16 wd_34_17 wd_1_14) rfl rfl rfl qX4_blockSince ⟨Nat.le_of_ble_eq_true rfl, Nat.le_of_ble_eq_true rfl⟩) (kg_preVR (ci := 4) (q := (RX4, TX4, 16)) (q0 := 0) hPc hK hN rfl rfl) rfl rfl hl.1 rfl (lv_room (Nat.le_of_ble_eq_true rfl)) dX5_since_72 ⟨Nat.zero_le _, Nat.zero_le _⟩) ?_
          obtain rfl := Option.some.inj hf
          exact kg_iretW hx hb hr hlk rfl hP hD hS dX5_since_75
        · rw [if_neg hc1] at hf
          by_cases hc2 : v3 = 2
          · rw [if_pos hc2] at hf
            refine lv_tableIn (tgt := 76) (off := 45) hx hb dX5_since_31 (by rw [hc2]; decide) (by rw [hc2]; decide) (by rw [hc2]; rfl) (by decide) ?_
            refine lv_aload_n hx hb dX5_since_76 rfl (lv_at hl 1 rfl) ?_
            refine va_get (D := (dC, dI)) (ci := 5) (v := .ref (A 1)) (C := RX5) (T := TX5) (N := 6) hx hb hts hiX5 hown hK hP 0 rfl rfl 0 (by decide) ww0 (fun _ h9 => h9) rfl dX5_since_77 ?_
            refine lv_iload hx hb dX5_since_80 (lv_at hl 0 rfl) ?_
            obtain ⟨g82, hc, hf⟩ := ob_bind hf
            have hPc : va_P (dC, dI) vwCl (wWb cI cJ (fun i => A (i + 1)) (SB_now (SB_set_now x g17.2))) H := hP.sub [1, 2, 3, 4, 5, 6, 7, 8, 9, 10, 11, 12, 13, 14, 15, 16, 17, 18, 19, 20, 21, 22, 23] rfl
            refine kg_retRi (va_runV (As := [.int g17.1]) (rest := []) ⟨hx, hb, hml, hown, hts⟩ (c_X4_ringSince l dC dI cI cJ (fun i => A (i + 1)) H (SB_now (SB_set_now x g17.2)) g17.1 _ hc) (cwV 1 hts (gw_V wd_34_22 wd_34_19 wd_34_20 wd_34_21 wd_1_14) rfl rfl rfl qX4_ringSince ⟨Nat.le_of_ble_eq_true rfl, Nat.le_of_ble_eq_true rfl⟩) (kg_preVR (ci := 4) (q := (RX4, TX4, 16)) (q0 := 0) hPc hK hN rfl rfl) rfl rfl hl.1 rfl (lv_room (Nat.le_of_ble_eq_true rfl)) dX5_since_82 ⟨Nat.zero_le _, Nat.zero_le _⟩) ?_
            obtain rfl := Option.some.inj hf
            exact kg_iretW hx hb hr hlk rfl hP hD hS dX5_since_85
          · rw [if_neg hc2] at hf
            have ehc0 := ne_toInt hc0 (k := 0) (by decide)
            have ehc1 := ne_toInt hc1 (k := 1) (by decide)
            have ehc2 := ne_toInt hc2 (k := 2) (by decide)
            refine lv_tableOut (tgt := 86) hx hb dX5_since_31 (by omega) (by decide) ?_
            refine lv_iconst (v := (-1)) hx hb dX5_since_86 (by decide) ?_
            obtain rfl := Option.some.inj hf
            exact kg_iretW hx hb hr hlk rfl hP hD hS dX5_since_87
    · refine lv_iconst (v := (-1)) hx hb dX5_since_28 (by decide) ?_
      obtain rfl := Option.some.inj hf
      exact kg_iretW hx hb hr hlk rfl hP hD hS dX5_since_29
  · refine lv_iconst (v := (-1)) hx hb dX5_since_9 (by decide) ?_
    obtain rfl := Option.some.inj hf
    exact kg_iretW hx hb hr hlk rfl hP hD hS dX5_since_10
set_option maxHeartbeats 4000000 in
set_option maxRecDepth 100000 in
theorem c_X5_way (l : Launch) (dC : Nat → ClassId) (dI : Nat → Nat → Nat) (cI cJ : ClassId) (A : Nat → Nat) (hq : Nat) (x : SBS) (v1 : Int32) (v2 : Int32) (v3 : Int32) (r0 : (Int32 × SBS)) (hf : SB_m_way x v1 v2 v3 = some r0) : MWi l yX5_way (wAll yX5_way cX5_way 7 (some .int)) ({ frames := 3, cells := 0, slots := 0, locals := 98 } : Room) [.ref (A 0), .int v1, .int v2, .int v3] hq (dC, dI) (vTy cI cJ) (wSB cI cJ A x) (wSB cI cJ A r0.2) r0.1 := by
  refine kg_metW (Qc := fun Q => QWi (dC, dI) Q (wSB cI cJ A r0.2) r0.1) (cc := cX5_way) (maxL := 7) (ret := (some .int)) (by decide) rfl (Nat.le_of_ble_eq_true rfl) ?_
  intro p e s m args below meth c Q hx hb hr hts hown hlk hml hP hK hN hD hA hS ls hl
  have hl : lv_has ls 7 [(0, .ref (A 0)), (1, .int v1), (2, .int v2), (3, .int v3)] := hl
  have ww0 := hts (.fieldLink RX5 12 "SafeBlocks" "now" "LSafeBlocks$Web;") (List.mem_cons_of_mem _ wd_1_15)
  have ww1 := hts (.fieldLink RX5 263 "SafeBlocks$Web" "wayLink" "[I") (List.mem_cons_of_mem _ wd_33_15)
  have hiX5 : ∀ w ∈ u_ws RX5 TX5 6, w ∈ wAll yX5_way cX5_way 7 (some .int) := fun w h => List.mem_cons_of_mem _ (inlX5 w h)
  have hiX4 : ∀ w ∈ u_ws RX4 TX4 16, w ∈ wAll yX5_way cX5_way 7 (some .int) := fun w h => List.mem_cons_of_mem _ (inlX4 w h)
  suffices hgo : ∀ (H : Heap) (locs : List Loc), va_P (dC, dI) vwCl (wSB cI cJ A x) H → va_S Q s.heap H locs → W p l e ({ frames := 3, cells := 0, slots := 0, locals := 98 } : Room) s m args below meth c H locs 0 0 (MQ below (QWi (dC, dI) Q (wSB cI cJ A r0.2) r0.1) args s 0 0 Q) (F0 m 0 ls []) from hgo _ _ hP hS
  clear hP hS
  intro H locs hP hS
  unfold SB_m_way at hf
  refine lv_aload_n hx hb dX5_way_0 rfl (lv_at hl 0 rfl) ?_
  refine lv_iload_n hx hb dX5_way_1 rfl (lv_at hl 1 rfl) ?_
  obtain ⟨g2, hc, hf⟩ := ob_bind hf
  have hPc : va_P (dC, dI) vwCl (wSB cI cJ A x) H := hP
  refine kg_retRi (va_runV (As := [.int v1]) (rest := []) ⟨hx, hb, hml, hown, hts⟩ (c_X5_isNode l dC dI cI cJ A H x v1 _ hc) (cwV 1 hts (gw_V wd_9_23 wd_9_20 wd_9_21 wd_9_22 wd_1_2) rfl rfl rfl qX5_isNode ⟨Nat.le_of_ble_eq_true rfl, Nat.le_of_ble_eq_true rfl⟩) (kg_preVR (ci := 5) (q := (RX5, TX5, 6)) (q0 := 0) hPc hK hN rfl rfl) rfl rfl hl.1 rfl (lv_room (Nat.le_of_ble_eq_true rfl)) dX5_way_2 ⟨Nat.zero_le _, Nat.zero_le _⟩) ?_
  refine kg_b_eq (tgt := 16) hx hb hf dX5_way_5 (by decide) (fun hc hf => ?_) (fun hc hf => ?_)
  · refine lv_iconst (v := (-1)) hx hb dX5_way_16 (by decide) ?_
    obtain rfl := Option.some.inj hf
    exact kg_iretW hx hb hr hlk rfl hP hD hS dX5_way_17
  · refine lv_aload_n hx hb dX5_way_8 rfl (lv_at hl 0 rfl) ?_
    refine lv_iload_n hx hb dX5_way_9 rfl (lv_at hl 2 rfl) ?_
    obtain ⟨g10, hc, hf⟩ := ob_bind hf
    have hPc : va_P (dC, dI) vwCl (wSB cI cJ A x) H := hP
    refine kg_retRi (va_runV (As := [.int v2]) (rest := []) ⟨hx, hb, hml, hown, hts⟩ (c_X5_isNode l dC dI cI cJ A H x v2 _ hc) (cwV 1 hts (gw_V wd_9_23 wd_9_20 wd_9_21 wd_9_22 wd_1_2) rfl rfl rfl qX5_isNode ⟨Nat.le_of_ble_eq_true rfl, Nat.le_of_ble_eq_true rfl⟩) (kg_preVR (ci := 5) (q := (RX5, TX5, 6)) (q0 := 0) hPc hK hN rfl rfl) rfl rfl hl.1 rfl (lv_room (Nat.le_of_ble_eq_true rfl)) dX5_way_10 ⟨Nat.zero_le _, Nat.zero_le _⟩) ?_
    refine kg_b_ne (tgt := 18) hx hb hf dX5_way_13 (by decide) (fun hc hf => ?_) (fun hc hf => ?_)
    · refine lv_aload_n hx hb dX5_way_18 rfl (lv_at hl 0 rfl) ?_
      refine va_get (D := (dC, dI)) (ci := 5) (v := .ref (A 1)) (C := RX5) (T := TX5) (N := 6) hx hb hts hiX5 hown hK hP 0 rfl rfl 0 (by decide) ww0 (fun _ h9 => h9) rfl dX5_way_19 ?_
      refine lv_iload_n hx hb dX5_way_22 rfl (lv_at hl 1 rfl) ?_
      refine lv_iload_n hx hb dX5_way_23 rfl (lv_at hl 2 rfl) ?_
      obtain ⟨g24, hc, hf⟩ := ob_bind hf
      have hPx := kg_eqP (sp_SB_now cI cJ A x) hP
      have hDx := kg_eqD (sp_SB_now cI cJ A x) hD
      refine kg_retWi (pre := (oSB cI cJ A x)) (wc := wWb cI cJ (fun i => A (i + 1)) (SB_now x)) (post := (oWb cI cJ (fun i => A (i + 24)) (SB_trial x)) ++ ((wNm cI cJ 32 (fun i => A (i + 32)) (Wb_blocks (SB_trial x))) ++ ((wNm cI cJ 32 (fun i => A (i + 37)) (Wb_lands (SB_trial x))) ++ ((wNm cI cJ 64 (fun i => A (i + 42)) (Wb_parts (SB_trial x))) ++ ((wFo cI cJ (fun i => A (i + 47)) (SB_forest x)) ++ ((wPb cI cJ (fun i => A (i + 59)) (SB_book x)) ++ ((wRo cI cJ (fun i => A (i + 64)) (SB_round x))))))))) (w1 := wWb cI cJ (fun i => A (i + 1)) g24.2) (wz := (wSB cI cJ A (SB_set_now x g24.2))) (sj_SB_now _ _ _ _ _) hPx hDx hS hA (va_runV (As := [.int v1, .int v2]) (rest := []) ⟨hx, hb, hml, hown, hts⟩ (c_X4_trace l dC dI cI cJ (fun i => A (i + 1)) H.size (SB_now x) v1 v2 _ hc) (cwV 2 hts (gw_V wd_10_13 wd_33_16 wd_10_11 wd_10_12 wd_1_14) rfl rfl rfl qX4_trace ⟨Nat.le_of_ble_eq_true rfl, Nat.le_of_ble_eq_true rfl⟩) (kg_preVW (ci := 4) (q := (RX4, TX4, 16)) (q0 := 0) (kg_cutP hPx) (kg_cutD hDx) hK hN rfl rfl) rfl rfl hl.1 rfl (lv_room (Nat.le_of_ble_eq_true rfl)) dX5_way_24 ⟨Nat.zero_le _, Nat.zero_le _⟩) (fun H locs hP hD hS => ?_)
      refine lv_istore (lv' := [(4, .int g24.1), (0, .ref (A 0)), (1, .int v1), (2, .int v2), (3, .int v3)]) hx hb dX5_way_27 hl (by decide) rfl (fun ls hl => ?_)
      refine lv_iload hx hb dX5_way_29 (lv_at hl 0 rfl) ?_
      refine lv_iconst (v := (-1)) hx hb dX5_way_31 (by decide) ?_
      refine kg_icmp_ne (tgt := 37) hx hb hf dX5_way_32 (by decide) (fun hc hf => ?_) (fun hc hf => ?_)
      · refine lv_iconst (v := 0) hx hb dX5_way_37 (by decide) ?_
        refine lv_istore (lv' := [(5, .int 0), (4, .int g24.1), (0, .ref (A 0)), (1, .int v1), (2, .int v2), (3, .int v3)]) hx hb dX5_way_38 hl (by decide) rfl (fun ls hl => ?_)
        refine lv_iconst (v := 0) hx hb dX5_way_40 (by decide) ?_
        refine lv_istore (lv' := [(6, .int 0), (5, .int 0), (4, .int g24.1), (0, .ref (A 0)), (1, .int v1), (2, .int v2), (3, .int v3)]) hx hb dX5_way_41 hl (by decide) rfl (fun ls hl => ?_)
        have hlp43 : ∀ (x : SBS) (v4 : Int32), ∀ (n : Nat) (v5 : Int32) (v6 : Int32), iter (fun p : Int32 × Int32 => SB_m_way_s43 x v3 v4 p.1 p.2) n (v5, v6) = some r0 → ∀ (H : Heap) (locs : List Loc) (ls : Array Slot), va_P (dC, dI) vwCl (wSB cI cJ A x) H → va_D Q (wSB cI cJ A x) → va_S Q s.heap H locs → lv_has ls 7 [(0, .ref (A 0)), (3, .int v3), (4, .int v4), (5, .int v5), (6, .int v6)] → W p l e ({ frames := 3, cells := 0, slots := 0, locals := 98 } : Room) s m args below meth c H locs 0 0 (MQ below (QWi (dC, dI) Q (wSB cI cJ A r0.2) r0.1) args s 0 0 Q) (F0 m 43 ls []) := by
          intro x v4 n
          induction n with
          | zero => intro v5 v6 hf; exact iter_zero hf
          | succ n ih1 =>
            intro v5 v6 hf H locs ls hP hD hS hl
            obtain ⟨q1, hf, hk1⟩ := iter_succ hf
            have hf : SB_m_way_s43 x v3 v4 v5 v6 = some q1 := hf
            unfold SB_m_way_s43 at hf
            refine lv_iload hx hb dX5_way_43 (lv_at hl 4 rfl) ?_
            refine lv_iload hx hb dX5_way_45 (lv_at hl 2 rfl) ?_
            refine kg_icmp_ge (tgt := 96) hx hb hf dX5_way_47 (by decide) (fun hc hf => ?_) (fun hc hf => ?_)
            · obtain ⟨qq, hf, hqq⟩ := omap_some hf
              have hkq : qq = r0 := by rw [← hqq] at hk1; exact hk1
              rw [hkq] at hf
              clear hkq hqq
              refine lv_iload_n hx hb dX5_way_96 rfl (lv_at hl 1 rfl) ?_
              refine lv_iconst (v := (-1)) hx hb dX5_way_97 (by decide) ?_
              refine kg_icmp_ne (tgt := 106) hx hb hf dX5_way_98 (by decide) (fun hc hf => ?_) (fun hc hf => ?_)
              · refine lv_iconst (v := (-1)) hx hb dX5_way_106 (by decide) ?_
                obtain rfl := Option.some.inj hf
                exact kg_iretW hx hb hr hlk rfl hP hD hS dX5_way_107
              · refine lv_iload hx hb dX5_way_101 (lv_at hl 3 rfl) ?_
                refine lv_goto (tgt := 107) hx hb dX5_way_103 (by decide) ?_
                obtain rfl := Option.some.inj hf
                exact kg_iretW hx hb hr hlk rfl hP hD hS dX5_way_107
            · refine lv_aload_n hx hb dX5_way_50 rfl (lv_at hl 0 rfl) ?_
              refine va_get (D := (dC, dI)) (ci := 5) (v := .ref (A 1)) (C := RX5) (T := TX5) (N := 6) hx hb hts hiX5 hown hK hP 0 rfl rfl 0 (by decide) ww0 (fun _ h9 => h9) rfl dX5_way_51 ?_
              refine lv_aload_n hx hb dX5_way_54 rfl (lv_at hl 0 rfl) ?_
              refine va_get (D := (dC, dI)) (ci := 5) (v := .ref (A 1)) (C := RX5) (T := TX5) (N := 6) hx hb hts hiX5 hown hK hP 0 rfl rfl 0 (by decide) ww0 (fun _ h9 => h9) rfl dX5_way_55 ?_
              refine va_get (D := (dC, dI)) (ci := 4) (v := .ref (A 8)) (C := RX4) (T := TX4) (N := 16) hx hb hts hiX4 hown hK hP 1 rfl rfl 6 (by decide) ww1 (fun _ h9 => h9) rfl dX5_way_58 ?_
              refine lv_iload hx hb dX5_way_61 (lv_at hl 4 rfl) ?_
              obtain ⟨g63, hv, hf⟩ := ob_bind hf
              refine kg_iald hx hb hK hP 8 0 rfl rfl hv dX5_way_63 ?_
              obtain ⟨g64, hc, hf⟩ := ob_bind hf
              have hPc : va_P (dC, dI) vwCl (wWb cI cJ (fun i => A (i + 1)) (SB_now x)) H := hP.sub [1, 2, 3, 4, 5, 6, 7, 8, 9, 10, 11, 12, 13, 14, 15, 16, 17, 18, 19, 20, 21, 22, 23] rfl
              refine kg_retRi (va_runV (As := [.int g63]) (rest := []) ⟨hx, hb, hml, hown, hts⟩ (c_X4_isBridge l dC dI cI cJ (fun i => A (i + 1)) H (SB_now x) g63 _ hc) (cwV 1 hts (gw_V wd_6_6 wd_18_0 wd_6_4 wd_6_5 wd_1_14) rfl rfl rfl qX4_isBridge ⟨Nat.le_of_ble_eq_true rfl, Nat.le_of_ble_eq_true rfl⟩) (kg_preVR (ci := 4) (q := (RX4, TX4, 16)) (q0 := 0) hPc hK hN rfl rfl) rfl rfl hl.1 rfl (lv_room (Nat.le_of_ble_eq_true rfl)) dX5_way_64 ⟨Nat.zero_le _, Nat.zero_le _⟩) ?_
              refine kg_b_eq (tgt := 90) hx hb hf dX5_way_67 (by decide) (fun hc hf => ?_) (fun hc hf => ?_)
              · refine lv_iinc (v := (v6 + 1)) (lv' := [(6, .int (v6 + 1)), (0, .ref (A 0)), (3, .int v3), (4, .int v4), (5, .int v5)]) hx hb dX5_way_90 hl (k := 4) rfl rfl (by decide) rfl (fun ls hl => ?_)
                refine lv_goto (tgt := 43) hx hb dX5_way_93 (by decide) ?_
                obtain rfl := Option.some.inj hf
                exact ih1 v5 (v6 + 1) hk1 _ _ _ hP hD hS (lv_sub hl [1, 2, 3, 4, 0] rfl)
              · refine lv_iload hx hb dX5_way_70 (lv_at hl 3 rfl) ?_
                refine lv_iload_n hx hb dX5_way_72 rfl (lv_at hl 1 rfl) ?_
                refine kg_icmp_ne (tgt := 87) hx hb hf dX5_way_73 (by decide) (fun hc hf => ?_) (fun hc hf => ?_)
                · refine lv_iinc (v := (v5 + 1)) (lv' := [(5, .int (v5 + 1)), (0, .ref (A 0)), (3, .int v3), (4, .int v4), (6, .int v6)]) hx hb dX5_way_87 hl (k := 3) rfl rfl (by decide) rfl (fun ls hl => ?_)
                  refine lv_iinc (v := (v6 + 1)) (lv' := [(6, .int (v6 + 1)), (5, .int (v5 + 1)), (0, .ref (A 0)), (3, .int v3), (4, .int v4)]) hx hb dX5_way_90 hl (k := 4) rfl rfl (by decide) rfl (fun ls hl => ?_)
                  refine lv_goto (tgt := 43) hx hb dX5_way_93 (by decide) ?_
                  obtain rfl := Option.some.inj hf
                  exact ih1 (v5 + 1) (v6 + 1) hk1 _ _ _ hP hD hS (lv_sub hl [2, 3, 4, 1, 0] rfl)
                · obtain ⟨qq, hf, hqq⟩ := omap_some hf
                  have hkq : qq = r0 := by rw [← hqq] at hk1; exact hk1
                  rw [hkq] at hf
                  clear hkq hqq
                  refine lv_aload_n hx hb dX5_way_76 rfl (lv_at hl 0 rfl) ?_
                  refine va_get (D := (dC, dI)) (ci := 5) (v := .ref (A 1)) (C := RX5) (T := TX5) (N := 6) hx hb hts hiX5 hown hK hP 0 rfl rfl 0 (by decide) ww0 (fun _ h9 => h9) rfl dX5_way_77 ?_
                  refine va_get (D := (dC, dI)) (ci := 4) (v := .ref (A 8)) (C := RX4) (T := TX4) (N := 16) hx hb hts hiX4 hown hK hP 1 rfl rfl 6 (by decide) ww1 (fun _ h9 => h9) rfl dX5_way_80 ?_
                  refine lv_iload hx hb dX5_way_83 (lv_at hl 4 rfl) ?_
                  obtain ⟨g85, hv, hf⟩ := ob_bind hf
                  refine kg_iald hx hb hK hP 8 0 rfl rfl hv dX5_way_85 ?_
                  obtain rfl := Option.some.inj hf
                  exact kg_iretW hx hb hr hlk rfl hP hD hS dX5_way_86
        exact hlp43 (SB_set_now x g24.2) g24.1 FU 0 0 hf _ _ _ hP hD hS (lv_sub hl [3, 6, 2, 1, 0] rfl)
      · refine lv_iconst (v := (-1)) hx hb dX5_way_35 (by decide) ?_
        obtain rfl := Option.some.inj hf
        exact kg_iretW hx hb hr hlk rfl hP hD hS dX5_way_36
    · refine lv_iconst (v := (-1)) hx hb dX5_way_16 (by decide) ?_
      obtain rfl := Option.some.inj hf
      exact kg_iretW hx hb hr hlk rfl hP hD hS dX5_way_17
set_option maxHeartbeats 4000000 in
set_option maxRecDepth 100000 in
theorem c_X5_between (l : Launch) (dC : Nat → ClassId) (dI : Nat → Nat → Nat) (cI cJ : ClassId) (A : Nat → Nat) (hq : Nat) (x : SBS) (v1 : Int32) (v2 : Int32) (v3 : Int32) (r0 : (Int32 × SBS)) (hf : SB_m_between x v1 v2 v3 = some r0) : MWi l yX5_between (wAll yX5_between cX5_between 7 (some .int)) ({ frames := 3, cells := 0, slots := 0, locals := 98 } : Room) [.ref (A 0), .int v1, .int v2, .int v3] hq (dC, dI) (vTy cI cJ) (wSB cI cJ A x) (wSB cI cJ A r0.2) r0.1 := by
  refine kg_metW (Qc := fun Q => QWi (dC, dI) Q (wSB cI cJ A r0.2) r0.1) (cc := cX5_between) (maxL := 7) (ret := (some .int)) (by decide) rfl (Nat.le_of_ble_eq_true rfl) ?_
  intro p e s m args below meth c Q hx hb hr hts hown hlk hml hP hK hN hD hA hS ls hl
  have hl : lv_has ls 7 [(0, .ref (A 0)), (1, .int v1), (2, .int v2), (3, .int v3)] := hl
  have ww0 := hts (.fieldLink RX5 12 "SafeBlocks" "now" "LSafeBlocks$Web;") (List.mem_cons_of_mem _ wd_1_15)
  have ww1 := hts (.fieldLink RX5 269 "SafeBlocks$Web" "wayNode" "[I") (List.mem_cons_of_mem _ wd_39_3)
  have hiX5 : ∀ w ∈ u_ws RX5 TX5 6, w ∈ wAll yX5_between cX5_between 7 (some .int) := fun w h => List.mem_cons_of_mem _ (inlX5 w h)
  have hiX4 : ∀ w ∈ u_ws RX4 TX4 16, w ∈ wAll yX5_between cX5_between 7 (some .int) := fun w h => List.mem_cons_of_mem _ (inlX4 w h)
  suffices hgo : ∀ (H : Heap) (locs : List Loc), va_P (dC, dI) vwCl (wSB cI cJ A x) H → va_S Q s.heap H locs → W p l e ({ frames := 3, cells := 0, slots := 0, locals := 98 } : Room) s m args below meth c H locs 0 0 (MQ below (QWi (dC, dI) Q (wSB cI cJ A r0.2) r0.1) args s 0 0 Q) (F0 m 0 ls []) from hgo _ _ hP hS
  clear hP hS
  intro H locs hP hS
  unfold SB_m_between at hf
  refine lv_aload_n hx hb dX5_between_0 rfl (lv_at hl 0 rfl) ?_
  refine lv_iload_n hx hb dX5_between_1 rfl (lv_at hl 1 rfl) ?_
  refine lv_iload_n hx hb dX5_between_2 rfl (lv_at hl 2 rfl) ?_
  obtain ⟨g3, hc, hf⟩ := ob_bind hf
  have hPc : va_P (dC, dI) vwCl (wSB cI cJ A x) H := hP
  refine kg_retRi (va_runV (As := [.int v1, .int v2]) (rest := []) ⟨hx, hb, hml, hown, hts⟩ (c_X5_areTwoNodes l dC dI cI cJ A H x v1 v2 _ hc) (cwV 2 hts (gw_V wd_9_19 wd_9_16 wd_9_17 wd_9_18 wd_1_2) rfl rfl rfl qX5_areTwoNodes ⟨Nat.le_of_ble_eq_true rfl, Nat.le_of_ble_eq_true rfl⟩) (kg_preVR (ci := 5) (q := (RX5, TX5, 6)) (q0 := 0) hPc hK hN rfl rfl) rfl rfl hl.1 rfl (lv_room (Nat.le_of_ble_eq_true rfl)) dX5_between_3 ⟨Nat.zero_le _, Nat.zero_le _⟩) ?_
  refine kg_b_ne (tgt := 11) hx hb hf dX5_between_6 (by decide) (fun hc hf => ?_) (fun hc hf => ?_)
  · refine lv_aload_n hx hb dX5_between_11 rfl (lv_at hl 0 rfl) ?_
    refine va_get (D := (dC, dI)) (ci := 5) (v := .ref (A 1)) (C := RX5) (T := TX5) (N := 6) hx hb hts hiX5 hown hK hP 0 rfl rfl 0 (by decide) ww0 (fun _ h9 => h9) rfl dX5_between_12 ?_
    refine lv_iload_n hx hb dX5_between_15 rfl (lv_at hl 1 rfl) ?_
    refine lv_iload_n hx hb dX5_between_16 rfl (lv_at hl 2 rfl) ?_
    obtain ⟨g17, hc, hf⟩ := ob_bind hf
    have hPx := kg_eqP (sp_SB_now cI cJ A x) hP
    have hDx := kg_eqD (sp_SB_now cI cJ A x) hD
    refine kg_retWi (pre := (oSB cI cJ A x)) (wc := wWb cI cJ (fun i => A (i + 1)) (SB_now x)) (post := (oWb cI cJ (fun i => A (i + 24)) (SB_trial x)) ++ ((wNm cI cJ 32 (fun i => A (i + 32)) (Wb_blocks (SB_trial x))) ++ ((wNm cI cJ 32 (fun i => A (i + 37)) (Wb_lands (SB_trial x))) ++ ((wNm cI cJ 64 (fun i => A (i + 42)) (Wb_parts (SB_trial x))) ++ ((wFo cI cJ (fun i => A (i + 47)) (SB_forest x)) ++ ((wPb cI cJ (fun i => A (i + 59)) (SB_book x)) ++ ((wRo cI cJ (fun i => A (i + 64)) (SB_round x))))))))) (w1 := wWb cI cJ (fun i => A (i + 1)) g17.2) (wz := (wSB cI cJ A (SB_set_now x g17.2))) (sj_SB_now _ _ _ _ _) hPx hDx hS hA (va_runV (As := [.int v1, .int v2]) (rest := []) ⟨hx, hb, hml, hown, hts⟩ (c_X4_trace l dC dI cI cJ (fun i => A (i + 1)) H.size (SB_now x) v1 v2 _ hc) (cwV 2 hts (gw_V wd_10_13 wd_33_16 wd_10_11 wd_10_12 wd_1_14) rfl rfl rfl qX4_trace ⟨Nat.le_of_ble_eq_true rfl, Nat.le_of_ble_eq_true rfl⟩) (kg_preVW (ci := 4) (q := (RX4, TX4, 16)) (q0 := 0) (kg_cutP hPx) (kg_cutD hDx) hK hN rfl rfl) rfl rfl hl.1 rfl (lv_room (Nat.le_of_ble_eq_true rfl)) dX5_between_17 ⟨Nat.zero_le _, Nat.zero_le _⟩) (fun H locs hP hD hS => ?_)
    refine lv_istore (lv' := [(4, .int g17.1), (0, .ref (A 0)), (1, .int v1), (2, .int v2), (3, .int v3)]) hx hb dX5_between_20 hl (by decide) rfl (fun ls hl => ?_)
    refine lv_iload hx hb dX5_between_22 (lv_at hl 0 rfl) ?_
    refine lv_iconst (v := (-1)) hx hb dX5_between_24 (by decide) ?_
    refine kg_icmp_ne (tgt := 30) hx hb hf dX5_between_25 (by decide) (fun hc hf => ?_) (fun hc hf => ?_)
    · refine lv_iconst (v := 0) hx hb dX5_between_30 (by decide) ?_
      refine lv_istore (lv' := [(5, .int 0), (4, .int g17.1), (0, .ref (A 0)), (1, .int v1), (2, .int v2), (3, .int v3)]) hx hb dX5_between_31 hl (by decide) rfl (fun ls hl => ?_)
      refine lv_iconst (v := 1) hx hb dX5_between_33 (by decide) ?_
      refine lv_istore (lv' := [(6, .int 1), (5, .int 0), (4, .int g17.1), (0, .ref (A 0)), (1, .int v1), (2, .int v2), (3, .int v3)]) hx hb dX5_between_34 hl (by decide) rfl (fun ls hl => ?_)
      have hlp36 : ∀ (x : SBS) (v4 : Int32), ∀ (n : Nat) (v5 : Int32) (v6 : Int32), iter (fun p : Int32 × Int32 => SB_m_between_s36 x v3 v4 p.1 p.2) n (v5, v6) = some r0 → ∀ (H : Heap) (locs : List Loc) (ls : Array Slot), va_P (dC, dI) vwCl (wSB cI cJ A x) H → va_D Q (wSB cI cJ A x) → va_S Q s.heap H locs → lv_has ls 7 [(0, .ref (A 0)), (3, .int v3), (4, .int v4), (5, .int v5), (6, .int v6)] → W p l e ({ frames := 3, cells := 0, slots := 0, locals := 98 } : Room) s m args below meth c H locs 0 0 (MQ below (QWi (dC, dI) Q (wSB cI cJ A r0.2) r0.1) args s 0 0 Q) (F0 m 36 ls []) := by
        intro x v4 n
        induction n with
        | zero => intro v5 v6 hf; exact iter_zero hf
        | succ n ih1 =>
          intro v5 v6 hf H locs ls hP hD hS hl
          obtain ⟨q1, hf, hk1⟩ := iter_succ hf
          have hf : SB_m_between_s36 x v3 v4 v5 v6 = some q1 := hf
          unfold SB_m_between_s36 at hf
          refine lv_iload hx hb dX5_between_36 (lv_at hl 4 rfl) ?_
          refine lv_iload hx hb dX5_between_38 (lv_at hl 2 rfl) ?_
          refine kg_icmp_ge (tgt := 81) hx hb hf dX5_between_40 (by decide) (fun hc hf => ?_) (fun hc hf => ?_)
          · obtain ⟨qq, hf, hqq⟩ := omap_some hf
            have hkq : qq = r0 := by rw [← hqq] at hk1; exact hk1
            rw [hkq] at hf
            clear hkq hqq
            refine lv_iload_n hx hb dX5_between_81 rfl (lv_at hl 1 rfl) ?_
            refine lv_iconst (v := (-1)) hx hb dX5_between_82 (by decide) ?_
            refine kg_icmp_ne (tgt := 91) hx hb hf dX5_between_83 (by decide) (fun hc hf => ?_) (fun hc hf => ?_)
            · refine lv_iconst (v := (-1)) hx hb dX5_between_91 (by decide) ?_
              obtain rfl := Option.some.inj hf
              exact kg_iretW hx hb hr hlk rfl hP hD hS dX5_between_92
            · refine lv_iload hx hb dX5_between_86 (lv_at hl 3 rfl) ?_
              refine lv_goto (tgt := 92) hx hb dX5_between_88 (by decide) ?_
              obtain rfl := Option.some.inj hf
              exact kg_iretW hx hb hr hlk rfl hP hD hS dX5_between_92
          · refine lv_aload_n hx hb dX5_between_43 rfl (lv_at hl 0 rfl) ?_
            refine va_get (D := (dC, dI)) (ci := 5) (v := .ref (A 1)) (C := RX5) (T := TX5) (N := 6) hx hb hts hiX5 hown hK hP 0 rfl rfl 0 (by decide) ww0 (fun _ h9 => h9) rfl dX5_between_44 ?_
            refine lv_iload hx hb dX5_between_47 (lv_at hl 4 rfl) ?_
            obtain ⟨g49, hc, hf⟩ := ob_bind hf
            have hPc : va_P (dC, dI) vwCl (wWb cI cJ (fun i => A (i + 1)) (SB_now x)) H := hP.sub [1, 2, 3, 4, 5, 6, 7, 8, 9, 10, 11, 12, 13, 14, 15, 16, 17, 18, 19, 20, 21, 22, 23] rfl
            refine kg_retRi (va_runV (As := [.int v6]) (rest := []) ⟨hx, hb, hml, hown, hts⟩ (c_X4_leavesPart l dC dI cI cJ (fun i => A (i + 1)) H (SB_now x) v6 _ hc) (cwV 1 hts (gw_V wd_39_7 wd_39_4 wd_39_5 wd_39_6 wd_1_14) rfl rfl rfl qX4_leavesPart ⟨Nat.le_of_ble_eq_true rfl, Nat.le_of_ble_eq_true rfl⟩) (kg_preVR (ci := 4) (q := (RX4, TX4, 16)) (q0 := 0) hPc hK hN rfl rfl) rfl rfl hl.1 rfl (lv_room (Nat.le_of_ble_eq_true rfl)) dX5_between_49 ⟨Nat.zero_le _, Nat.zero_le _⟩) ?_
            refine kg_b_eq (tgt := 75) hx hb hf dX5_between_52 (by decide) (fun hc hf => ?_) (fun hc hf => ?_)
            · refine lv_iinc (v := (v6 + 1)) (lv' := [(6, .int (v6 + 1)), (0, .ref (A 0)), (3, .int v3), (4, .int v4), (5, .int v5)]) hx hb dX5_between_75 hl (k := 4) rfl rfl (by decide) rfl (fun ls hl => ?_)
              refine lv_goto (tgt := 36) hx hb dX5_between_78 (by decide) ?_
              obtain rfl := Option.some.inj hf
              exact ih1 v5 (v6 + 1) hk1 _ _ _ hP hD hS (lv_sub hl [1, 2, 3, 4, 0] rfl)
            · refine lv_iload hx hb dX5_between_55 (lv_at hl 3 rfl) ?_
              refine lv_iload_n hx hb dX5_between_57 rfl (lv_at hl 1 rfl) ?_
              refine kg_icmp_ne (tgt := 72) hx hb hf dX5_between_58 (by decide) (fun hc hf => ?_) (fun hc hf => ?_)
              · refine lv_iinc (v := (v5 + 1)) (lv' := [(5, .int (v5 + 1)), (0, .ref (A 0)), (3, .int v3), (4, .int v4), (6, .int v6)]) hx hb dX5_between_72 hl (k := 3) rfl rfl (by decide) rfl (fun ls hl => ?_)
                refine lv_iinc (v := (v6 + 1)) (lv' := [(6, .int (v6 + 1)), (5, .int (v5 + 1)), (0, .ref (A 0)), (3, .int v3), (4, .int v4)]) hx hb dX5_between_75 hl (k := 4) rfl rfl (by decide) rfl (fun ls hl => ?_)
                refine lv_goto (tgt := 36) hx hb dX5_between_78 (by decide) ?_
                obtain rfl := Option.some.inj hf
                exact ih1 (v5 + 1) (v6 + 1) hk1 _ _ _ hP hD hS (lv_sub hl [2, 3, 4, 1, 0] rfl)
              · obtain ⟨qq, hf, hqq⟩ := omap_some hf
                have hkq : qq = r0 := by rw [← hqq] at hk1; exact hk1
                rw [hkq] at hf
                clear hkq hqq
                refine lv_aload_n hx hb dX5_between_61 rfl (lv_at hl 0 rfl) ?_
                refine va_get (D := (dC, dI)) (ci := 5) (v := .ref (A 1)) (C := RX5) (T := TX5) (N := 6) hx hb hts hiX5 hown hK hP 0 rfl rfl 0 (by decide) ww0 (fun _ h9 => h9) rfl dX5_between_62 ?_
                refine va_get (D := (dC, dI)) (ci := 4) (v := .ref (A 7)) (C := RX4) (T := TX4) (N := 16) hx hb hts hiX4 hown hK hP 1 rfl rfl 5 (by decide) ww1 (fun _ h9 => h9) rfl dX5_between_65 ?_
                refine lv_iload hx hb dX5_between_68 (lv_at hl 4 rfl) ?_
                obtain ⟨g70, hv, hf⟩ := ob_bind hf
                refine kg_iald hx hb hK hP 7 0 rfl rfl hv dX5_between_70 ?_
                obtain rfl := Option.some.inj hf
                exact kg_iretW hx hb hr hlk rfl hP hD hS dX5_between_71
      exact hlp36 (SB_set_now x g17.2) g17.1 FU 0 1 hf _ _ _ hP hD hS (lv_sub hl [3, 6, 2, 1, 0] rfl)
    · refine lv_iconst (v := (-1)) hx hb dX5_between_28 (by decide) ?_
      obtain rfl := Option.some.inj hf
      exact kg_iretW hx hb hr hlk rfl hP hD hS dX5_between_29
  · refine lv_iconst (v := (-1)) hx hb dX5_between_9 (by decide) ?_
    obtain rfl := Option.some.inj hf
    exact kg_iretW hx hb hr hlk rfl hP hD hS dX5_between_10
set_option maxHeartbeats 4000000 in
set_option maxRecDepth 100000 in
theorem c_X5_would (l : Launch) (dC : Nat → ClassId) (dI : Nat → Nat → Nat) (cI cJ : ClassId) (A : Nat → Nat) (hq : Nat) (x : SBS) (v1 : Int32) (v2 : Int32) (v3 : Int32) (r0 : (Int32 × SBS)) (hf : SB_m_would x v1 v2 v3 = some r0) : MWi l yX5_would (wAll yX5_would cX5_would 5 (some .int)) ({ frames := 4, cells := 0, slots := 0, locals := 106 } : Room) [.ref (A 0), .int v1, .int v2, .int v3] hq (dC, dI) (vTy cI cJ) (wSB cI cJ A x) (wSB cI cJ A r0.2) r0.1 := by
  refine kg_metW (Qc := fun Q => QWi (dC, dI) Q (wSB cI cJ A r0.2) r0.1) (cc := cX5_would) (maxL := 5) (ret := (some .int)) (by decide) rfl (Nat.le_of_ble_eq_true rfl) ?_
  intro p e s m args below meth c Q hx hb hr hts hown hlk hml hP hK hN hD hA hS ls hl
  have hl : lv_has ls 5 [(0, .ref (A 0)), (1, .int v1), (2, .int v2), (3, .int v3)] := hl
  have ww0 := hts (.fieldLink RX5 12 "SafeBlocks" "now" "LSafeBlocks$Web;") (List.mem_cons_of_mem _ wd_1_15)
  have ww1 := hts (.fieldLink RX5 118 "SafeBlocks$Web" "blocks" "LSafeBlocks$Names;") (List.mem_cons_of_mem _ wd_18_7)
  have hiX5 : ∀ w ∈ u_ws RX5 TX5 6, w ∈ wAll yX5_would cX5_would 5 (some .int) := fun w h => List.mem_cons_of_mem _ (inlX5 w h)
  have hiX4 : ∀ w ∈ u_ws RX4 TX4 16, w ∈ wAll yX5_would cX5_would 5 (some .int) := fun w h => List.mem_cons_of_mem _ (inlX4 w h)
  suffices hgo : ∀ (H : Heap) (locs : List Loc), va_P (dC, dI) vwCl (wSB cI cJ A x) H → va_S Q s.heap H locs → W p l e ({ frames := 4, cells := 0, slots := 0, locals := 106 } : Room) s m args below meth c H locs 0 0 (MQ below (QWi (dC, dI) Q (wSB cI cJ A r0.2) r0.1) args s 0 0 Q) (F0 m 0 ls []) from hgo _ _ hP hS
  clear hP hS
  intro H locs hP hS
  unfold SB_m_would at hf
  refine lv_aload_n hx hb dX5_would_0 rfl (lv_at hl 0 rfl) ?_
  refine lv_iload_n hx hb dX5_would_1 rfl (lv_at hl 1 rfl) ?_
  refine lv_iload_n hx hb dX5_would_2 rfl (lv_at hl 2 rfl) ?_
  obtain ⟨g3, hc, hf⟩ := ob_bind hf
  have hPc : va_P (dC, dI) vwCl (wSB cI cJ A x) H := hP
  refine kg_retRi (va_runV (As := [.int v1, .int v2]) (rest := []) ⟨hx, hb, hml, hown, hts⟩ (c_X5_areTwoNodes l dC dI cI cJ A H x v1 v2 _ hc) (cwV 2 hts (gw_V wd_9_19 wd_9_16 wd_9_17 wd_9_18 wd_1_2) rfl rfl rfl qX5_areTwoNodes ⟨Nat.le_of_ble_eq_true rfl, Nat.le_of_ble_eq_true rfl⟩) (kg_preVR (ci := 5) (q := (RX5, TX5, 6)) (q0 := 0) hPc hK hN rfl rfl) rfl rfl hl.1 rfl (lv_room (Nat.le_of_ble_eq_true rfl)) dX5_would_3 ⟨Nat.zero_le _, Nat.zero_le _⟩) ?_
  refine kg_b_ne (tgt := 11) hx hb hf dX5_would_6 (by decide) (fun hc hf => ?_) (fun hc hf => ?_)
  · refine lv_aload_n hx hb dX5_would_11 rfl (lv_at hl 0 rfl) ?_
    refine va_get (D := (dC, dI)) (ci := 5) (v := .ref (A 1)) (C := RX5) (T := TX5) (N := 6) hx hb hts hiX5 hown hK hP 0 rfl rfl 0 (by decide) ww0 (fun _ h9 => h9) rfl dX5_would_12 ?_
    refine lv_iload_n hx hb dX5_would_15 rfl (lv_at hl 1 rfl) ?_
    refine lv_iload_n hx hb dX5_would_16 rfl (lv_at hl 2 rfl) ?_
    obtain ⟨g17, hc, hf⟩ := ob_bind hf
    have hPx := kg_eqP (sp_SB_now cI cJ A x) hP
    have hDx := kg_eqD (sp_SB_now cI cJ A x) hD
    refine kg_retWi (pre := (oSB cI cJ A x)) (wc := wWb cI cJ (fun i => A (i + 1)) (SB_now x)) (post := (oWb cI cJ (fun i => A (i + 24)) (SB_trial x)) ++ ((wNm cI cJ 32 (fun i => A (i + 32)) (Wb_blocks (SB_trial x))) ++ ((wNm cI cJ 32 (fun i => A (i + 37)) (Wb_lands (SB_trial x))) ++ ((wNm cI cJ 64 (fun i => A (i + 42)) (Wb_parts (SB_trial x))) ++ ((wFo cI cJ (fun i => A (i + 47)) (SB_forest x)) ++ ((wPb cI cJ (fun i => A (i + 59)) (SB_book x)) ++ ((wRo cI cJ (fun i => A (i + 64)) (SB_round x))))))))) (w1 := wWb cI cJ (fun i => A (i + 1)) g17.2) (wz := (wSB cI cJ A (SB_set_now x g17.2))) (sj_SB_now _ _ _ _ _) hPx hDx hS hA (va_runV (As := [.int v1, .int v2]) (rest := []) ⟨hx, hb, hml, hown, hts⟩ (c_X4_trace l dC dI cI cJ (fun i => A (i + 1)) H.size (SB_now x) v1 v2 _ hc) (cwV 2 hts (gw_V wd_10_13 wd_33_16 wd_10_11 wd_10_12 wd_1_14) rfl rfl rfl qX4_trace ⟨Nat.le_of_ble_eq_true rfl, Nat.le_of_ble_eq_true rfl⟩) (kg_preVW (ci := 4) (q := (RX4, TX4, 16)) (q0 := 0) (kg_cutP hPx) (kg_cutD hDx) hK hN rfl rfl) rfl rfl hl.1 rfl (lv_room (Nat.le_of_ble_eq_true rfl)) dX5_would_17 ⟨Nat.zero_le _, Nat.zero_le _⟩) (fun H locs hP hD hS => ?_)
    refine lv_istore (lv' := [(4, .int g17.1), (0, .ref (A 0)), (1, .int v1), (2, .int v2), (3, .int v3)]) hx hb dX5_would_20 hl (by decide) rfl (fun ls hl => ?_)
    refine lv_iload_n hx hb dX5_would_22 rfl (lv_at hl 4 rfl) ?_
    by_cases hc0 : v3 = 0
    · rw [if_pos hc0] at hf
      refine lv_lookup (tgt := 48) (off := 25) hx hb dX5_would_23 (by decide) (by rw [hc0]; rfl) (by decide) ?_
      refine lv_iload hx hb dX5_would_48 (lv_at hl 0 rfl) ?_
      refine lv_iconst (v := (-1)) hx hb dX5_would_50 (by decide) ?_
      refine kg_icmp_ne (tgt := 58) hx hb hf dX5_would_51 (by decide) (fun hc hf => ?_) (fun hc hf => ?_)
      · refine lv_aload_n hx hb dX5_would_58 rfl (lv_at hl 1 rfl) ?_
        refine va_get (D := (dC, dI)) (ci := 5) (v := .ref (A 1)) (C := RX5) (T := TX5) (N := 6) hx hb hts hiX5 hown hK hP 0 rfl rfl 0 (by decide) ww0 (fun _ h9 => h9) rfl dX5_would_59 ?_
        refine lv_iload hx hb dX5_would_62 (lv_at hl 0 rfl) ?_
        obtain ⟨g64, hc, hf⟩ := ob_bind hf
        have hPc : va_P (dC, dI) vwCl (wWb cI cJ (fun i => A (i + 1)) (SB_now (SB_set_now x g17.2))) H := hP.sub [1, 2, 3, 4, 5, 6, 7, 8, 9, 10, 11, 12, 13, 14, 15, 16, 17, 18, 19, 20, 21, 22, 23] rfl
        refine kg_retRi (va_runV (As := [.int g17.1]) (rest := []) ⟨hx, hb, hml, hown, hts⟩ (c_X4_bridgesOnWay l dC dI cI cJ (fun i => A (i + 1)) H (SB_now (SB_set_now x g17.2)) g17.1 _ hc) (cwV 1 hts (gw_V wd_35_23 wd_35_20 wd_35_21 wd_35_22 wd_1_14) rfl rfl rfl qX4_bridgesOnWay ⟨Nat.le_of_ble_eq_true rfl, Nat.le_of_ble_eq_true rfl⟩) (kg_preVR (ci := 4) (q := (RX4, TX4, 16)) (q0 := 0) hPc hK hN rfl rfl) rfl rfl hl.1 rfl (lv_room (Nat.le_of_ble_eq_true rfl)) dX5_would_64 ⟨Nat.zero_le _, Nat.zero_le _⟩) ?_
        obtain rfl := Option.some.inj hf
        exact kg_iretW hx hb hr hlk rfl hP hD hS dX5_would_67
      · refine lv_iconst (v := 0) hx hb dX5_would_54 (by decide) ?_
        refine lv_goto (tgt := 67) hx hb dX5_would_55 (by decide) ?_
        obtain rfl := Option.some.inj hf
        exact kg_iretW hx hb hr hlk rfl hP hD hS dX5_would_67
    · rw [if_neg hc0] at hf
      by_cases hc1 : v3 = 1
      · rw [if_pos hc1] at hf
        refine lv_lookup (tgt := 68) (off := 45) hx hb dX5_would_23 (by decide) (by rw [hc1]; rfl) (by decide) ?_
        refine lv_aload_n hx hb dX5_would_68 rfl (lv_at hl 1 rfl) ?_
        refine va_get (D := (dC, dI)) (ci := 5) (v := .ref (A 1)) (C := RX5) (T := TX5) (N := 6) hx hb hts hiX5 hown hK hP 0 rfl rfl 0 (by decide) ww0 (fun _ h9 => h9) rfl dX5_would_69 ?_
        refine va_get (D := (dC, dI)) (ci := 4) (v := .ref (A 9)) (C := RX4) (T := TX4) (N := 16) hx hb hts hiX4 hown hK hP 1 rfl rfl 7 (by decide) ww1 (fun _ h9 => h9) rfl dX5_would_72 ?_
        refine lv_aload_n hx hb dX5_would_75 rfl (lv_at hl 1 rfl) ?_
        refine lv_iload_n hx hb dX5_would_76 rfl (lv_at hl 2 rfl) ?_
        refine lv_iload hx hb dX5_would_77 (lv_at hl 0 rfl) ?_
        obtain ⟨g79, hc, hf⟩ := ob_bind hf
        have hPc : va_P (dC, dI) vwCl (wSB cI cJ A (SB_set_now x g17.2)) H := hP
        refine kg_retRj (va_runV (As := [.int v1, .int g17.1]) (rest := [.ref (A 9)]) ⟨hx, hb, hml, hown, hts⟩ (c_X5_wouldBeOne l dC dI cI cJ A H (SB_set_now x g17.2) v1 g17.1 _ hc) (cwV 2 hts (gw_V wd_36_3 wd_36_0 wd_36_1 wd_36_2 wd_1_2) rfl rfl rfl qX5_wouldBeOne ⟨Nat.le_of_ble_eq_true rfl, Nat.le_of_ble_eq_true rfl⟩) (kg_preVR (ci := 5) (q := (RX5, TX5, 6)) (q0 := 0) hPc hK hN rfl rfl) rfl rfl hl.1 rfl (lv_room (Nat.le_of_ble_eq_true rfl)) dX5_would_79 ⟨Nat.zero_le _, Nat.zero_le _⟩) ?_
        obtain ⟨g82, hc, hf⟩ := ob_bind hf
        have hPc : va_P (dC, dI) vwCl (wNm cI cJ 32 (fun i => A (i + 9)) (Wb_blocks (SB_now (SB_set_now x g17.2)))) H := hP.sub [9, 10, 11, 12, 13] rfl
        refine kg_retRi (va_runV (As := [.long g79]) (rest := []) ⟨hx, hb, hml, hown, hts⟩ (c_X1_sizeOf l dC dI cI cJ (fun i => A (i + 9)) H 32 (Wb_blocks (SB_now (SB_set_now x g17.2))) g79 _ hc) (cwV 1 hts (gw_V wd_36_9 wd_36_6 wd_36_7 wd_36_8 wd_2_20) rfl rfl rfl qX1_sizeOf ⟨Nat.le_of_ble_eq_true rfl, Nat.le_of_ble_eq_true rfl⟩) (kg_preVR (ci := 1) (q := (RX1, TX1, 6)) (q0 := 0) hPc hK hN rfl rfl) rfl rfl hl.1 rfl (lv_room (Nat.le_of_ble_eq_true rfl)) dX5_would_82 ⟨Nat.zero_le _, Nat.zero_le _⟩) ?_
        obtain rfl := Option.some.inj hf
        exact kg_iretW hx hb hr hlk rfl hP hD hS dX5_would_85
      · rw [if_neg hc1] at hf
        have ehc0 := ne_toInt hc0 (k := 0) (by decide)
        have ehc1 := ne_toInt hc1 (k := 1) (by decide)
        refine lv_lookup (tgt := 86) (off := 63) hx hb dX5_would_23 (by decide) (by simp only [Op.lookupswitch.offset]; rw [if_neg (Ne.symm ehc0), if_neg (Ne.symm ehc1)]) (by decide) ?_
        refine lv_iconst (v := (-1)) hx hb dX5_would_86 (by decide) ?_
        obtain rfl := Option.some.inj hf
        exact kg_iretW hx hb hr hlk rfl hP hD hS dX5_would_87
  · refine lv_iconst (v := (-1)) hx hb dX5_would_9 (by decide) ?_
    obtain rfl := Option.some.inj hf
    exact kg_iretW hx hb hr hlk rfl hP hD hS dX5_would_10
set_option maxHeartbeats 4000000 in
set_option maxRecDepth 100000 in
theorem c_X5_wouldName (l : Launch) (dC : Nat → ClassId) (dI : Nat → Nat → Nat) (cI cJ : ClassId) (A : Nat → Nat) (hq : Nat) (x : SBS) (v1 : Int32) (v2 : Int32) (v3 : Int32) (r0 : (Int32 × SBS)) (hf : SB_m_wouldName x v1 v2 v3 = some r0) : MWi l yX5_wouldName (wAll yX5_wouldName cX5_wouldName 4 (some .int)) ({ frames := 4, cells := 0, slots := 0, locals := 106 } : Room) [.ref (A 0), .int v1, .int v2, .int v3] hq (dC, dI) (vTy cI cJ) (wSB cI cJ A x) (wSB cI cJ A r0.2) r0.1 := by
  refine kg_metW (Qc := fun Q => QWi (dC, dI) Q (wSB cI cJ A r0.2) r0.1) (cc := cX5_wouldName) (maxL := 4) (ret := (some .int)) (by decide) rfl (Nat.le_of_ble_eq_true rfl) ?_
  intro p e s m args below meth c Q hx hb hr hts hown hlk hml hP hK hN hD hA hS ls hl
  have hl : lv_has ls 4 [(0, .ref (A 0)), (1, .int v1), (2, .int v2), (3, .int v3)] := hl
  have ww0 := hts (.fieldLink RX5 12 "SafeBlocks" "now" "LSafeBlocks$Web;") (List.mem_cons_of_mem _ wd_1_15)
  have ww1 := hts (.fieldLink RX5 118 "SafeBlocks$Web" "blocks" "LSafeBlocks$Names;") (List.mem_cons_of_mem _ wd_18_7)
  have ww2 := hts (.fieldLink RX5 121 "SafeBlocks$Web" "lands" "LSafeBlocks$Names;") (List.mem_cons_of_mem _ wd_18_8)
  have ww3 := hts (.fieldLink RX5 103 "SafeBlocks$Names" "of" "[I") (List.mem_cons_of_mem _ wd_17_19)
  have hiX5 : ∀ w ∈ u_ws RX5 TX5 6, w ∈ wAll yX5_wouldName cX5_wouldName 4 (some .int) := fun w h => List.mem_cons_of_mem _ (inlX5 w h)
  have hiX4 : ∀ w ∈ u_ws RX4 TX4 16, w ∈ wAll yX5_wouldName cX5_wouldName 4 (some .int) := fun w h => List.mem_cons_of_mem _ (inlX4 w h)
  have hiX1 : ∀ w ∈ u_ws RX1 TX1 6, w ∈ wAll yX5_wouldName cX5_wouldName 4 (some .int) := fun w h => List.mem_cons_of_mem _ (inlX1 w h)
  suffices hgo : ∀ (H : Heap) (locs : List Loc), va_P (dC, dI) vwCl (wSB cI cJ A x) H → va_S Q s.heap H locs → W p l e ({ frames := 4, cells := 0, slots := 0, locals := 106 } : Room) s m args below meth c H locs 0 0 (MQ below (QWi (dC, dI) Q (wSB cI cJ A r0.2) r0.1) args s 0 0 Q) (F0 m 0 ls []) from hgo _ _ hP hS
  clear hP hS
  intro H locs hP hS
  unfold SB_m_wouldName at hf
  refine lv_aload_n hx hb dX5_wouldName_0 rfl (lv_at hl 0 rfl) ?_
  refine lv_iload_n hx hb dX5_wouldName_1 rfl (lv_at hl 1 rfl) ?_
  refine lv_iload_n hx hb dX5_wouldName_2 rfl (lv_at hl 2 rfl) ?_
  obtain ⟨g3, hc, hf⟩ := ob_bind hf
  have hPc : va_P (dC, dI) vwCl (wSB cI cJ A x) H := hP
  refine kg_retRi (va_runV (As := [.int v1, .int v2]) (rest := []) ⟨hx, hb, hml, hown, hts⟩ (c_X5_areTwoNodes l dC dI cI cJ A H x v1 v2 _ hc) (cwV 2 hts (gw_V wd_9_19 wd_9_16 wd_9_17 wd_9_18 wd_1_2) rfl rfl rfl qX5_areTwoNodes ⟨Nat.le_of_ble_eq_true rfl, Nat.le_of_ble_eq_true rfl⟩) (kg_preVR (ci := 5) (q := (RX5, TX5, 6)) (q0 := 0) hPc hK hN rfl rfl) rfl rfl hl.1 rfl (lv_room (Nat.le_of_ble_eq_true rfl)) dX5_wouldName_3 ⟨Nat.zero_le _, Nat.zero_le _⟩) ?_
  refine kg_b_ne (tgt := 11) hx hb hf dX5_wouldName_6 (by decide) (fun hc hf => ?_) (fun hc hf => ?_)
  · refine lv_iload_n hx hb dX5_wouldName_11 rfl (lv_at hl 3 rfl) ?_
    by_cases hc0 : v3 = 0
    · rw [if_pos hc0] at hf
      refine lv_lookup (tgt := 40) (off := 28) hx hb dX5_wouldName_12 (by decide) (by rw [hc0]; rfl) (by decide) ?_
      refine lv_aload_n hx hb dX5_wouldName_40 rfl (lv_at hl 0 rfl) ?_
      refine va_get (D := (dC, dI)) (ci := 5) (v := .ref (A 1)) (C := RX5) (T := TX5) (N := 6) hx hb hts hiX5 hown hK hP 0 rfl rfl 0 (by decide) ww0 (fun _ h9 => h9) rfl dX5_wouldName_41 ?_
      refine va_get (D := (dC, dI)) (ci := 4) (v := .ref (A 9)) (C := RX4) (T := TX4) (N := 16) hx hb hts hiX4 hown hK hP 1 rfl rfl 7 (by decide) ww1 (fun _ h9 => h9) rfl dX5_wouldName_44 ?_
      refine lv_aload_n hx hb dX5_wouldName_47 rfl (lv_at hl 0 rfl) ?_
      refine lv_iload_n hx hb dX5_wouldName_48 rfl (lv_at hl 1 rfl) ?_
      refine lv_aload_n hx hb dX5_wouldName_49 rfl (lv_at hl 0 rfl) ?_
      refine va_get (D := (dC, dI)) (ci := 5) (v := .ref (A 1)) (C := RX5) (T := TX5) (N := 6) hx hb hts hiX5 hown hK hP 0 rfl rfl 0 (by decide) ww0 (fun _ h9 => h9) rfl dX5_wouldName_50 ?_
      refine lv_iload_n hx hb dX5_wouldName_53 rfl (lv_at hl 1 rfl) ?_
      refine lv_iload_n hx hb dX5_wouldName_54 rfl (lv_at hl 2 rfl) ?_
      obtain ⟨g55, hc, hf⟩ := ob_bind hf
      have hPx := kg_eqP (sp_SB_now cI cJ A x) hP
      have hDx := kg_eqD (sp_SB_now cI cJ A x) hD
      refine kg_retWi (pre := (oSB cI cJ A x)) (wc := wWb cI cJ (fun i => A (i + 1)) (SB_now x)) (post := (oWb cI cJ (fun i => A (i + 24)) (SB_trial x)) ++ ((wNm cI cJ 32 (fun i => A (i + 32)) (Wb_blocks (SB_trial x))) ++ ((wNm cI cJ 32 (fun i => A (i + 37)) (Wb_lands (SB_trial x))) ++ ((wNm cI cJ 64 (fun i => A (i + 42)) (Wb_parts (SB_trial x))) ++ ((wFo cI cJ (fun i => A (i + 47)) (SB_forest x)) ++ ((wPb cI cJ (fun i => A (i + 59)) (SB_book x)) ++ ((wRo cI cJ (fun i => A (i + 64)) (SB_round x))))))))) (w1 := wWb cI cJ (fun i => A (i + 1)) g55.2) (wz := (wSB cI cJ A (SB_set_now x g55.2))) (sj_SB_now _ _ _ _ _) hPx hDx hS hA (va_runV (As := [.int v1, .int v2]) (rest := [.int v1, .ref (A 0), .ref (A 9)]) ⟨hx, hb, hml, hown, hts⟩ (c_X4_trace l dC dI cI cJ (fun i => A (i + 1)) H.size (SB_now x) v1 v2 _ hc) (cwV 2 hts (gw_V wd_10_13 wd_33_16 wd_10_11 wd_10_12 wd_1_14) rfl rfl rfl qX4_trace ⟨Nat.le_of_ble_eq_true rfl, Nat.le_of_ble_eq_true rfl⟩) (kg_preVW (ci := 4) (q := (RX4, TX4, 16)) (q0 := 0) (kg_cutP hPx) (kg_cutD hDx) hK hN rfl rfl) rfl rfl hl.1 rfl (lv_room (Nat.le_of_ble_eq_true rfl)) dX5_wouldName_55 ⟨Nat.zero_le _, Nat.zero_le _⟩) (fun H locs hP hD hS => ?_)
      obtain ⟨g58, hc, hf⟩ := ob_bind hf
      have hPc : va_P (dC, dI) vwCl (wSB cI cJ A (SB_set_now x g55.2)) H := hP
      refine kg_retRj (va_runV (As := [.int v1, .int g55.1]) (rest := [.ref (A 9)]) ⟨hx, hb, hml, hown, hts⟩ (c_X5_wouldBeOne l dC dI cI cJ A H (SB_set_now x g55.2) v1 g55.1 _ hc) (cwV 2 hts (gw_V wd_36_3 wd_36_0 wd_36_1 wd_36_2 wd_1_2) rfl rfl rfl qX5_wouldBeOne ⟨Nat.le_of_ble_eq_true rfl, Nat.le_of_ble_eq_true rfl⟩) (kg_preVR (ci := 5) (q := (RX5, TX5, 6)) (q0 := 0) hPc hK hN rfl rfl) rfl rfl hl.1 rfl (lv_room (Nat.le_of_ble_eq_true rfl)) dX5_wouldName_58 ⟨Nat.zero_le _, Nat.zero_le _⟩) ?_
      obtain ⟨g61, hc, hf⟩ := ob_bind hf
      have hPc : va_P (dC, dI) vwCl (wNm cI cJ 32 (fun i => A (i + 9)) (Wb_blocks (SB_now (SB_set_now x g55.2)))) H := hP.sub [9, 10, 11, 12, 13] rfl
      refine kg_retRi (va_runV (As := [.long g58]) (rest := []) ⟨hx, hb, hml, hown, hts⟩ (c_X1_keeper l dC dI cI cJ (fun i => A (i + 9)) H 32 (Wb_blocks (SB_now (SB_set_now x g55.2))) g58 _ hc) (cwV 1 hts (gw_V wd_11_5 wd_42_19 wd_11_3 wd_11_4 wd_2_20) rfl rfl rfl qX1_keeper ⟨Nat.le_of_ble_eq_true rfl, Nat.le_of_ble_eq_true rfl⟩) (kg_preVR (ci := 1) (q := (RX1, TX1, 6)) (q0 := 0) hPc hK hN rfl rfl) rfl rfl hl.1 rfl (lv_room (Nat.le_of_ble_eq_true rfl)) dX5_wouldName_61 ⟨Nat.zero_le _, Nat.zero_le _⟩) ?_
      obtain rfl := Option.some.inj hf
      exact kg_iretW hx hb hr hlk rfl hP hD hS dX5_wouldName_64
    · rw [if_neg hc0] at hf
      by_cases hc1 : v3 = 1
      · rw [if_pos hc1] at hf
        refine lv_lookup (tgt := 65) (off := 53) hx hb dX5_wouldName_12 (by decide) (by rw [hc1]; rfl) (by decide) ?_
        refine lv_aload_n hx hb dX5_wouldName_65 rfl (lv_at hl 0 rfl) ?_
        refine va_get (D := (dC, dI)) (ci := 5) (v := .ref (A 1)) (C := RX5) (T := TX5) (N := 6) hx hb hts hiX5 hown hK hP 0 rfl rfl 0 (by decide) ww0 (fun _ h9 => h9) rfl dX5_wouldName_66 ?_
        refine va_get (D := (dC, dI)) (ci := 4) (v := .ref (A 14)) (C := RX4) (T := TX4) (N := 16) hx hb hts hiX4 hown hK hP 1 rfl rfl 8 (by decide) ww2 (fun _ h9 => h9) rfl dX5_wouldName_69 ?_
        refine lv_aload_n hx hb dX5_wouldName_72 rfl (lv_at hl 0 rfl) ?_
        refine va_get (D := (dC, dI)) (ci := 5) (v := .ref (A 1)) (C := RX5) (T := TX5) (N := 6) hx hb hts hiX5 hown hK hP 0 rfl rfl 0 (by decide) ww0 (fun _ h9 => h9) rfl dX5_wouldName_73 ?_
        refine va_get (D := (dC, dI)) (ci := 4) (v := .ref (A 14)) (C := RX4) (T := TX4) (N := 16) hx hb hts hiX4 hown hK hP 1 rfl rfl 8 (by decide) ww2 (fun _ h9 => h9) rfl dX5_wouldName_76 ?_
        refine va_get (D := (dC, dI)) (ci := 1) (v := .ref (A 15)) (C := RX1) (T := TX1) (N := 6) hx hb hts hiX1 hown hK hP 14 rfl rfl 0 (by decide) ww3 (fun _ h9 => h9) rfl dX5_wouldName_79 ?_
        refine lv_iload_n hx hb dX5_wouldName_82 rfl (lv_at hl 1 rfl) ?_
        obtain ⟨g83, hv, hf⟩ := ob_bind hf
        refine kg_iald hx hb hK hP 15 0 rfl rfl hv dX5_wouldName_83 ?_
        obtain ⟨g84, hc, hf⟩ := ob_bind hf
        have hPc : va_P (dC, dI) vwCl ([] : va_W) H := fun k q h => by cases h
        refine kg_retRj (va_runS (As := [.int g83]) (rest := [.ref (A 14)]) ⟨hx, hb, hml, hown, hts⟩ (c_X5_bit l dC dI cI cJ  H g83 _ hc) (cwS 1 hts (gw_S wd_7_17 wd_36_4 wd_7_16 wd_1_2) rfl rfl rfl qX5_bit ⟨Nat.le_of_ble_eq_true rfl, Nat.le_of_ble_eq_true rfl⟩) (kg_preSR hPc hK hN) rfl rfl hl.1 rfl (lv_room (Nat.le_of_ble_eq_true rfl)) dX5_wouldName_84 ⟨Nat.zero_le _, Nat.zero_le _⟩) ?_
        refine lv_aload_n hx hb dX5_wouldName_87 rfl (lv_at hl 0 rfl) ?_
        refine va_get (D := (dC, dI)) (ci := 5) (v := .ref (A 1)) (C := RX5) (T := TX5) (N := 6) hx hb hts hiX5 hown hK hP 0 rfl rfl 0 (by decide) ww0 (fun _ h9 => h9) rfl dX5_wouldName_88 ?_
        refine va_get (D := (dC, dI)) (ci := 4) (v := .ref (A 14)) (C := RX4) (T := TX4) (N := 16) hx hb hts hiX4 hown hK hP 1 rfl rfl 8 (by decide) ww2 (fun _ h9 => h9) rfl dX5_wouldName_91 ?_
        refine va_get (D := (dC, dI)) (ci := 1) (v := .ref (A 15)) (C := RX1) (T := TX1) (N := 6) hx hb hts hiX1 hown hK hP 14 rfl rfl 0 (by decide) ww3 (fun _ h9 => h9) rfl dX5_wouldName_94 ?_
        refine lv_iload_n hx hb dX5_wouldName_97 rfl (lv_at hl 2 rfl) ?_
        obtain ⟨g98, hv, hf⟩ := ob_bind hf
        refine kg_iald hx hb hK hP 15 0 rfl rfl hv dX5_wouldName_98 ?_
        obtain ⟨g99, hc, hf⟩ := ob_bind hf
        have hPc : va_P (dC, dI) vwCl ([] : va_W) H := fun k q h => by cases h
        refine kg_retRj (va_runS (As := [.int g98]) (rest := [.long g84, .ref (A 14)]) ⟨hx, hb, hml, hown, hts⟩ (c_X5_bit l dC dI cI cJ  H g98 _ hc) (cwS 1 hts (gw_S wd_7_17 wd_36_4 wd_7_16 wd_1_2) rfl rfl rfl qX5_bit ⟨Nat.le_of_ble_eq_true rfl, Nat.le_of_ble_eq_true rfl⟩) (kg_preSR hPc hK hN) rfl rfl hl.1 rfl (lv_room (Nat.le_of_ble_eq_true rfl)) dX5_wouldName_99 ⟨Nat.zero_le _, Nat.zero_le _⟩) ?_
        refine lv_lor hx hb dX5_wouldName_102 ?_
        obtain ⟨g103, hc, hf⟩ := ob_bind hf
        have hPc : va_P (dC, dI) vwCl (wNm cI cJ 32 (fun i => A (i + 14)) (Wb_lands (SB_now x))) H := hP.sub [14, 15, 16, 17, 18] rfl
        refine kg_retRi (va_runV (As := [.long (g84 ||| g99)]) (rest := []) ⟨hx, hb, hml, hown, hts⟩ (c_X1_keeper l dC dI cI cJ (fun i => A (i + 14)) H 32 (Wb_lands (SB_now x)) (g84 ||| g99) _ hc) (cwV 1 hts (gw_V wd_11_5 wd_42_19 wd_11_3 wd_11_4 wd_2_20) rfl rfl rfl qX1_keeper ⟨Nat.le_of_ble_eq_true rfl, Nat.le_of_ble_eq_true rfl⟩) (kg_preVR (ci := 1) (q := (RX1, TX1, 6)) (q0 := 0) hPc hK hN rfl rfl) rfl rfl hl.1 rfl (lv_room (Nat.le_of_ble_eq_true rfl)) dX5_wouldName_103 ⟨Nat.zero_le _, Nat.zero_le _⟩) ?_
        obtain rfl := Option.some.inj hf
        exact kg_iretW hx hb hr hlk rfl hP hD hS dX5_wouldName_106
      · rw [if_neg hc1] at hf
        have ehc0 := ne_toInt hc0 (k := 0) (by decide)
        have ehc1 := ne_toInt hc1 (k := 1) (by decide)
        refine lv_lookup (tgt := 107) (off := 95) hx hb dX5_wouldName_12 (by decide) (by simp only [Op.lookupswitch.offset]; rw [if_neg (Ne.symm ehc0), if_neg (Ne.symm ehc1)]) (by decide) ?_
        refine lv_iconst (v := (-1)) hx hb dX5_wouldName_107 (by decide) ?_
        obtain rfl := Option.some.inj hf
        exact kg_iretW hx hb hr hlk rfl hP hD hS dX5_wouldName_108
  · refine lv_iconst (v := (-1)) hx hb dX5_wouldName_9 (by decide) ?_
    obtain rfl := Option.some.inj hf
    exact kg_iretW hx hb hr hlk rfl hP hD hS dX5_wouldName_10
set_option maxHeartbeats 4000000 in
set_option maxRecDepth 100000 in
theorem c_X5_best (l : Launch) (dC : Nat → ClassId) (dI : Nat → Nat → Nat) (cI cJ : ClassId) (A : Nat → Nat) (hq : Nat) (x : SBS) (v1 : Int32) (r0 : (Int32 × SBS)) (hf : SB_m_best x v1 = some r0) : MWi l yX5_best (wAll yX5_best cX5_best 8 (some .int)) ({ frames := 3, cells := 0, slots := 0, locals := 89 } : Room) [.ref (A 0), .int v1] hq (dC, dI) (vTy cI cJ) (wSB cI cJ A x) (wSB cI cJ A r0.2) r0.1 := by
  refine kg_metW (Qc := fun Q => QWi (dC, dI) Q (wSB cI cJ A r0.2) r0.1) (cc := cX5_best) (maxL := 8) (ret := (some .int)) (by decide) rfl (Nat.le_of_ble_eq_true rfl) ?_
  intro p e s m args below meth c Q hx hb hr hts hown hlk hml hP hK hN hD hA hS ls hl
  have hl : lv_has ls 8 [(0, .ref (A 0)), (1, .int v1)] := hl
  have ww0 := hts (.fieldLink RX5 12 "SafeBlocks" "now" "LSafeBlocks$Web;") (List.mem_cons_of_mem _ wd_1_15)
  have ww1 := hts (.fieldLink RX5 65 "SafeBlocks$Web" "nodes" "I") (List.mem_cons_of_mem _ wd_10_0)
  have ww2 := hts (.fieldLink RX5 22 "SafeBlocks" "forest" "LSafeBlocks$Forest;") (List.mem_cons_of_mem _ wd_1_20)
  have ww3 := hts (.fieldLink RX5 118 "SafeBlocks$Web" "blocks" "LSafeBlocks$Names;") (List.mem_cons_of_mem _ wd_18_7)
  have ww4 := hts (.fieldLink RX5 103 "SafeBlocks$Names" "of" "[I") (List.mem_cons_of_mem _ wd_17_19)
  have ww5 := hts (.fieldLink RX5 295 "SafeBlocks$Forest" "away" "[I") (List.mem_cons_of_mem _ wd_37_2)
  have hiX5 : ∀ w ∈ u_ws RX5 TX5 6, w ∈ wAll yX5_best cX5_best 8 (some .int) := fun w h => List.mem_cons_of_mem _ (inlX5 w h)
  have hiX4 : ∀ w ∈ u_ws RX4 TX4 16, w ∈ wAll yX5_best cX5_best 8 (some .int) := fun w h => List.mem_cons_of_mem _ (inlX4 w h)
  have hiX1 : ∀ w ∈ u_ws RX1 TX1 6, w ∈ wAll yX5_best cX5_best 8 (some .int) := fun w h => List.mem_cons_of_mem _ (inlX1 w h)
  have hiX0 : ∀ w ∈ u_ws RX0 TX0 13, w ∈ wAll yX5_best cX5_best 8 (some .int) := fun w h => List.mem_cons_of_mem _ (inlX0 w h)
  suffices hgo : ∀ (H : Heap) (locs : List Loc), va_P (dC, dI) vwCl (wSB cI cJ A x) H → va_S Q s.heap H locs → W p l e ({ frames := 3, cells := 0, slots := 0, locals := 89 } : Room) s m args below meth c H locs 0 0 (MQ below (QWi (dC, dI) Q (wSB cI cJ A r0.2) r0.1) args s 0 0 Q) (F0 m 0 ls []) from hgo _ _ hP hS
  clear hP hS
  intro H locs hP hS
  unfold SB_m_best at hf
  refine lv_iconst (v := 0) hx hb dX5_best_0 (by decide) ?_
  refine lv_istore_n (lv' := [(2, .int 0), (0, .ref (A 0)), (1, .int v1)]) hx hb dX5_best_1 rfl hl (by decide) rfl (fun ls hl => ?_)
  refine lv_iconst (v := (-1)) hx hb dX5_best_2 (by decide) ?_
  refine lv_istore_n (lv' := [(3, .int (-1)), (2, .int 0), (0, .ref (A 0)), (1, .int v1)]) hx hb dX5_best_3 rfl hl (by decide) rfl (fun ls hl => ?_)
  refine lv_iconst (v := (-1)) hx hb dX5_best_4 (by decide) ?_
  refine lv_istore (lv' := [(4, .int (-1)), (3, .int (-1)), (2, .int 0), (0, .ref (A 0)), (1, .int v1)]) hx hb dX5_best_5 hl (by decide) rfl (fun ls hl => ?_)
  refine lv_iconst (v := 0) hx hb dX5_best_7 (by decide) ?_
  refine lv_istore (lv' := [(5, .int 0), (4, .int (-1)), (3, .int (-1)), (2, .int 0), (0, .ref (A 0)), (1, .int v1)]) hx hb dX5_best_8 hl (by decide) rfl (fun ls hl => ?_)
  have hlp10 : ∀ (n : Nat) (x : SBS) (v2 : Int32) (v3 : Int32) (v4 : Int32) (v5 : Int32), iter (fun p : SBS × Int32 × Int32 × Int32 × Int32 => SB_m_best_s10 v1 p.1 p.2.1 p.2.2.1 p.2.2.2.1 p.2.2.2.2) n (x, v2, v3, v4, v5) = some r0 → ∀ (H : Heap) (locs : List Loc) (ls : Array Slot), va_P (dC, dI) vwCl (wSB cI cJ A x) H → va_D Q (wSB cI cJ A x) → va_S Q s.heap H locs → lv_has ls 8 [(0, .ref (A 0)), (1, .int v1), (2, .int v2), (3, .int v3), (4, .int v4), (5, .int v5)] → W p l e ({ frames := 3, cells := 0, slots := 0, locals := 89 } : Room) s m args below meth c H locs 0 0 (MQ below (QWi (dC, dI) Q (wSB cI cJ A r0.2) r0.1) args s 0 0 Q) (F0 m 10 ls []) := by
    intro  n
    induction n with
    | zero => intro x v2 v3 v4 v5 hf; exact iter_zero hf
    | succ n ih1 =>
      intro x v2 v3 v4 v5 hf H locs ls hP hD hS hl
      obtain ⟨q1, hf, hk1⟩ := iter_succ hf
      have hf : SB_m_best_s10 v1 x v2 v3 v4 v5 = some q1 := hf
      unfold SB_m_best_s10 at hf
      refine lv_iload hx hb dX5_best_10 (lv_at hl 5 rfl) ?_
      refine lv_aload_n hx hb dX5_best_12 rfl (lv_at hl 0 rfl) ?_
      refine va_get (D := (dC, dI)) (ci := 5) (v := .ref (A 1)) (C := RX5) (T := TX5) (N := 6) hx hb hts hiX5 hown hK hP 0 rfl rfl 0 (by decide) ww0 (fun _ h9 => h9) rfl dX5_best_13 ?_
      refine va_get (D := (dC, dI)) (ci := 4) (v := .int (Wb_nodes (SB_now x))) (C := RX4) (T := TX4) (N := 16) hx hb hts hiX4 hown hK hP 1 rfl rfl 10 (by decide) ww1 (fun _ h9 => h9) rfl dX5_best_16 ?_
      refine kg_icmp_ge (tgt := 111) hx hb hf dX5_best_19 (by decide) (fun hc hf => ?_) (fun hc hf => ?_)
      · obtain ⟨qq, hf, hqq⟩ := omap_some hf
        have hkq : qq = r0 := by rw [← hqq] at hk1; exact hk1
        rw [hkq] at hf
        clear hkq hqq
        refine lv_iload_n hx hb dX5_best_111 rfl (lv_at hl 1 rfl) ?_
        by_cases hc0 : v1 = 0
        · rw [if_pos hc0] at hf
          refine lv_tableIn (tgt := 140) (off := 28) hx hb dX5_best_112 (by rw [hc0]; decide) (by rw [hc0]; decide) (by rw [hc0]; rfl) (by decide) ?_
          refine lv_iload_n hx hb dX5_best_140 rfl (lv_at hl 2 rfl) ?_
          refine kg_if_ne (tgt := 148) hx hb hf dX5_best_141 (by decide) (fun hc hf => ?_) (fun hc hf => ?_)
          · refine lv_iload_n hx hb dX5_best_148 rfl (lv_at hl 2 rfl) ?_
            obtain rfl := Option.some.inj hf
            exact kg_iretW hx hb hr hlk rfl hP hD hS dX5_best_149
          · refine lv_iconst (v := (-1)) hx hb dX5_best_144 (by decide) ?_
            refine lv_goto (tgt := 149) hx hb dX5_best_145 (by decide) ?_
            obtain rfl := Option.some.inj hf
            exact kg_iretW hx hb hr hlk rfl hP hD hS dX5_best_149
        · rw [if_neg hc0] at hf
          by_cases hc1 : v1 = 1
          · rw [if_pos hc1] at hf
            refine lv_tableIn (tgt := 150) (off := 38) hx hb dX5_best_112 (by rw [hc1]; decide) (by rw [hc1]; decide) (by rw [hc1]; rfl) (by decide) ?_
            refine lv_iload_n hx hb dX5_best_150 rfl (lv_at hl 3 rfl) ?_
            obtain rfl := Option.some.inj hf
            exact kg_iretW hx hb hr hlk rfl hP hD hS dX5_best_151
          · rw [if_neg hc1] at hf
            by_cases hc2 : v1 = 2
            · rw [if_pos hc2] at hf
              refine lv_tableIn (tgt := 152) (off := 40) hx hb dX5_best_112 (by rw [hc2]; decide) (by rw [hc2]; decide) (by rw [hc2]; rfl) (by decide) ?_
              refine lv_iload hx hb dX5_best_152 (lv_at hl 4 rfl) ?_
              obtain rfl := Option.some.inj hf
              exact kg_iretW hx hb hr hlk rfl hP hD hS dX5_best_154
            · rw [if_neg hc2] at hf
              have ehc0 := ne_toInt hc0 (k := 0) (by decide)
              have ehc1 := ne_toInt hc1 (k := 1) (by decide)
              have ehc2 := ne_toInt hc2 (k := 2) (by decide)
              refine lv_tableOut (tgt := 155) hx hb dX5_best_112 (by omega) (by decide) ?_
              refine lv_iconst (v := (-1)) hx hb dX5_best_155 (by decide) ?_
              obtain rfl := Option.some.inj hf
              exact kg_iretW hx hb hr hlk rfl hP hD hS dX5_best_156
      · refine lv_aload_n hx hb dX5_best_22 rfl (lv_at hl 0 rfl) ?_
        refine va_get (D := (dC, dI)) (ci := 5) (v := .ref (A 47)) (C := RX5) (T := TX5) (N := 6) hx hb hts hiX5 hown hK hP 0 rfl rfl 2 (by decide) ww2 (fun _ h9 => h9) rfl dX5_best_23 ?_
        refine lv_aload_n hx hb dX5_best_26 rfl (lv_at hl 0 rfl) ?_
        refine va_get (D := (dC, dI)) (ci := 5) (v := .ref (A 1)) (C := RX5) (T := TX5) (N := 6) hx hb hts hiX5 hown hK hP 0 rfl rfl 0 (by decide) ww0 (fun _ h9 => h9) rfl dX5_best_27 ?_
        refine va_get (D := (dC, dI)) (ci := 4) (v := .ref (A 9)) (C := RX4) (T := TX4) (N := 16) hx hb hts hiX4 hown hK hP 1 rfl rfl 7 (by decide) ww3 (fun _ h9 => h9) rfl dX5_best_30 ?_
        refine va_get (D := (dC, dI)) (ci := 1) (v := .ref (A 10)) (C := RX1) (T := TX1) (N := 6) hx hb hts hiX1 hown hK hP 9 rfl rfl 0 (by decide) ww4 (fun _ h9 => h9) rfl dX5_best_33 ?_
        refine lv_iload hx hb dX5_best_36 (lv_at hl 5 rfl) ?_
        obtain ⟨g38, hv, hf⟩ := ob_bind hf
        refine kg_iald hx hb hK hP 10 0 rfl rfl hv dX5_best_38 ?_
        obtain ⟨g39, hc, hf⟩ := ob_bind hf
        have hPx := kg_eqP (sp_SB_forest cI cJ A x) hP
        have hDx := kg_eqD (sp_SB_forest cI cJ A x) hD
        refine kg_retWv (pre := (oSB cI cJ A x) ++ ((oWb cI cJ (fun i => A (i + 1)) (SB_now x)) ++ ((wNm cI cJ 32 (fun i => A (i + 9)) (Wb_blocks (SB_now x))) ++ ((wNm cI cJ 32 (fun i => A (i + 14)) (Wb_lands (SB_now x))) ++ ((wNm cI cJ 64 (fun i => A (i + 19)) (Wb_parts (SB_now x))) ++ ((oWb cI cJ (fun i => A (i + 24)) (SB_trial x)) ++ ((wNm cI cJ 32 (fun i => A (i + 32)) (Wb_blocks (SB_trial x))) ++ ((wNm cI cJ 32 (fun i => A (i + 37)) (Wb_lands (SB_trial x))) ++ ((wNm cI cJ 64 (fun i => A (i + 42)) (Wb_parts (SB_trial x)))))))))))) (wc := wFo cI cJ (fun i => A (i + 47)) (SB_forest x)) (post := (wPb cI cJ (fun i => A (i + 59)) (SB_book x)) ++ ((wRo cI cJ (fun i => A (i + 64)) (SB_round x)))) (w1 := wFo cI cJ (fun i => A (i + 47)) g39) (wz := (wSB cI cJ A (SB_set_forest x g39))) (sj_SB_forest _ _ _ _ _) hPx hDx hS hA (va_runV (As := [.int g38]) (rest := []) ⟨hx, hb, hml, hown, hts⟩ (c_X0_measure l dC dI cI cJ (fun i => A (i + 47)) H.size (SB_forest x) g38 _ hc) (cwV 1 hts (gw_V wd_28_16 wd_37_3 wd_28_14 wd_28_15 wd_1_19) rfl rfl rfl qX0_measure ⟨Nat.le_of_ble_eq_true rfl, Nat.le_of_ble_eq_true rfl⟩) (kg_preVW (ci := 0) (q := (RX0, TX0, 13)) (q0 := 0) (kg_cutP hPx) (kg_cutD hDx) hK hN rfl rfl) rfl rfl hl.1 rfl (lv_room (Nat.le_of_ble_eq_true rfl)) dX5_best_39 ⟨Nat.zero_le _, Nat.zero_le _⟩) (fun H locs hP hD hS => ?_)
        refine lv_iload hx hb dX5_best_42 (lv_at hl 5 rfl) ?_
        refine lv_iconst (v := 1) hx hb dX5_best_44 (by decide) ?_
        refine lv_iadd hx hb dX5_best_45 ?_
        refine lv_istore (lv' := [(6, .int (v5 + 1)), (0, .ref (A 0)), (1, .int v1), (2, .int v2), (3, .int v3), (4, .int v4), (5, .int v5)]) hx hb dX5_best_46 hl (by decide) rfl (fun ls hl => ?_)
        have hlp48 : ∀ (x : SBS) (v5 : Int32), ∀ (n : Nat) (v2 : Int32) (v3 : Int32) (v4 : Int32) (v6 : Int32), iter (fun p : Int32 × Int32 × Int32 × Int32 => SB_m_best_s48 x v1 v5 p.1 p.2.1 p.2.2.1 p.2.2.2) n (v2, v3, v4, v6) = some q1 → ∀ (H : Heap) (locs : List Loc) (ls : Array Slot), va_P (dC, dI) vwCl (wSB cI cJ A x) H → va_D Q (wSB cI cJ A x) → va_S Q s.heap H locs → lv_has ls 8 [(0, .ref (A 0)), (1, .int v1), (2, .int v2), (3, .int v3), (4, .int v4), (5, .int v5), (6, .int v6)] → W p l e ({ frames := 3, cells := 0, slots := 0, locals := 89 } : Room) s m args below meth c H locs 0 0 (MQ below (QWi (dC, dI) Q (wSB cI cJ A r0.2) r0.1) args s 0 0 Q) (F0 m 48 ls []) := by
          intro x v5 n
          induction n with
          | zero => intro v2 v3 v4 v6 hf; exact iter_zero hf
          | succ n ih2 =>
            intro v2 v3 v4 v6 hf H locs ls hP hD hS hl
            obtain ⟨q2, hf, hk2⟩ := iter_succ hf
            have hf : SB_m_best_s48 x v1 v5 v2 v3 v4 v6 = some q2 := hf
            unfold SB_m_best_s48 at hf
            refine lv_iload hx hb dX5_best_48 (lv_at hl 6 rfl) ?_
            refine lv_aload_n hx hb dX5_best_50 rfl (lv_at hl 0 rfl) ?_
            refine va_get (D := (dC, dI)) (ci := 5) (v := .ref (A 1)) (C := RX5) (T := TX5) (N := 6) hx hb hts hiX5 hown hK hP 0 rfl rfl 0 (by decide) ww0 (fun _ h9 => h9) rfl dX5_best_51 ?_
            refine va_get (D := (dC, dI)) (ci := 4) (v := .int (Wb_nodes (SB_now x))) (C := RX4) (T := TX4) (N := 16) hx hb hts hiX4 hown hK hP 1 rfl rfl 10 (by decide) ww1 (fun _ h9 => h9) rfl dX5_best_54 ?_
            refine kg_icmp_ge (tgt := 105) hx hb hf dX5_best_57 (by decide) (fun hc hf => ?_) (fun hc hf => ?_)
            · obtain ⟨qq, hf, hqq⟩ := omap_some hf
              have hkq : qq = q1 := by rw [← hqq] at hk2; exact hk2
              rw [hkq] at hf
              clear hkq hqq
              refine lv_iinc (v := (v5 + 1)) (lv' := [(5, .int (v5 + 1)), (0, .ref (A 0)), (1, .int v1), (2, .int v2), (3, .int v3), (4, .int v4), (6, .int v6)]) hx hb dX5_best_105 hl (k := 5) rfl rfl (by decide) rfl (fun ls hl => ?_)
              refine lv_goto (tgt := 10) hx hb dX5_best_108 (by decide) ?_
              obtain rfl := Option.some.inj hf
              exact ih1 x v2 v3 v4 (v5 + 1) hk1 _ _ _ hP hD hS (lv_sub hl [1, 2, 3, 4, 5, 0] rfl)
            · refine lv_aload_n hx hb dX5_best_60 rfl (lv_at hl 0 rfl) ?_
              refine va_get (D := (dC, dI)) (ci := 5) (v := .ref (A 47)) (C := RX5) (T := TX5) (N := 6) hx hb hts hiX5 hown hK hP 0 rfl rfl 2 (by decide) ww2 (fun _ h9 => h9) rfl dX5_best_61 ?_
              refine va_get (D := (dC, dI)) (ci := 0) (v := .ref (A 54)) (C := RX0) (T := TX0) (N := 13) hx hb hts hiX0 hown hK hP 47 rfl rfl 6 (by decide) ww5 (fun _ h9 => h9) rfl dX5_best_64 ?_
              refine lv_aload_n hx hb dX5_best_67 rfl (lv_at hl 0 rfl) ?_
              refine va_get (D := (dC, dI)) (ci := 5) (v := .ref (A 1)) (C := RX5) (T := TX5) (N := 6) hx hb hts hiX5 hown hK hP 0 rfl rfl 0 (by decide) ww0 (fun _ h9 => h9) rfl dX5_best_68 ?_
              refine va_get (D := (dC, dI)) (ci := 4) (v := .ref (A 9)) (C := RX4) (T := TX4) (N := 16) hx hb hts hiX4 hown hK hP 1 rfl rfl 7 (by decide) ww3 (fun _ h9 => h9) rfl dX5_best_71 ?_
              refine va_get (D := (dC, dI)) (ci := 1) (v := .ref (A 10)) (C := RX1) (T := TX1) (N := 6) hx hb hts hiX1 hown hK hP 9 rfl rfl 0 (by decide) ww4 (fun _ h9 => h9) rfl dX5_best_74 ?_
              refine lv_iload hx hb dX5_best_77 (lv_at hl 6 rfl) ?_
              obtain ⟨g79, hv, hf⟩ := ob_bind hf
              refine kg_iald hx hb hK hP 10 0 rfl rfl hv dX5_best_79 ?_
              obtain ⟨g80, hv, hf⟩ := ob_bind hf
              refine kg_iald hx hb hK hP 54 0 rfl rfl hv dX5_best_80 ?_
              refine lv_istore (lv' := [(7, .int g80), (0, .ref (A 0)), (1, .int v1), (2, .int v2), (3, .int v3), (4, .int v4), (5, .int v5), (6, .int v6)]) hx hb dX5_best_81 hl (by decide) rfl (fun ls hl => ?_)
              refine lv_iload hx hb dX5_best_83 (lv_at hl 0 rfl) ?_
              refine lv_iload_n hx hb dX5_best_85 rfl (lv_at hl 3 rfl) ?_
              refine kg_icmp_le (tgt := 99) hx hb hf dX5_best_86 (by decide) (fun hc hf => ?_) (fun hc hf => ?_)
              · refine lv_iinc (v := (v6 + 1)) (lv' := [(6, .int (v6 + 1)), (7, .int g80), (0, .ref (A 0)), (1, .int v1), (2, .int v2), (3, .int v3), (4, .int v4), (5, .int v5)]) hx hb dX5_best_99 hl (k := 7) rfl rfl (by decide) rfl (fun ls hl => ?_)
                refine lv_goto (tgt := 48) hx hb dX5_best_102 (by decide) ?_
                obtain rfl := Option.some.inj hf
                exact ih2 v2 v3 v4 (v6 + 1) hk2 _ _ _ hP hD hS (lv_sub hl [2, 3, 4, 5, 6, 7, 0] rfl)
              · refine lv_iload hx hb dX5_best_89 (lv_at hl 0 rfl) ?_
                refine lv_istore_n (lv' := [(2, .int g80), (7, .int g80), (0, .ref (A 0)), (1, .int v1), (3, .int v3), (4, .int v4), (5, .int v5), (6, .int v6)]) hx hb dX5_best_91 rfl hl (by decide) rfl (fun ls hl => ?_)
                refine lv_iload hx hb dX5_best_92 (lv_at hl 6 rfl) ?_
                refine lv_istore_n (lv' := [(3, .int v5), (2, .int g80), (7, .int g80), (0, .ref (A 0)), (1, .int v1), (4, .int v4), (5, .int v5), (6, .int v6)]) hx hb dX5_best_94 rfl hl (by decide) rfl (fun ls hl => ?_)
                refine lv_iload hx hb dX5_best_95 (lv_at hl 7 rfl) ?_
                refine lv_istore (lv' := [(4, .int v6), (3, .int v5), (2, .int g80), (7, .int g80), (0, .ref (A 0)), (1, .int v1), (5, .int v5), (6, .int v6)]) hx hb dX5_best_97 hl (by decide) rfl (fun ls hl => ?_)
                refine lv_iinc (v := (v6 + 1)) (lv' := [(6, .int (v6 + 1)), (4, .int v6), (3, .int v5), (2, .int g80), (7, .int g80), (0, .ref (A 0)), (1, .int v1), (5, .int v5)]) hx hb dX5_best_99 hl (k := 7) rfl rfl (by decide) rfl (fun ls hl => ?_)
                refine lv_goto (tgt := 48) hx hb dX5_best_102 (by decide) ?_
                obtain rfl := Option.some.inj hf
                exact ih2 g80 v5 v6 (v6 + 1) hk2 _ _ _ hP hD hS (lv_sub hl [5, 6, 3, 2, 1, 7, 0] rfl)
        exact hlp48 (SB_set_forest x g39) v5 FU v2 v3 v4 (v5 + 1) hf _ _ _ hP hD hS (lv_sub hl [1, 2, 3, 4, 5, 6, 0] rfl)
  exact hlp10  FU x 0 (-1) (-1) 0 hf _ _ _ hP hD hS (lv_sub hl [4, 5, 3, 2, 1, 0] rfl)
set_option maxHeartbeats 4000000 in
set_option maxRecDepth 100000 in
theorem c_X5_without (l : Launch) (dC : Nat → ClassId) (dI : Nat → Nat → Nat) (cI cJ : ClassId) (A : Nat → Nat) (hq : Nat) (x : SBS) (v1 : Int32) (v2 : Int32) (v3 : Int32) (r0 : (Int32 × SBS)) (hf : SB_m_without x v1 v2 v3 = some r0) : MWi l yX5_without (wAll yX5_without cX5_without 7 (some .int)) ({ frames := 6, cells := 0, slots := 0, locals := 164 } : Room) [.ref (A 0), .int v1, .int v2, .int v3] hq (dC, dI) (vTy cI cJ) (wSB cI cJ A x) (wSB cI cJ A r0.2) r0.1 := by
  refine kg_metW (Qc := fun Q => QWi (dC, dI) Q (wSB cI cJ A r0.2) r0.1) (cc := cX5_without) (maxL := 7) (ret := (some .int)) (by decide) rfl (Nat.le_of_ble_eq_true rfl) ?_
  intro p e s m args below meth c Q hx hb hr hts hown hlk hml hP hK hN hD hA hS ls hl
  have hl : lv_has ls 7 [(0, .ref (A 0)), (1, .int v1), (2, .int v2), (3, .int v3)] := hl
  have ww0 := hts (.fieldLink RX5 16 "SafeBlocks" "trial" "LSafeBlocks$Web;") (List.mem_cons_of_mem _ wd_1_16)
  have ww1 := hts (.fieldLink RX5 12 "SafeBlocks" "now" "LSafeBlocks$Web;") (List.mem_cons_of_mem _ wd_1_15)
  have ww2 := hts (.fieldLink RX5 65 "SafeBlocks$Web" "nodes" "I") (List.mem_cons_of_mem _ wd_10_0)
  have ww3 := hts (.fieldLink RX5 83 "SafeBlocks$Web" "first" "[I") (List.mem_cons_of_mem _ wd_17_14)
  have ww4 := hts (.fieldLink RX5 87 "SafeBlocks$Web" "second" "[I") (List.mem_cons_of_mem _ wd_17_15)
  have ww5 := hts (.fieldLink RX5 55 "SafeBlocks$Web" "links" "I") (List.mem_cons_of_mem _ wd_9_15)
  have ww6 := hts (.fieldLink RX5 121 "SafeBlocks$Web" "lands" "LSafeBlocks$Names;") (List.mem_cons_of_mem _ wd_18_8)
  have ww7 := hts (.fieldLink RX5 316 "SafeBlocks$Names" "groups" "I") (List.mem_cons_of_mem _ wd_40_9)
  have ww8 := hts (.fieldLink RX5 118 "SafeBlocks$Web" "blocks" "LSafeBlocks$Names;") (List.mem_cons_of_mem _ wd_18_7)
  have ww9 := hts (.fieldLink RX5 99 "SafeBlocks$Web" "parts" "LSafeBlocks$Names;") (List.mem_cons_of_mem _ wd_17_18)
  have hiX5 : ∀ w ∈ u_ws RX5 TX5 6, w ∈ wAll yX5_without cX5_without 7 (some .int) := fun w h => List.mem_cons_of_mem _ (inlX5 w h)
  have hiX4 : ∀ w ∈ u_ws RX4 TX4 16, w ∈ wAll yX5_without cX5_without 7 (some .int) := fun w h => List.mem_cons_of_mem _ (inlX4 w h)
  have hiX1 : ∀ w ∈ u_ws RX1 TX1 6, w ∈ wAll yX5_without cX5_without 7 (some .int) := fun w h => List.mem_cons_of_mem _ (inlX1 w h)
  suffices hgo : ∀ (H : Heap) (locs : List Loc), va_P (dC, dI) vwCl (wSB cI cJ A x) H → va_S Q s.heap H locs → W p l e ({ frames := 6, cells := 0, slots := 0, locals := 164 } : Room) s m args below meth c H locs 0 0 (MQ below (QWi (dC, dI) Q (wSB cI cJ A r0.2) r0.1) args s 0 0 Q) (F0 m 0 ls []) from hgo _ _ hP hS
  clear hP hS
  intro H locs hP hS
  unfold SB_m_without at hf
  have hj49 : ∀ (x : SBS) (v4 : Int32), SB_m_without_j49 x v2 v3 v4 = some r0 → ∀ (H : Heap) (locs : List Loc) (ls : Array Slot), va_P (dC, dI) vwCl (wSB cI cJ A x) H → va_D Q (wSB cI cJ A x) → va_S Q s.heap H locs → lv_has ls 7 [(0, .ref (A 0)), (2, .int v2), (3, .int v3), (4, .int v4)] → W p l e ({ frames := 6, cells := 0, slots := 0, locals := 164 } : Room) s m args below meth c H locs 0 0 (MQ below (QWi (dC, dI) Q (wSB cI cJ A r0.2) r0.1) args s 0 0 Q) (F0 m 49 ls []) := by
    intro x v4 hf H locs ls hP hD hS hl
    unfold SB_m_without_j49 at hf
    refine lv_iload_n hx hb dX5_without_49 rfl (lv_at hl 2 rfl) ?_
    refine kg_if_lt (tgt := 58) hx hb hf dX5_without_50 (by decide) (fun hc hf => ?_) (fun hc hf => ?_)
    · refine lv_iconst (v := (-1)) hx hb dX5_without_58 (by decide) ?_
      obtain rfl := Option.some.inj hf
      exact kg_iretW hx hb hr hlk rfl hP hD hS dX5_without_59
    · refine lv_iload_n hx hb dX5_without_53 rfl (lv_at hl 2 rfl) ?_
      refine lv_iconst (v := 3) hx hb dX5_without_54 (by decide) ?_
      refine kg_icmp_le (tgt := 60) hx hb hf dX5_without_55 (by decide) (fun hc hf => ?_) (fun hc hf => ?_)
      · refine lv_aload_n hx hb dX5_without_60 rfl (lv_at hl 0 rfl) ?_
        refine va_get (D := (dC, dI)) (ci := 5) (v := .ref (A 24)) (C := RX5) (T := TX5) (N := 6) hx hb hts hiX5 hown hK hP 0 rfl rfl 1 (by decide) ww0 (fun _ h9 => h9) rfl dX5_without_61 ?_
        refine lv_aload_n hx hb dX5_without_64 rfl (lv_at hl 0 rfl) ?_
        refine va_get (D := (dC, dI)) (ci := 5) (v := .ref (A 1)) (C := RX5) (T := TX5) (N := 6) hx hb hts hiX5 hown hK hP 0 rfl rfl 0 (by decide) ww1 (fun _ h9 => h9) rfl dX5_without_65 ?_
        refine va_get (D := (dC, dI)) (ci := 4) (v := .int (Wb_nodes (SB_now x))) (C := RX4) (T := TX4) (N := 16) hx hb hts hiX4 hown hK hP 1 rfl rfl 10 (by decide) ww2 (fun _ h9 => h9) rfl dX5_without_68 ?_
        obtain ⟨g71, hc, hf⟩ := ob_bind hf
        have hPx := kg_eqP (sp_SB_trial cI cJ A x) hP
        have hDx := kg_eqD (sp_SB_trial cI cJ A x) hD
        refine kg_retWv (pre := (oSB cI cJ A x) ++ ((oWb cI cJ (fun i => A (i + 1)) (SB_now x)) ++ ((wNm cI cJ 32 (fun i => A (i + 9)) (Wb_blocks (SB_now x))) ++ ((wNm cI cJ 32 (fun i => A (i + 14)) (Wb_lands (SB_now x))) ++ ((wNm cI cJ 64 (fun i => A (i + 19)) (Wb_parts (SB_now x)))))))) (wc := wWb cI cJ (fun i => A (i + 24)) (SB_trial x)) (post := (wFo cI cJ (fun i => A (i + 47)) (SB_forest x)) ++ ((wPb cI cJ (fun i => A (i + 59)) (SB_book x)) ++ ((wRo cI cJ (fun i => A (i + 64)) (SB_round x))))) (w1 := wWb cI cJ (fun i => A (i + 24)) g71) (wz := (wSB cI cJ A (SB_set_trial x g71))) (sj_SB_trial _ _ _ _ _) hPx hDx hS hA (va_runV (As := [.int (Wb_nodes (SB_now x))]) (rest := []) ⟨hx, hb, hml, hown, hts⟩ (c_X4_clear l dC dI cI cJ (fun i => A (i + 24)) H.size (SB_trial x) (Wb_nodes (SB_now x)) _ hc) (cwV 1 hts (gw_V wd_5_1 wd_4_22 wd_4_23 wd_5_0 wd_1_14) rfl rfl rfl qX4_clear ⟨Nat.le_of_ble_eq_true rfl, Nat.le_of_ble_eq_true rfl⟩) (kg_preVW (ci := 4) (q := (RX4, TX4, 16)) (q0 := 0) (kg_cutP hPx) (kg_cutD hDx) hK hN rfl rfl) rfl rfl hl.1 rfl (lv_room (Nat.le_of_ble_eq_true rfl)) dX5_without_71 ⟨Nat.zero_le _, Nat.zero_le _⟩) (fun H locs hP hD hS => ?_)
        refine lv_iconst (v := 0) hx hb dX5_without_74 (by decide) ?_
        refine lv_istore (lv' := [(6, .int 0), (0, .ref (A 0)), (2, .int v2), (3, .int v3), (4, .int v4)]) hx hb dX5_without_75 hl (by decide) rfl (fun ls hl => ?_)
        have hlp77 : ∀ (v4 : Int32), ∀ (n : Nat) (x : SBS) (v6 : Int32), iter (fun p : SBS × Int32 => SB_m_without_s77 v2 v3 v4 p.1 p.2) n (x, v6) = some r0 → ∀ (H : Heap) (locs : List Loc) (ls : Array Slot), va_P (dC, dI) vwCl (wSB cI cJ A x) H → va_D Q (wSB cI cJ A x) → va_S Q s.heap H locs → lv_has ls 7 [(0, .ref (A 0)), (2, .int v2), (3, .int v3), (4, .int v4), (6, .int v6)] → W p l e ({ frames := 6, cells := 0, slots := 0, locals := 164 } : Room) s m args below meth c H locs 0 0 (MQ below (QWi (dC, dI) Q (wSB cI cJ A r0.2) r0.1) args s 0 0 Q) (F0 m 77 ls []) := by
          intro v4 n
          induction n with
          | zero => intro x v6 hf; exact iter_zero hf
          | succ n ih1 =>
            intro x v6 hf H locs ls hP hD hS hl
            obtain ⟨q1, hf, hk1⟩ := iter_succ hf
            have hf : SB_m_without_s77 v2 v3 v4 x v6 = some q1 := hf
            unfold SB_m_without_s77 at hf
            have hj116 : ∀ (x : SBS) (v6 : Int32), SB_m_without_j116 x v2 v3 v4 v6 = some q1 → ∀ (H : Heap) (locs : List Loc) (ls : Array Slot), va_P (dC, dI) vwCl (wSB cI cJ A x) H → va_D Q (wSB cI cJ A x) → va_S Q s.heap H locs → lv_has ls 7 [(0, .ref (A 0)), (2, .int v2), (3, .int v3), (4, .int v4), (6, .int v6)] → W p l e ({ frames := 6, cells := 0, slots := 0, locals := 164 } : Room) s m args below meth c H locs 0 0 (MQ below (QWi (dC, dI) Q (wSB cI cJ A r0.2) r0.1) args s 0 0 Q) (F0 m 116 ls []) := by
              intro x v6 hf H locs ls hP hD hS hl
              unfold SB_m_without_j116 at hf
              refine lv_aload_n hx hb dX5_without_116 rfl (lv_at hl 0 rfl) ?_
              refine va_get (D := (dC, dI)) (ci := 5) (v := .ref (A 24)) (C := RX5) (T := TX5) (N := 6) hx hb hts hiX5 hown hK hP 0 rfl rfl 1 (by decide) ww0 (fun _ h9 => h9) rfl dX5_without_117 ?_
              refine lv_aload_n hx hb dX5_without_120 rfl (lv_at hl 0 rfl) ?_
              refine va_get (D := (dC, dI)) (ci := 5) (v := .ref (A 1)) (C := RX5) (T := TX5) (N := 6) hx hb hts hiX5 hown hK hP 0 rfl rfl 0 (by decide) ww1 (fun _ h9 => h9) rfl dX5_without_121 ?_
              refine va_get (D := (dC, dI)) (ci := 4) (v := .ref (A 2)) (C := RX4) (T := TX4) (N := 16) hx hb hts hiX4 hown hK hP 1 rfl rfl 0 (by decide) ww3 (fun _ h9 => h9) rfl dX5_without_124 ?_
              refine lv_iload hx hb dX5_without_127 (lv_at hl 4 rfl) ?_
              obtain ⟨g129, hv, hf⟩ := ob_bind hf
              refine kg_iald hx hb hK hP 2 0 rfl rfl hv dX5_without_129 ?_
              refine lv_aload_n hx hb dX5_without_130 rfl (lv_at hl 0 rfl) ?_
              refine va_get (D := (dC, dI)) (ci := 5) (v := .ref (A 1)) (C := RX5) (T := TX5) (N := 6) hx hb hts hiX5 hown hK hP 0 rfl rfl 0 (by decide) ww1 (fun _ h9 => h9) rfl dX5_without_131 ?_
              refine va_get (D := (dC, dI)) (ci := 4) (v := .ref (A 3)) (C := RX4) (T := TX4) (N := 16) hx hb hts hiX4 hown hK hP 1 rfl rfl 1 (by decide) ww4 (fun _ h9 => h9) rfl dX5_without_134 ?_
              refine lv_iload hx hb dX5_without_137 (lv_at hl 4 rfl) ?_
              obtain ⟨g139, hv, hf⟩ := ob_bind hf
              refine kg_iald hx hb hK hP 3 0 rfl rfl hv dX5_without_139 ?_
              obtain ⟨g140, hc, hf⟩ := ob_bind hf
              have hPx := kg_eqP (sp_SB_trial cI cJ A x) hP
              have hDx := kg_eqD (sp_SB_trial cI cJ A x) hD
              refine kg_retWi (pre := (oSB cI cJ A x) ++ ((oWb cI cJ (fun i => A (i + 1)) (SB_now x)) ++ ((wNm cI cJ 32 (fun i => A (i + 9)) (Wb_blocks (SB_now x))) ++ ((wNm cI cJ 32 (fun i => A (i + 14)) (Wb_lands (SB_now x))) ++ ((wNm cI cJ 64 (fun i => A (i + 19)) (Wb_parts (SB_now x)))))))) (wc := wWb cI cJ (fun i => A (i + 24)) (SB_trial x)) (post := (wFo cI cJ (fun i => A (i + 47)) (SB_forest x)) ++ ((wPb cI cJ (fun i => A (i + 59)) (SB_book x)) ++ ((wRo cI cJ (fun i => A (i + 64)) (SB_round x))))) (w1 := wWb cI cJ (fun i => A (i + 24)) g140.2) (wz := (wSB cI cJ A (SB_set_trial x g140.2))) (sj_SB_trial _ _ _ _ _) hPx hDx hS hA (va_runV (As := [.int g129, .int g139]) (rest := []) ⟨hx, hb, hml, hown, hts⟩ (c_X4_add l dC dI cI cJ (fun i => A (i + 24)) H.size (SB_trial x) g129 g139 _ hc) (cwV 2 hts (gw_V wd_10_4 wd_10_1 wd_10_2 wd_10_3 wd_1_14) rfl rfl rfl qX4_add ⟨Nat.le_of_ble_eq_true rfl, Nat.le_of_ble_eq_true rfl⟩) (kg_preVW (ci := 4) (q := (RX4, TX4, 16)) (q0 := 0) (kg_cutP hPx) (kg_cutD hDx) hK hN rfl rfl) rfl rfl hl.1 rfl (lv_room (Nat.le_of_ble_eq_true rfl)) dX5_without_140 ⟨Nat.zero_le _, Nat.zero_le _⟩) (fun H locs hP hD hS => ?_)
              refine lv_pop hx hb dX5_without_143 rfl ?_
              refine lv_iinc (v := (v6 + 1)) (lv' := [(6, .int (v6 + 1)), (0, .ref (A 0)), (2, .int v2), (3, .int v3), (4, .int v4)]) hx hb dX5_without_144 hl (k := 4) rfl rfl (by decide) rfl (fun ls hl => ?_)
              refine lv_goto (tgt := 77) hx hb dX5_without_147 (by decide) ?_
              obtain rfl := Option.some.inj hf
              exact ih1 (SB_set_trial x g140.2) (v6 + 1) hk1 _ _ _ hP hD hS (lv_sub hl [1, 2, 3, 4, 0] rfl)
            refine lv_iload hx hb dX5_without_77 (lv_at hl 4 rfl) ?_
            refine lv_aload_n hx hb dX5_without_79 rfl (lv_at hl 0 rfl) ?_
            refine va_get (D := (dC, dI)) (ci := 5) (v := .ref (A 1)) (C := RX5) (T := TX5) (N := 6) hx hb hts hiX5 hown hK hP 0 rfl rfl 0 (by decide) ww1 (fun _ h9 => h9) rfl dX5_without_80 ?_
            refine va_get (D := (dC, dI)) (ci := 4) (v := .int (Wb_links (SB_now x))) (C := RX4) (T := TX4) (N := 16) hx hb hts hiX4 hown hK hP 1 rfl rfl 11 (by decide) ww5 (fun _ h9 => h9) rfl dX5_without_83 ?_
            refine kg_icmp_ge (tgt := 150) hx hb hf dX5_without_86 (by decide) (fun hc hf => ?_) (fun hc hf => ?_)
            · obtain ⟨qq, hf, hqq⟩ := omap_some hf
              have hkq : qq = r0 := by rw [← hqq] at hk1; exact hk1
              rw [hkq] at hf
              clear hkq hqq
              refine lv_iload_n hx hb dX5_without_150 rfl (lv_at hl 2 rfl) ?_
              by_cases hc0 : v3 = 0
              · rw [if_pos hc0] at hf
                refine lv_tableIn (tgt := 176) (off := 25) hx hb dX5_without_151 (by rw [hc0]; decide) (by rw [hc0]; decide) (by rw [hc0]; rfl) (by decide) ?_
                refine lv_aload_n hx hb dX5_without_176 rfl (lv_at hl 0 rfl) ?_
                refine va_get (D := (dC, dI)) (ci := 5) (v := .ref (A 24)) (C := RX5) (T := TX5) (N := 6) hx hb hts hiX5 hown hK hP 0 rfl rfl 1 (by decide) ww0 (fun _ h9 => h9) rfl dX5_without_177 ?_
                refine va_get (D := (dC, dI)) (ci := 4) (v := .ref (A 37)) (C := RX4) (T := TX4) (N := 16) hx hb hts hiX4 hown hK hP 24 rfl rfl 8 (by decide) ww6 (fun _ h9 => h9) rfl dX5_without_180 ?_
                refine va_get (D := (dC, dI)) (ci := 1) (v := .int (Nm_groups (Wb_lands (SB_trial x)))) (C := RX1) (T := TX1) (N := 6) hx hb hts hiX1 hown hK hP 37 rfl rfl 5 (by decide) ww7 (fun _ h9 => h9) rfl dX5_without_183 ?_
                obtain rfl := Option.some.inj hf
                exact kg_iretW hx hb hr hlk rfl hP hD hS dX5_without_186
              · rw [if_neg hc0] at hf
                by_cases hc1 : v3 = 1
                · rw [if_pos hc1] at hf
                  refine lv_tableIn (tgt := 187) (off := 36) hx hb dX5_without_151 (by rw [hc1]; decide) (by rw [hc1]; decide) (by rw [hc1]; rfl) (by decide) ?_
                  refine lv_aload_n hx hb dX5_without_187 rfl (lv_at hl 0 rfl) ?_
                  refine va_get (D := (dC, dI)) (ci := 5) (v := .ref (A 24)) (C := RX5) (T := TX5) (N := 6) hx hb hts hiX5 hown hK hP 0 rfl rfl 1 (by decide) ww0 (fun _ h9 => h9) rfl dX5_without_188 ?_
                  refine va_get (D := (dC, dI)) (ci := 4) (v := .ref (A 32)) (C := RX4) (T := TX4) (N := 16) hx hb hts hiX4 hown hK hP 24 rfl rfl 7 (by decide) ww8 (fun _ h9 => h9) rfl dX5_without_191 ?_
                  refine va_get (D := (dC, dI)) (ci := 1) (v := .int (Nm_groups (Wb_blocks (SB_trial x)))) (C := RX1) (T := TX1) (N := 6) hx hb hts hiX1 hown hK hP 32 rfl rfl 5 (by decide) ww7 (fun _ h9 => h9) rfl dX5_without_194 ?_
                  obtain rfl := Option.some.inj hf
                  exact kg_iretW hx hb hr hlk rfl hP hD hS dX5_without_197
                · rw [if_neg hc1] at hf
                  by_cases hc2 : v3 = 2
                  · rw [if_pos hc2] at hf
                    refine lv_tableIn (tgt := 198) (off := 47) hx hb dX5_without_151 (by rw [hc2]; decide) (by rw [hc2]; decide) (by rw [hc2]; rfl) (by decide) ?_
                    refine lv_aload_n hx hb dX5_without_198 rfl (lv_at hl 0 rfl) ?_
                    refine va_get (D := (dC, dI)) (ci := 5) (v := .ref (A 24)) (C := RX5) (T := TX5) (N := 6) hx hb hts hiX5 hown hK hP 0 rfl rfl 1 (by decide) ww0 (fun _ h9 => h9) rfl dX5_without_199 ?_
                    refine lv_aload_n hx hb dX5_without_202 rfl (lv_at hl 0 rfl) ?_
                    refine va_get (D := (dC, dI)) (ci := 5) (v := .ref (A 24)) (C := RX5) (T := TX5) (N := 6) hx hb hts hiX5 hown hK hP 0 rfl rfl 1 (by decide) ww0 (fun _ h9 => h9) rfl dX5_without_203 ?_
                    refine va_get (D := (dC, dI)) (ci := 4) (v := .int (Wb_links (SB_trial x))) (C := RX4) (T := TX4) (N := 16) hx hb hts hiX4 hown hK hP 24 rfl rfl 11 (by decide) ww5 (fun _ h9 => h9) rfl dX5_without_206 ?_
                    obtain ⟨g209, hc, hf⟩ := ob_bind hf
                    have hPc : va_P (dC, dI) vwCl (wWb cI cJ (fun i => A (i + 24)) (SB_trial x)) H := hP.sub [24, 25, 26, 27, 28, 29, 30, 31, 32, 33, 34, 35, 36, 37, 38, 39, 40, 41, 42, 43, 44, 45, 46] rfl
                    refine kg_retRi (va_runV (As := [.int (Wb_links (SB_trial x))]) (rest := []) ⟨hx, hb, hml, hown, hts⟩ (c_X4_bridgesAmong l dC dI cI cJ (fun i => A (i + 24)) H (SB_trial x) (Wb_links (SB_trial x)) _ hc) (cwV 1 hts (gw_V wd_40_14 wd_40_11 wd_40_12 wd_40_13 wd_1_14) rfl rfl rfl qX4_bridgesAmong ⟨Nat.le_of_ble_eq_true rfl, Nat.le_of_ble_eq_true rfl⟩) (kg_preVR (ci := 4) (q := (RX4, TX4, 16)) (q0 := 0) hPc hK hN rfl rfl) rfl rfl hl.1 rfl (lv_room (Nat.le_of_ble_eq_true rfl)) dX5_without_209 ⟨Nat.zero_le _, Nat.zero_le _⟩) ?_
                    obtain rfl := Option.some.inj hf
                    exact kg_iretW hx hb hr hlk rfl hP hD hS dX5_without_212
                  · rw [if_neg hc2] at hf
                    have ehc0 := ne_toInt hc0 (k := 0) (by decide)
                    have ehc1 := ne_toInt hc1 (k := 1) (by decide)
                    have ehc2 := ne_toInt hc2 (k := 2) (by decide)
                    refine lv_tableOut (tgt := 213) hx hb dX5_without_151 (by omega) (by decide) ?_
                    refine lv_aload_n hx hb dX5_without_213 rfl (lv_at hl 0 rfl) ?_
                    refine va_get (D := (dC, dI)) (ci := 5) (v := .ref (A 24)) (C := RX5) (T := TX5) (N := 6) hx hb hts hiX5 hown hK hP 0 rfl rfl 1 (by decide) ww0 (fun _ h9 => h9) rfl dX5_without_214 ?_
                    refine va_get (D := (dC, dI)) (ci := 4) (v := .ref (A 42)) (C := RX4) (T := TX4) (N := 16) hx hb hts hiX4 hown hK hP 24 rfl rfl 9 (by decide) ww9 (fun _ h9 => h9) rfl dX5_without_217 ?_
                    refine va_get (D := (dC, dI)) (ci := 1) (v := .int (Nm_groups (Wb_parts (SB_trial x)))) (C := RX1) (T := TX1) (N := 6) hx hb hts hiX1 hown hK hP 42 rfl rfl 5 (by decide) ww7 (fun _ h9 => h9) rfl dX5_without_220 ?_
                    obtain rfl := Option.some.inj hf
                    exact kg_iretW hx hb hr hlk rfl hP hD hS dX5_without_223
            · refine lv_iload hx hb dX5_without_89 (lv_at hl 3 rfl) ?_
              refine kg_if_eq (tgt := 103) hx hb hf dX5_without_91 (by decide) (fun hc hf => ?_) (fun hc hf => ?_)
              · refine lv_aload_n hx hb dX5_without_103 rfl (lv_at hl 0 rfl) ?_
                refine va_get (D := (dC, dI)) (ci := 5) (v := .ref (A 1)) (C := RX5) (T := TX5) (N := 6) hx hb hts hiX5 hown hK hP 0 rfl rfl 0 (by decide) ww1 (fun _ h9 => h9) rfl dX5_without_104 ?_
                refine lv_iload hx hb dX5_without_107 (lv_at hl 4 rfl) ?_
                refine lv_iload_n hx hb dX5_without_109 rfl (lv_at hl 1 rfl) ?_
                obtain ⟨g110, hc, hf⟩ := ob_bind hf
                have hPc : va_P (dC, dI) vwCl (wWb cI cJ (fun i => A (i + 1)) (SB_now x)) H := hP.sub [1, 2, 3, 4, 5, 6, 7, 8, 9, 10, 11, 12, 13, 14, 15, 16, 17, 18, 19, 20, 21, 22, 23] rfl
                refine kg_retRi (va_runV (As := [.int v6, .int v2]) (rest := []) ⟨hx, hb, hml, hown, hts⟩ (c_X4_isAt l dC dI cI cJ (fun i => A (i + 1)) H (SB_now x) v6 v2 _ hc) (cwV 2 hts (gw_V wd_21_23 wd_40_10 wd_21_21 wd_21_22 wd_1_14) rfl rfl rfl qX4_isAt ⟨Nat.le_of_ble_eq_true rfl, Nat.le_of_ble_eq_true rfl⟩) (kg_preVR (ci := 4) (q := (RX4, TX4, 16)) (q0 := 0) hPc hK hN rfl rfl) rfl rfl hl.1 rfl (lv_room (Nat.le_of_ble_eq_true rfl)) dX5_without_110 ⟨Nat.zero_le _, Nat.zero_le _⟩) ?_
                refine kg_b_ne (tgt := 144) hx hb hf dX5_without_113 (by decide) (fun hc hf => ?_) (fun hc hf => ?_)
                · refine lv_iinc (v := (v6 + 1)) (lv' := [(6, .int (v6 + 1)), (0, .ref (A 0)), (2, .int v2), (3, .int v3), (4, .int v4)]) hx hb dX5_without_144 hl (k := 4) rfl rfl (by decide) rfl (fun ls hl => ?_)
                  refine lv_goto (tgt := 77) hx hb dX5_without_147 (by decide) ?_
                  obtain rfl := Option.some.inj hf
                  exact ih1 x (v6 + 1) hk1 _ _ _ hP hD hS (lv_sub hl [1, 2, 3, 4, 0] rfl)
                · exact hj116 x v6 hf _ _ _ hP hD hS (lv_sub hl [0, 1, 2, 3, 4] rfl)
              · refine lv_iload hx hb dX5_without_94 (lv_at hl 4 rfl) ?_
                refine lv_iload_n hx hb dX5_without_96 rfl (lv_at hl 1 rfl) ?_
                refine kg_icmp_eq (tgt := 144) hx hb hf dX5_without_97 (by decide) (fun hc hf => ?_) (fun hc hf => ?_)
                · refine lv_iinc (v := (v6 + 1)) (lv' := [(6, .int (v6 + 1)), (0, .ref (A 0)), (2, .int v2), (3, .int v3), (4, .int v4)]) hx hb dX5_without_144 hl (k := 4) rfl rfl (by decide) rfl (fun ls hl => ?_)
                  refine lv_goto (tgt := 77) hx hb dX5_without_147 (by decide) ?_
                  obtain rfl := Option.some.inj hf
                  exact ih1 x (v6 + 1) hk1 _ _ _ hP hD hS (lv_sub hl [1, 2, 3, 4, 0] rfl)
                · refine lv_goto (tgt := 116) hx hb dX5_without_100 (by decide) ?_
                  exact hj116 x v6 hf _ _ _ hP hD hS (lv_sub hl [0, 1, 2, 3, 4] rfl)
        exact hlp77 v4 FU (SB_set_trial x g71) 0 hf _ _ _ hP hD hS (lv_sub hl [1, 2, 3, 4, 0] rfl)
      · refine lv_iconst (v := (-1)) hx hb dX5_without_58 (by decide) ?_
        obtain rfl := Option.some.inj hf
        exact kg_iretW hx hb hr hlk rfl hP hD hS dX5_without_59
  have hj37 : ∀ (x : SBS) (v4 : Int32) (w0 : Int32), SB_m_without_j37 x v2 v3 v4 w0 = some r0 → ∀ (H : Heap) (locs : List Loc) (ls : Array Slot), va_P (dC, dI) vwCl (wSB cI cJ A x) H → va_D Q (wSB cI cJ A x) → va_S Q s.heap H locs → lv_has ls 7 [(0, .ref (A 0)), (2, .int v2), (3, .int v3), (4, .int v4)] → W p l e ({ frames := 6, cells := 0, slots := 0, locals := 164 } : Room) s m args below meth c H locs 0 0 (MQ below (QWi (dC, dI) Q (wSB cI cJ A r0.2) r0.1) args s 0 0 Q) (F0 m 37 ls [.int w0]) := by
    intro x v4 w0 hf H locs ls hP hD hS hl
    unfold SB_m_without_j37 at hf
    refine lv_istore (lv' := [(5, .int w0), (0, .ref (A 0)), (2, .int v2), (3, .int v3), (4, .int v4)]) hx hb dX5_without_37 hl (by decide) rfl (fun ls hl => ?_)
    refine lv_iload hx hb dX5_without_39 (lv_at hl 4 rfl) ?_
    refine kg_if_ne (tgt := 49) hx hb hf dX5_without_41 (by decide) (fun hc hf => ?_) (fun hc hf => ?_)
    · exact hj49 x v4 hf _ _ _ hP hD hS (lv_sub hl [1, 2, 3, 4] rfl)
    · refine lv_iload hx hb dX5_without_44 (lv_at hl 0 rfl) ?_
      refine kg_if_eq (tgt := 58) hx hb hf dX5_without_46 (by decide) (fun hc hf => ?_) (fun hc hf => ?_)
      · refine lv_iconst (v := (-1)) hx hb dX5_without_58 (by decide) ?_
        obtain rfl := Option.some.inj hf
        exact kg_iretW hx hb hr hlk rfl hP hD hS dX5_without_59
      · exact hj49 x v4 hf _ _ _ hP hD hS (lv_sub hl [1, 2, 3, 4] rfl)
  have hj17 : ∀ (x : SBS) (w0 : Int32), SB_m_without_j17 x v1 v2 v3 w0 = some r0 → ∀ (H : Heap) (locs : List Loc) (ls : Array Slot), va_P (dC, dI) vwCl (wSB cI cJ A x) H → va_D Q (wSB cI cJ A x) → va_S Q s.heap H locs → lv_has ls 7 [(0, .ref (A 0)), (1, .int v1), (2, .int v2), (3, .int v3)] → W p l e ({ frames := 6, cells := 0, slots := 0, locals := 164 } : Room) s m args below meth c H locs 0 0 (MQ below (QWi (dC, dI) Q (wSB cI cJ A r0.2) r0.1) args s 0 0 Q) (F0 m 17 ls [.int w0]) := by
    intro x w0 hf H locs ls hP hD hS hl
    unfold SB_m_without_j17 at hf
    refine lv_istore (lv' := [(4, .int w0), (0, .ref (A 0)), (1, .int v1), (2, .int v2), (3, .int v3)]) hx hb dX5_without_17 hl (by decide) rfl (fun ls hl => ?_)
    refine lv_iload_n hx hb dX5_without_19 rfl (lv_at hl 2 rfl) ?_
    refine lv_iconst (v := 1) hx hb dX5_without_20 (by decide) ?_
    refine kg_icmp_ne (tgt := 36) hx hb hf dX5_without_21 (by decide) (fun hc hf => ?_) (fun hc hf => ?_)
    · refine lv_iconst (v := 0) hx hb dX5_without_36 (by decide) ?_
      exact hj37 x w0 0 hf _ _ _ hP hD hS (lv_sub hl [1, 3, 4, 0] rfl)
    · refine lv_aload_n hx hb dX5_without_24 rfl (lv_at hl 1 rfl) ?_
      refine lv_iload_n hx hb dX5_without_25 rfl (lv_at hl 3 rfl) ?_
      obtain ⟨g26, hc, hf⟩ := ob_bind hf
      have hPc : va_P (dC, dI) vwCl (wSB cI cJ A x) H := hP
      refine kg_retRi (va_runV (As := [.int v2]) (rest := []) ⟨hx, hb, hml, hown, hts⟩ (c_X5_isNode l dC dI cI cJ A H x v2 _ hc) (cwV 1 hts (gw_V wd_9_23 wd_9_20 wd_9_21 wd_9_22 wd_1_2) rfl rfl rfl qX5_isNode ⟨Nat.le_of_ble_eq_true rfl, Nat.le_of_ble_eq_true rfl⟩) (kg_preVR (ci := 5) (q := (RX5, TX5, 6)) (q0 := 0) hPc hK hN rfl rfl) rfl rfl hl.1 rfl (lv_room (Nat.le_of_ble_eq_true rfl)) dX5_without_26 ⟨Nat.zero_le _, Nat.zero_le _⟩) ?_
      refine kg_b_eq (tgt := 36) hx hb hf dX5_without_29 (by decide) (fun hc hf => ?_) (fun hc hf => ?_)
      · refine lv_iconst (v := 0) hx hb dX5_without_36 (by decide) ?_
        exact hj37 x w0 0 hf _ _ _ hP hD hS (lv_sub hl [1, 3, 4, 0] rfl)
      · refine lv_iconst (v := 1) hx hb dX5_without_32 (by decide) ?_
        refine lv_goto (tgt := 37) hx hb dX5_without_33 (by decide) ?_
        exact hj37 x w0 1 hf _ _ _ hP hD hS (lv_sub hl [1, 3, 4, 0] rfl)
  refine lv_iload_n hx hb dX5_without_0 rfl (lv_at hl 1 rfl) ?_
  refine kg_if_ne (tgt := 16) hx hb hf dX5_without_1 (by decide) (fun hc hf => ?_) (fun hc hf => ?_)
  · refine lv_iconst (v := 0) hx hb dX5_without_16 (by decide) ?_
    exact hj17 x 0 hf _ _ _ hP hD hS (lv_sub hl [0, 1, 2, 3] rfl)
  · refine lv_aload_n hx hb dX5_without_4 rfl (lv_at hl 0 rfl) ?_
    refine lv_iload_n hx hb dX5_without_5 rfl (lv_at hl 2 rfl) ?_
    obtain ⟨g6, hc, hf⟩ := ob_bind hf
    have hPc : va_P (dC, dI) vwCl (wSB cI cJ A x) H := hP
    refine kg_retRi (va_runV (As := [.int v2]) (rest := []) ⟨hx, hb, hml, hown, hts⟩ (c_X5_isLink l dC dI cI cJ A H x v2 _ hc) (cwV 1 hts (gw_V wd_17_23 wd_17_20 wd_17_21 wd_17_22 wd_1_2) rfl rfl rfl qX5_isLink ⟨Nat.le_of_ble_eq_true rfl, Nat.le_of_ble_eq_true rfl⟩) (kg_preVR (ci := 5) (q := (RX5, TX5, 6)) (q0 := 0) hPc hK hN rfl rfl) rfl rfl hl.1 rfl (lv_room (Nat.le_of_ble_eq_true rfl)) dX5_without_6 ⟨Nat.zero_le _, Nat.zero_le _⟩) ?_
    refine kg_b_eq (tgt := 16) hx hb hf dX5_without_9 (by decide) (fun hc hf => ?_) (fun hc hf => ?_)
    · refine lv_iconst (v := 0) hx hb dX5_without_16 (by decide) ?_
      exact hj17 x 0 hf _ _ _ hP hD hS (lv_sub hl [0, 1, 2, 3] rfl)
    · refine lv_iconst (v := 1) hx hb dX5_without_12 (by decide) ?_
      refine lv_goto (tgt := 17) hx hb dX5_without_13 (by decide) ?_
      exact hj17 x 1 hf _ _ _ hP hD hS (lv_sub hl [0, 1, 2, 3] rfl)
set_option maxHeartbeats 4000000 in
set_option maxRecDepth 100000 in
theorem c_X5_ring (l : Launch) (dC : Nat → ClassId) (dI : Nat → Nat → Nat) (cI cJ : ClassId) (A : Nat → Nat) (hq : Nat) (x : SBS) (v1 : Int32) (v2 : Int32) (r0 : (Int32 × SBS)) (hf : SB_m_ring x v1 v2 = some r0) : MWi l yX5_ring (wAll yX5_ring cX5_ring 4 (some .int)) ({ frames := 4, cells := 0, slots := 0, locals := 113 } : Room) [.ref (A 0), .int v1, .int v2] hq (dC, dI) (vTy cI cJ) (wSB cI cJ A x) (wSB cI cJ A r0.2) r0.1 := by
  refine kg_metW (Qc := fun Q => QWi (dC, dI) Q (wSB cI cJ A r0.2) r0.1) (cc := cX5_ring) (maxL := 4) (ret := (some .int)) (by decide) rfl (Nat.le_of_ble_eq_true rfl) ?_
  intro p e s m args below meth c Q hx hb hr hts hown hlk hml hP hK hN hD hA hS ls hl
  have hl : lv_has ls 4 [(0, .ref (A 0)), (1, .int v1), (2, .int v2)] := hl
  have ww0 := hts (.fieldLink RX5 12 "SafeBlocks" "now" "LSafeBlocks$Web;") (List.mem_cons_of_mem _ wd_1_15)
  have ww1 := hts (.fieldLink RX5 36 "SafeBlocks" "round" "LSafeBlocks$Round;") (List.mem_cons_of_mem _ wd_2_4)
  have hiX5 : ∀ w ∈ u_ws RX5 TX5 6, w ∈ wAll yX5_ring cX5_ring 4 (some .int) := fun w h => List.mem_cons_of_mem _ (inlX5 w h)
  suffices hgo : ∀ (H : Heap) (locs : List Loc), va_P (dC, dI) vwCl (wSB cI cJ A x) H → va_S Q s.heap H locs → W p l e ({ frames := 4, cells := 0, slots := 0, locals := 113 } : Room) s m args below meth c H locs 0 0 (MQ below (QWi (dC, dI) Q (wSB cI cJ A r0.2) r0.1) args s 0 0 Q) (F0 m 0 ls []) from hgo _ _ hP hS
  clear hP hS
  intro H locs hP hS
  unfold SB_m_ring at hf
  refine lv_aload_n hx hb dX5_ring_0 rfl (lv_at hl 0 rfl) ?_
  refine lv_iload_n hx hb dX5_ring_1 rfl (lv_at hl 1 rfl) ?_
  obtain ⟨g2, hc, hf⟩ := ob_bind hf
  have hPc : va_P (dC, dI) vwCl (wSB cI cJ A x) H := hP
  refine kg_retRi (va_runV (As := [.int v1]) (rest := []) ⟨hx, hb, hml, hown, hts⟩ (c_X5_isLink l dC dI cI cJ A H x v1 _ hc) (cwV 1 hts (gw_V wd_17_23 wd_17_20 wd_17_21 wd_17_22 wd_1_2) rfl rfl rfl qX5_isLink ⟨Nat.le_of_ble_eq_true rfl, Nat.le_of_ble_eq_true rfl⟩) (kg_preVR (ci := 5) (q := (RX5, TX5, 6)) (q0 := 0) hPc hK hN rfl rfl) rfl rfl hl.1 rfl (lv_room (Nat.le_of_ble_eq_true rfl)) dX5_ring_2 ⟨Nat.zero_le _, Nat.zero_le _⟩) ?_
  refine kg_b_eq (tgt := 19) hx hb hf dX5_ring_5 (by decide) (fun hc hf => ?_) (fun hc hf => ?_)
  · refine lv_iconst (v := (-1)) hx hb dX5_ring_19 (by decide) ?_
    obtain rfl := Option.some.inj hf
    exact kg_iretW hx hb hr hlk rfl hP hD hS dX5_ring_20
  · refine lv_aload_n hx hb dX5_ring_8 rfl (lv_at hl 0 rfl) ?_
    refine va_get (D := (dC, dI)) (ci := 5) (v := .ref (A 1)) (C := RX5) (T := TX5) (N := 6) hx hb hts hiX5 hown hK hP 0 rfl rfl 0 (by decide) ww0 (fun _ h9 => h9) rfl dX5_ring_9 ?_
    refine lv_iload_n hx hb dX5_ring_12 rfl (lv_at hl 1 rfl) ?_
    obtain ⟨g13, hc, hf⟩ := ob_bind hf
    have hPc : va_P (dC, dI) vwCl (wWb cI cJ (fun i => A (i + 1)) (SB_now x)) H := hP.sub [1, 2, 3, 4, 5, 6, 7, 8, 9, 10, 11, 12, 13, 14, 15, 16, 17, 18, 19, 20, 21, 22, 23] rfl
    refine kg_retRi (va_runV (As := [.int v1]) (rest := []) ⟨hx, hb, hml, hown, hts⟩ (c_X4_isBridge l dC dI cI cJ (fun i => A (i + 1)) H (SB_now x) v1 _ hc) (cwV 1 hts (gw_V wd_6_6 wd_18_0 wd_6_4 wd_6_5 wd_1_14) rfl rfl rfl qX4_isBridge ⟨Nat.le_of_ble_eq_true rfl, Nat.le_of_ble_eq_true rfl⟩) (kg_preVR (ci := 4) (q := (RX4, TX4, 16)) (q0 := 0) hPc hK hN rfl rfl) rfl rfl hl.1 rfl (lv_room (Nat.le_of_ble_eq_true rfl)) dX5_ring_13 ⟨Nat.zero_le _, Nat.zero_le _⟩) ?_
    refine kg_b_eq (tgt := 21) hx hb hf dX5_ring_16 (by decide) (fun hc hf => ?_) (fun hc hf => ?_)
    · refine lv_aload_n hx hb dX5_ring_21 rfl (lv_at hl 0 rfl) ?_
      refine va_get (D := (dC, dI)) (ci := 5) (v := .ref (A 64)) (C := RX5) (T := TX5) (N := 6) hx hb hts hiX5 hown hK hP 0 rfl rfl 4 (by decide) ww1 (fun _ h9 => h9) rfl dX5_ring_22 ?_
      refine lv_aload_n hx hb dX5_ring_25 rfl (lv_at hl 0 rfl) ?_
      refine va_get (D := (dC, dI)) (ci := 5) (v := .ref (A 1)) (C := RX5) (T := TX5) (N := 6) hx hb hts hiX5 hown hK hP 0 rfl rfl 0 (by decide) ww0 (fun _ h9 => h9) rfl dX5_ring_26 ?_
      refine lv_iload_n hx hb dX5_ring_29 rfl (lv_at hl 1 rfl) ?_
      obtain ⟨g30, hc, hf⟩ := ob_bind hf
      have hPx : va_P (dC, dI) vwCl (([] : va_W) ++ ((wRo cI cJ (fun i => A (i + 64)) (SB_round x) ++ (wWb cI cJ (fun i => A (i + 1)) (SB_now x))) ++ (((oSB cI cJ A x) ++ ((oWb cI cJ (fun i => A (i + 24)) (SB_trial x)) ++ ((wNm cI cJ 32 (fun i => A (i + 32)) (Wb_blocks (SB_trial x))) ++ ((wNm cI cJ 32 (fun i => A (i + 37)) (Wb_lands (SB_trial x))) ++ ((wNm cI cJ 64 (fun i => A (i + 42)) (Wb_parts (SB_trial x))) ++ ((wFo cI cJ (fun i => A (i + 47)) (SB_forest x)) ++ (wPb cI cJ (fun i => A (i + 59)) (SB_book x))))))))))) H := hP.sub [64, 65, 1, 2, 3, 4, 5, 6, 7, 8, 9, 10, 11, 12, 13, 14, 15, 16, 17, 18, 19, 20, 21, 22, 23, 0, 24, 25, 26, 27, 28, 29, 30, 31, 32, 33, 34, 35, 36, 37, 38, 39, 40, 41, 42, 43, 44, 45, 46, 47, 48, 49, 50, 51, 52, 53, 54, 55, 56, 57, 58, 59, 60, 61, 62, 63] rfl
      have hDx : va_D Q (([] : va_W) ++ ((wRo cI cJ (fun i => A (i + 64)) (SB_round x) ++ (wWb cI cJ (fun i => A (i + 1)) (SB_now x))) ++ (((oSB cI cJ A x) ++ ((oWb cI cJ (fun i => A (i + 24)) (SB_trial x)) ++ ((wNm cI cJ 32 (fun i => A (i + 32)) (Wb_blocks (SB_trial x))) ++ ((wNm cI cJ 32 (fun i => A (i + 37)) (Wb_lands (SB_trial x))) ++ ((wNm cI cJ 64 (fun i => A (i + 42)) (Wb_parts (SB_trial x))) ++ ((wFo cI cJ (fun i => A (i + 47)) (SB_forest x)) ++ (wPb cI cJ (fun i => A (i + 59)) (SB_book x))))))))))) := hD.sub [64, 65, 1, 2, 3, 4, 5, 6, 7, 8, 9, 10, 11, 12, 13, 14, 15, 16, 17, 18, 19, 20, 21, 22, 23, 0, 24, 25, 26, 27, 28, 29, 30, 31, 32, 33, 34, 35, 36, 37, 38, 39, 40, 41, 42, 43, 44, 45, 46, 47, 48, 49, 50, 51, 52, 53, 54, 55, 56, 57, 58, 59, 60, 61, 62, 63] (by decide) rfl
      refine kg_retWi (pre := []) (wc := wRo cI cJ (fun i => A (i + 64)) (SB_round x) ++ (wWb cI cJ (fun i => A (i + 1)) (SB_now x))) (post := (((oSB cI cJ A x) ++ ((oWb cI cJ (fun i => A (i + 24)) (SB_trial x)) ++ ((wNm cI cJ 32 (fun i => A (i + 32)) (Wb_blocks (SB_trial x))) ++ ((wNm cI cJ 32 (fun i => A (i + 37)) (Wb_lands (SB_trial x))) ++ ((wNm cI cJ 64 (fun i => A (i + 42)) (Wb_parts (SB_trial x))) ++ ((wFo cI cJ (fun i => A (i + 47)) (SB_forest x)) ++ (wPb cI cJ (fun i => A (i + 59)) (SB_book x)))))))))) (w1 := wRo cI cJ (fun i => A (i + 64)) g30.2 ++ (wWb cI cJ (fun i => A (i + 1)) (SB_now x))) rfl hPx hDx hS hA (va_runV (As := [.ref (A 1), .int v1]) (rest := []) ⟨hx, hb, hml, hown, hts⟩ (c_X3_measure l dC dI cI cJ (fun i => A (i + 64)) (fun i => A (i + 1)) H.size (SB_round x) (SB_now x) v1 _ hc) (cwV 2 hts (gw_V wd_41_15 wd_41_12 wd_41_13 wd_41_14 wd_2_3) rfl rfl rfl qX3_measure ⟨Nat.le_of_ble_eq_true rfl, Nat.le_of_ble_eq_true rfl⟩) (kg_preVW (ci := 3) (q := (RX3, TX3, 1)) (q0 := 0) (kg_cutP hPx) (kg_cutD hDx) hK hN rfl rfl) rfl rfl hl.1 rfl (lv_room (Nat.le_of_ble_eq_true rfl)) dX5_ring_30 ⟨Nat.zero_le _, Nat.zero_le _⟩) (fun H locs hP hD hS => ?_)
      have hP : va_P (dC, dI) vwCl (wSB cI cJ A (SB_set_round x g30.2)) H := hP.sub [25, 2, 3, 4, 5, 6, 7, 8, 9, 10, 11, 12, 13, 14, 15, 16, 17, 18, 19, 20, 21, 22, 23, 24, 26, 27, 28, 29, 30, 31, 32, 33, 34, 35, 36, 37, 38, 39, 40, 41, 42, 43, 44, 45, 46, 47, 48, 49, 50, 51, 52, 53, 54, 55, 56, 57, 58, 59, 60, 61, 62, 63, 64, 65, 0, 1] rfl
      have hD : va_D Q (wSB cI cJ A (SB_set_round x g30.2)) := hD.sub [25, 2, 3, 4, 5, 6, 7, 8, 9, 10, 11, 12, 13, 14, 15, 16, 17, 18, 19, 20, 21, 22, 23, 24, 26, 27, 28, 29, 30, 31, 32, 33, 34, 35, 36, 37, 38, 39, 40, 41, 42, 43, 44, 45, 46, 47, 48, 49, 50, 51, 52, 53, 54, 55, 56, 57, 58, 59, 60, 61, 62, 63, 64, 65, 0, 1] (by decide) rfl
      refine lv_istore_n (lv' := [(3, .int g30.1), (0, .ref (A 0)), (1, .int v1), (2, .int v2)]) hx hb dX5_ring_33 rfl hl (by decide) rfl (fun ls hl => ?_)
      refine lv_iload_n hx hb dX5_ring_34 rfl (lv_at hl 3 rfl) ?_
      refine lv_iconst (v := (-1)) hx hb dX5_ring_35 (by decide) ?_
      refine kg_icmp_ne (tgt := 41) hx hb hf dX5_ring_36 (by decide) (fun hc hf => ?_) (fun hc hf => ?_)
      · refine lv_iload_n hx hb dX5_ring_41 rfl (lv_at hl 3 rfl) ?_
        refine kg_if_lt (tgt := 50) hx hb hf dX5_ring_42 (by decide) (fun hc hf => ?_) (fun hc hf => ?_)
        · refine lv_iconst (v := (-1)) hx hb dX5_ring_50 (by decide) ?_
          refine lv_goto (tgt := 67) hx hb dX5_ring_51 (by decide) ?_
          obtain rfl := Option.some.inj hf
          exact kg_iretW hx hb hr hlk rfl hP hD hS dX5_ring_67
        · refine lv_iload_n hx hb dX5_ring_45 rfl (lv_at hl 3 rfl) ?_
          refine lv_iload_n hx hb dX5_ring_46 rfl (lv_at hl 0 rfl) ?_
          refine kg_icmp_lt (tgt := 54) hx hb hf dX5_ring_47 (by decide) (fun hc hf => ?_) (fun hc hf => ?_)
          · refine lv_aload_n hx hb dX5_ring_54 rfl (lv_at hl 1 rfl) ?_
            refine va_get (D := (dC, dI)) (ci := 5) (v := .ref (A 64)) (C := RX5) (T := TX5) (N := 6) hx hb hts hiX5 hown hK hP 0 rfl rfl 4 (by decide) ww1 (fun _ h9 => h9) rfl dX5_ring_55 ?_
            refine lv_aload_n hx hb dX5_ring_58 rfl (lv_at hl 1 rfl) ?_
            refine va_get (D := (dC, dI)) (ci := 5) (v := .ref (A 1)) (C := RX5) (T := TX5) (N := 6) hx hb hts hiX5 hown hK hP 0 rfl rfl 0 (by decide) ww0 (fun _ h9 => h9) rfl dX5_ring_59 ?_
            refine lv_iload_n hx hb dX5_ring_62 rfl (lv_at hl 2 rfl) ?_
            refine lv_iload_n hx hb dX5_ring_63 rfl (lv_at hl 3 rfl) ?_
            obtain ⟨g64, hc, hf⟩ := ob_bind hf
            have hPc : va_P (dC, dI) vwCl (wRo cI cJ (fun i => A (i + 64)) (SB_round (SB_set_round x g30.2)) ++ (wWb cI cJ (fun i => A (i + 1)) (SB_now (SB_set_round x g30.2)))) H := hP.sub [64, 65, 1, 2, 3, 4, 5, 6, 7, 8, 9, 10, 11, 12, 13, 14, 15, 16, 17, 18, 19, 20, 21, 22, 23] rfl
            refine kg_retRi (va_runV (As := [.ref (A 1), .int v1, .int v2]) (rest := []) ⟨hx, hb, hml, hown, hts⟩ (c_X3_nodeAt l dC dI cI cJ (fun i => A (i + 64)) (fun i => A (i + 1)) H (SB_round (SB_set_round x g30.2)) (SB_now (SB_set_round x g30.2)) v1 v2 _ hc) (cwV 3 hts (gw_V wd_42_4 wd_42_1 wd_42_2 wd_42_3 wd_2_3) rfl rfl rfl qX3_nodeAt ⟨Nat.le_of_ble_eq_true rfl, Nat.le_of_ble_eq_true rfl⟩) (kg_preVR (ci := 3) (q := (RX3, TX3, 1)) (q0 := 0) hPc hK hN rfl rfl) rfl rfl hl.1 rfl (lv_room (Nat.le_of_ble_eq_true rfl)) dX5_ring_64 ⟨Nat.zero_le _, Nat.zero_le _⟩) ?_
            obtain rfl := Option.some.inj hf
            exact kg_iretW hx hb hr hlk rfl hP hD hS dX5_ring_67
          · refine lv_iconst (v := (-1)) hx hb dX5_ring_50 (by decide) ?_
            refine lv_goto (tgt := 67) hx hb dX5_ring_51 (by decide) ?_
            obtain rfl := Option.some.inj hf
            exact kg_iretW hx hb hr hlk rfl hP hD hS dX5_ring_67
      · refine lv_iload_n hx hb dX5_ring_39 rfl (lv_at hl 0 rfl) ?_
        obtain rfl := Option.some.inj hf
        exact kg_iretW hx hb hr hlk rfl hP hD hS dX5_ring_40
    · refine lv_iconst (v := (-1)) hx hb dX5_ring_19 (by decide) ?_
      obtain rfl := Option.some.inj hf
      exact kg_iretW hx hb hr hlk rfl hP hD hS dX5_ring_20
