def SB_m_init : Option SBS := (Wb_m_clear (SB_now SB_0) 8).bind fun g70 => (SB_m_readAgain (SB_set_now SB_0 g70)).bind fun g74 => some g74
set_option maxHeartbeats 4000000 in
set_option maxRecDepth 100000 in
theorem c_X5_init (l : Launch) (dC : Nat → ClassId) (dI : Nat → Nat → Nat) (cI cJ : ClassId) (h0 hq : Nat)  (r0 : SBS) (hf : SB_m_init = some r0) : Met l yX5_init (wAll yX5_init cX5_init 1 none) ({ frames := 5, cells := 65, slots := 2361, locals := 129 } : Room) (PcW [.ref h0] hq (dC, dI) (vTy cI cJ) [(h0, .inr (5, [.null, .null, .null, .null, .null, .int 0]))]) (QC (dC, dI) (va_A [(h0, .inr (5, [.null, .null, .null, .null, .null, .int 0]))] hq) (fun u => wSB cI cJ (cA h0 u) r0)) 65 2361 (va_A [(h0, .inr (5, [.null, .null, .null, .null, .null, .int 0]))] hq) := by
  refine kg_metC (Qc := fun Q => QC (dC, dI) Q (fun u => wSB cI cJ (cA h0 u) r0)) (cc := cX5_init) (maxL := 1) (ret := none) (by decide) rfl (Nat.le_of_ble_eq_true rfl) ?_
  intro p e s m args below meth c Q hx hb hr hts hown hlk hml hin hP hK hN hD hA hS ls hl
  have hl : lv_has ls 1 [(0, .ref h0)] := hl
  have ww0 := hts (.methodLink RX5 3 objectInit) (List.mem_cons_of_mem _ wd_1_9)
  have ww1 := hts (.instanceMethod objectInit) (List.mem_cons_of_mem _ wd_1_10)
  have ww2 := hts (.code objectInit ⟨#[0xb1]⟩ 1 none) (List.mem_cons_of_mem _ wd_1_11)
  have ww3 := hts (.classLink RX5 9 RX4) (List.mem_cons_of_mem _ wd_1_12)
  have ww4 := hts (.instantiable RX4 16) (List.mem_cons_of_mem _ wd_1_13)
  have ww5 := hts (.initialized RX4) (List.mem_cons_of_mem _ wd_1_14)
  have ww6 := hts (.methodLink RX5 11 yX4_init) (List.mem_cons_of_mem _ wd_2_6)
  have ww7 := hts (.instanceMethod yX4_init) (List.mem_cons_of_mem _ wd_2_7)
  have ww8 := hts (.fieldLink RX5 12 "SafeBlocks" "now" "LSafeBlocks$Web;") (List.mem_cons_of_mem _ wd_1_15)
  have ww9 := hts (.fieldLink RX5 16 "SafeBlocks" "trial" "LSafeBlocks$Web;") (List.mem_cons_of_mem _ wd_1_16)
  have ww10 := hts (.classLink RX5 19 RX0) (List.mem_cons_of_mem _ wd_1_17)
  have ww11 := hts (.instantiable RX0 13) (List.mem_cons_of_mem _ wd_1_18)
  have ww12 := hts (.initialized RX0) (List.mem_cons_of_mem _ wd_1_19)
  have ww13 := hts (.methodLink RX5 21 yX0_init) (List.mem_cons_of_mem _ wd_3_12)
  have ww14 := hts (.instanceMethod yX0_init) (List.mem_cons_of_mem _ wd_3_13)
  have ww15 := hts (.fieldLink RX5 22 "SafeBlocks" "forest" "LSafeBlocks$Forest;") (List.mem_cons_of_mem _ wd_1_20)
  have ww16 := hts (.classLink RX5 26 RX2) (List.mem_cons_of_mem _ wd_1_21)
  have ww17 := hts (.instantiable RX2 7) (List.mem_cons_of_mem _ wd_1_22)
  have ww18 := hts (.initialized RX2) (List.mem_cons_of_mem _ wd_1_23)
  have ww19 := hts (.methodLink RX5 28 yX2_init) (List.mem_cons_of_mem _ wd_4_5)
  have ww20 := hts (.instanceMethod yX2_init) (List.mem_cons_of_mem _ wd_4_6)
  have ww21 := hts (.fieldLink RX5 29 "SafeBlocks" "book" "LSafeBlocks$PartBook;") (List.mem_cons_of_mem _ wd_2_0)
  have ww22 := hts (.classLink RX5 33 RX3) (List.mem_cons_of_mem _ wd_2_1)
  have ww23 := hts (.instantiable RX3 1) (List.mem_cons_of_mem _ wd_2_2)
  have ww24 := hts (.initialized RX3) (List.mem_cons_of_mem _ wd_2_3)
  have ww25 := hts (.methodLink RX5 35 yX3_init) (List.mem_cons_of_mem _ wd_4_17)
  have ww26 := hts (.instanceMethod yX3_init) (List.mem_cons_of_mem _ wd_4_18)
  have ww27 := hts (.fieldLink RX5 36 "SafeBlocks" "round" "LSafeBlocks$Round;") (List.mem_cons_of_mem _ wd_2_4)
  have ww28 := hts (.fieldLink RX5 40 "SafeBlocks" "drawn" "I") (List.mem_cons_of_mem _ wd_2_5)
  have hiX0 : ∀ w ∈ u_ws RX0 TX0 13, w ∈ wAll yX5_init cX5_init 1 none := fun w h => List.mem_cons_of_mem _ (inlX0 w h)
  have hiX2 : ∀ w ∈ u_ws RX2 TX2 7, w ∈ wAll yX5_init cX5_init 1 none := fun w h => List.mem_cons_of_mem _ (inlX2 w h)
  have hiX3 : ∀ w ∈ u_ws RX3 TX3 1, w ∈ wAll yX5_init cX5_init 1 none := fun w h => List.mem_cons_of_mem _ (inlX3 w h)
  have hiX4 : ∀ w ∈ u_ws RX4 TX4 16, w ∈ wAll yX5_init cX5_init 1 none := fun w h => List.mem_cons_of_mem _ (inlX4 w h)
  have hiX5 : ∀ w ∈ u_ws RX5 TX5 6, w ∈ wAll yX5_init cX5_init 1 none := fun w h => List.mem_cons_of_mem _ (inlX5 w h)
  have hgo : ∀ (H : Heap) (locs : List Loc), va_P (dC, dI) vwCl [(h0, .inr (5, [.null, .null, .null, .null, .null, .int 0]))] H → va_S Q s.heap H locs → W p l e ({ frames := 5, cells := 65, slots := 2361, locals := 129 } : Room) s m args below meth c H locs 0 0 (MQ below (QC (dC, dI) Q (fun u => wSB cI cJ (cA h0 u) r0)) args s 65 2361 Q) (F0 m 0 ls []) := by
    clear hP hS
    intro H locs hP hS
    refine lv_aload_n hx hb dX5_init_0 rfl (lv_at hl 0 rfl) ?_
    refine W.objInit hx hb hown ww0 ww1 ww2 rfl (by rw [hml]; exact hl.1) rfl dX5_init_1 (Nat.le_of_ble_eq_true rfl) (Nat.le_of_ble_eq_true rfl) ?_
    refine W.eq (g2 := F0 m 4 ls []) rfl ?_
    refine lv_aload_n hx hb dX5_init_4 rfl (lv_at hl 0 rfl) ?_
    refine va_new (ci := 4) (fs := [.null, .null, .null, .null, .null, .null, .null, .null, .null, .null, .int 0, .int 0, .int 0, .int 0, .int 0, .int 0]) (C := RX4) (T := TX4) (N := 16) hx hb hts hiX4 tyX4 tyX4_ok hown ww3 ww4 ww5 hK hP hD hS hA rfl (by intro j hj; rcases (show j = 0 ∨ j = 1 ∨ j = 2 ∨ j = 3 ∨ j = 4 ∨ j = 5 ∨ j = 6 ∨ j = 7 ∨ j = 8 ∨ j = 9 ∨ j = 10 ∨ j = 11 ∨ j = 12 ∨ j = 13 ∨ j = 14 ∨ j = 15 by omega) with rfl | rfl | rfl | rfl | rfl | rfl | rfl | rfl | rfl | rfl | rfl | rfl | rfl | rfl | rfl | rfl <;> rfl) (Nat.le_of_ble_eq_true rfl) (Nat.le_of_ble_eq_true rfl) dX5_init_5 (fun q5 H hP hD hS => ?_)
    refine W.widen (k := 1) (n := 16) (by omega) (by omega) ?_
    have hP : va_P (dC, dI) vwCl ([(h0, .inr (5, [.null, .null, .null, .null, .null, .int 0])), (q5, .inr (4, [.null, .null, .null, .null, .null, .null, .null, .null, .null, .null, .int 0, .int 0, .int 0, .int 0, .int 0, .int 0]))] : va_W) H := hP
    have hD : va_D Q ([(h0, .inr (5, [.null, .null, .null, .null, .null, .int 0])), (q5, .inr (4, [.null, .null, .null, .null, .null, .null, .null, .null, .null, .null, .int 0, .int 0, .int 0, .int 0, .int 0, .int 0]))] : va_W) := hD
    refine lv_dup hx hb dX5_init_8 rfl ?_
    have hPx : va_P (dC, dI) vwCl (([(h0, .inr (5, [.null, .null, .null, .null, .null, .int 0]))] : va_W) ++ ([(q5, .inr (4, [.null, .null, .null, .null, .null, .null, .null, .null, .null, .null, .int 0, .int 0, .int 0, .int 0, .int 0, .int 0]))] ++ [])) H := by simp only [List.cons_append, List.append_assoc, List.nil_append, List.append_nil]; exact hP
    have hDx : va_D Q (([(h0, .inr (5, [.null, .null, .null, .null, .null, .int 0]))] : va_W) ++ ([(q5, .inr (4, [.null, .null, .null, .null, .null, .null, .null, .null, .null, .null, .int 0, .int 0, .int 0, .int 0, .int 0, .int 0]))] ++ [])) := by simp only [List.cons_append, List.append_assoc, List.nil_append, List.append_nil]; exact hD
    refine kg_retC (w' := fun u => wWb cI cJ (cA q5 u) Wb_0) (mc := 22) (ms := 850) (k1 := 23) (n1 := 866) hPx hDx hS hA rfl rfl (va_runI (As := []) (rest := [.ref q5, .ref h0]) ⟨hx, hb, hml, hown, hts⟩ (c_X4_init l dC dI cI cJ q5 H.size) (cwI 0 hts (gw_A wd_2_8) rfl rfl rfl ww5 ww6 ww7 rfl (by decide +kernel) ⟨Nat.le_of_ble_eq_true rfl, Nat.le_of_ble_eq_true rfl⟩) (kg_preSW (kg_cutP hPx) (kg_cutD hDx) hK hN) rfl rfl hl.1 rfl (lv_room (Nat.le_of_ble_eq_true rfl)) dX5_init_9 ⟨Nat.le_of_ble_eq_true rfl, Nat.le_of_ble_eq_true rfl⟩) (fun u9 H locs hP hD hS => ?_)
    simp only [List.cons_append, List.append_assoc, List.nil_append, List.append_nil, List.set_cons_zero, List.set_cons_succ] at hP hD
    have hP : va_P (dC, dI) vwCl ((h0, .inr (5, [.null, .null, .null, .null, .null, .int 0])) :: (wWb cI cJ (cA q5 u9) Wb_0) : va_W) H := hP
    have hD : va_D Q ((h0, .inr (5, [.null, .null, .null, .null, .null, .int 0])) :: (wWb cI cJ (cA q5 u9) Wb_0) : va_W) := hD
    refine va_putF (D := (dC, dI)) (ci := 5) (v := .ref q5) (ty := .object "SafeBlocks$Web") (C := RX5) (T := TX5) (N := 6) hx hb hts hiX5 tyX5 tyX5_ok nmX5 hown hK hP hD hS 0 rfl rfl 0 (by decide) ww8 (fun _ h9 => h9) rfl hin rfl (tyX5_ok 0 (by decide)) rfl rfl (Nat.le_of_ble_eq_true rfl) dX5_init_12 (fun H locs hP hD hS => ?_)
    simp only [List.cons_append, List.append_assoc, List.nil_append, List.append_nil, List.set_cons_zero, List.set_cons_succ] at hP hD
    have hP : va_P (dC, dI) vwCl ((h0, .inr (5, [.ref q5, .null, .null, .null, .null, .int 0])) :: (wWb cI cJ (cA q5 u9) Wb_0) : va_W) H := hP
    have hD : va_D Q ((h0, .inr (5, [.ref q5, .null, .null, .null, .null, .int 0])) :: (wWb cI cJ (cA q5 u9) Wb_0) : va_W) := hD
    refine lv_aload_n hx hb dX5_init_15 rfl (lv_at hl 0 rfl) ?_
    refine va_new (ci := 4) (fs := [.null, .null, .null, .null, .null, .null, .null, .null, .null, .null, .int 0, .int 0, .int 0, .int 0, .int 0, .int 0]) (C := RX4) (T := TX4) (N := 16) hx hb hts hiX4 tyX4 tyX4_ok hown ww3 ww4 ww5 hK hP hD hS hA rfl (by intro j hj; rcases (show j = 0 ∨ j = 1 ∨ j = 2 ∨ j = 3 ∨ j = 4 ∨ j = 5 ∨ j = 6 ∨ j = 7 ∨ j = 8 ∨ j = 9 ∨ j = 10 ∨ j = 11 ∨ j = 12 ∨ j = 13 ∨ j = 14 ∨ j = 15 by omega) with rfl | rfl | rfl | rfl | rfl | rfl | rfl | rfl | rfl | rfl | rfl | rfl | rfl | rfl | rfl | rfl <;> rfl) (Nat.le_of_ble_eq_true rfl) (Nat.le_of_ble_eq_true rfl) dX5_init_16 (fun q16 H hP hD hS => ?_)
    refine W.widen (k := 24) (n := 882) (by omega) (by omega) ?_
    simp only [List.cons_append, List.append_assoc, List.nil_append, List.append_nil, List.set_cons_zero, List.set_cons_succ] at hP hD
    have hP : va_P (dC, dI) vwCl ((h0, .inr (5, [.ref q5, .null, .null, .null, .null, .int 0])) :: (wWb cI cJ (cA q5 u9) Wb_0 ++ ([(q16, .inr (4, [.null, .null, .null, .null, .null, .null, .null, .null, .null, .null, .int 0, .int 0, .int 0, .int 0, .int 0, .int 0]))])) : va_W) H := hP
    have hD : va_D Q ((h0, .inr (5, [.ref q5, .null, .null, .null, .null, .int 0])) :: (wWb cI cJ (cA q5 u9) Wb_0 ++ ([(q16, .inr (4, [.null, .null, .null, .null, .null, .null, .null, .null, .null, .null, .int 0, .int 0, .int 0, .int 0, .int 0, .int 0]))])) : va_W) := hD
    refine lv_dup hx hb dX5_init_19 rfl ?_
    have hPx : va_P (dC, dI) vwCl (((h0, .inr (5, [.ref q5, .null, .null, .null, .null, .int 0])) :: (wWb cI cJ (cA q5 u9) Wb_0) : va_W) ++ ([(q16, .inr (4, [.null, .null, .null, .null, .null, .null, .null, .null, .null, .null, .int 0, .int 0, .int 0, .int 0, .int 0, .int 0]))] ++ [])) H := by simp only [List.cons_append, List.append_assoc, List.nil_append, List.append_nil]; exact hP
    have hDx : va_D Q (((h0, .inr (5, [.ref q5, .null, .null, .null, .null, .int 0])) :: (wWb cI cJ (cA q5 u9) Wb_0) : va_W) ++ ([(q16, .inr (4, [.null, .null, .null, .null, .null, .null, .null, .null, .null, .null, .int 0, .int 0, .int 0, .int 0, .int 0, .int 0]))] ++ [])) := by simp only [List.cons_append, List.append_assoc, List.nil_append, List.append_nil]; exact hD
    refine kg_retC (w' := fun u => wWb cI cJ (cA q16 u) Wb_0) (mc := 22) (ms := 850) (k1 := 46) (n1 := 1732) hPx hDx hS hA rfl rfl (va_runI (As := []) (rest := [.ref q16, .ref h0]) ⟨hx, hb, hml, hown, hts⟩ (c_X4_init l dC dI cI cJ q16 H.size) (cwI 0 hts (gw_A wd_2_8) rfl rfl rfl ww5 ww6 ww7 rfl (by decide +kernel) ⟨Nat.le_of_ble_eq_true rfl, Nat.le_of_ble_eq_true rfl⟩) (kg_preSW (kg_cutP hPx) (kg_cutD hDx) hK hN) rfl rfl hl.1 rfl (lv_room (Nat.le_of_ble_eq_true rfl)) dX5_init_20 ⟨Nat.le_of_ble_eq_true rfl, Nat.le_of_ble_eq_true rfl⟩) (fun u20 H locs hP hD hS => ?_)
    simp only [List.cons_append, List.append_assoc, List.nil_append, List.append_nil, List.set_cons_zero, List.set_cons_succ] at hP hD
    have hP : va_P (dC, dI) vwCl ((h0, .inr (5, [.ref q5, .null, .null, .null, .null, .int 0])) :: (wWb cI cJ (cA q5 u9) Wb_0 ++ (wWb cI cJ (cA q16 u20) Wb_0)) : va_W) H := hP
    have hD : va_D Q ((h0, .inr (5, [.ref q5, .null, .null, .null, .null, .int 0])) :: (wWb cI cJ (cA q5 u9) Wb_0 ++ (wWb cI cJ (cA q16 u20) Wb_0)) : va_W) := hD
    refine va_putF (D := (dC, dI)) (ci := 5) (v := .ref q16) (ty := .object "SafeBlocks$Web") (C := RX5) (T := TX5) (N := 6) hx hb hts hiX5 tyX5 tyX5_ok nmX5 hown hK hP hD hS 0 rfl rfl 1 (by decide) ww9 (fun _ h9 => h9) rfl hin rfl (tyX5_ok 1 (by decide)) rfl rfl (Nat.le_of_ble_eq_true rfl) dX5_init_23 (fun H locs hP hD hS => ?_)
    simp only [List.cons_append, List.append_assoc, List.nil_append, List.append_nil, List.set_cons_zero, List.set_cons_succ] at hP hD
    have hP : va_P (dC, dI) vwCl ((h0, .inr (5, [.ref q5, .ref q16, .null, .null, .null, .int 0])) :: (wWb cI cJ (cA q5 u9) Wb_0 ++ (wWb cI cJ (cA q16 u20) Wb_0)) : va_W) H := hP
    have hD : va_D Q ((h0, .inr (5, [.ref q5, .ref q16, .null, .null, .null, .int 0])) :: (wWb cI cJ (cA q5 u9) Wb_0 ++ (wWb cI cJ (cA q16 u20) Wb_0)) : va_W) := hD
    refine lv_aload_n hx hb dX5_init_26 rfl (lv_at hl 0 rfl) ?_
    refine va_new (ci := 0) (fs := [.null, .null, .null, .null, .null, .null, .null, .null, .null, .null, .null, .int 0, .int 0]) (C := RX0) (T := TX0) (N := 13) hx hb hts hiX0 tyX0 tyX0_ok hown ww10 ww11 ww12 hK hP hD hS hA rfl (by intro j hj; rcases (show j = 0 ∨ j = 1 ∨ j = 2 ∨ j = 3 ∨ j = 4 ∨ j = 5 ∨ j = 6 ∨ j = 7 ∨ j = 8 ∨ j = 9 ∨ j = 10 ∨ j = 11 ∨ j = 12 by omega) with rfl | rfl | rfl | rfl | rfl | rfl | rfl | rfl | rfl | rfl | rfl | rfl | rfl <;> rfl) (Nat.le_of_ble_eq_true rfl) (Nat.le_of_ble_eq_true rfl) dX5_init_27 (fun q27 H hP hD hS => ?_)
    refine W.widen (k := 47) (n := 1745) (by omega) (by omega) ?_
    simp only [List.cons_append, List.append_assoc, List.nil_append, List.append_nil, List.set_cons_zero, List.set_cons_succ] at hP hD
    have hP : va_P (dC, dI) vwCl ((h0, .inr (5, [.ref q5, .ref q16, .null, .null, .null, .int 0])) :: (wWb cI cJ (cA q5 u9) Wb_0 ++ (wWb cI cJ (cA q16 u20) Wb_0 ++ ([(q27, .inr (0, [.null, .null, .null, .null, .null, .null, .null, .null, .null, .null, .null, .int 0, .int 0]))]))) : va_W) H := hP
    have hD : va_D Q ((h0, .inr (5, [.ref q5, .ref q16, .null, .null, .null, .int 0])) :: (wWb cI cJ (cA q5 u9) Wb_0 ++ (wWb cI cJ (cA q16 u20) Wb_0 ++ ([(q27, .inr (0, [.null, .null, .null, .null, .null, .null, .null, .null, .null, .null, .null, .int 0, .int 0]))]))) : va_W) := hD
    refine lv_dup hx hb dX5_init_30 rfl ?_
    have hPx : va_P (dC, dI) vwCl (((h0, .inr (5, [.ref q5, .ref q16, .null, .null, .null, .int 0])) :: (wWb cI cJ (cA q5 u9) Wb_0 ++ (wWb cI cJ (cA q16 u20) Wb_0)) : va_W) ++ ([(q27, .inr (0, [.null, .null, .null, .null, .null, .null, .null, .null, .null, .null, .null, .int 0, .int 0]))] ++ [])) H := by simp only [List.cons_append, List.append_assoc, List.nil_append, List.append_nil]; exact hP
    have hDx : va_D Q (((h0, .inr (5, [.ref q5, .ref q16, .null, .null, .null, .int 0])) :: (wWb cI cJ (cA q5 u9) Wb_0 ++ (wWb cI cJ (cA q16 u20) Wb_0)) : va_W) ++ ([(q27, .inr (0, [.null, .null, .null, .null, .null, .null, .null, .null, .null, .null, .null, .int 0, .int 0]))] ++ [])) := by simp only [List.cons_append, List.append_assoc, List.nil_append, List.append_nil]; exact hD
    refine kg_retC (w' := fun u => wFo cI cJ (cA q27 u) Fo_0) (mc := 11) (ms := 352) (k1 := 58) (n1 := 2097) hPx hDx hS hA rfl rfl (va_runI (As := []) (rest := [.ref q27, .ref h0]) ⟨hx, hb, hml, hown, hts⟩ (c_X0_init l dC dI cI cJ q27 H.size) (cwI 0 hts (gw_A wd_3_14) rfl rfl rfl ww12 ww13 ww14 rfl (by decide +kernel) ⟨Nat.le_of_ble_eq_true rfl, Nat.le_of_ble_eq_true rfl⟩) (kg_preSW (kg_cutP hPx) (kg_cutD hDx) hK hN) rfl rfl hl.1 rfl (lv_room (Nat.le_of_ble_eq_true rfl)) dX5_init_31 ⟨Nat.le_of_ble_eq_true rfl, Nat.le_of_ble_eq_true rfl⟩) (fun u31 H locs hP hD hS => ?_)
    simp only [List.cons_append, List.append_assoc, List.nil_append, List.append_nil, List.set_cons_zero, List.set_cons_succ] at hP hD
    have hP : va_P (dC, dI) vwCl ((h0, .inr (5, [.ref q5, .ref q16, .null, .null, .null, .int 0])) :: (wWb cI cJ (cA q5 u9) Wb_0 ++ (wWb cI cJ (cA q16 u20) Wb_0 ++ (wFo cI cJ (cA q27 u31) Fo_0))) : va_W) H := hP
    have hD : va_D Q ((h0, .inr (5, [.ref q5, .ref q16, .null, .null, .null, .int 0])) :: (wWb cI cJ (cA q5 u9) Wb_0 ++ (wWb cI cJ (cA q16 u20) Wb_0 ++ (wFo cI cJ (cA q27 u31) Fo_0))) : va_W) := hD
    refine va_putF (D := (dC, dI)) (ci := 5) (v := .ref q27) (ty := .object "SafeBlocks$Forest") (C := RX5) (T := TX5) (N := 6) hx hb hts hiX5 tyX5 tyX5_ok nmX5 hown hK hP hD hS 0 rfl rfl 2 (by decide) ww15 (fun _ h9 => h9) rfl hin rfl (tyX5_ok 2 (by decide)) rfl rfl (Nat.le_of_ble_eq_true rfl) dX5_init_34 (fun H locs hP hD hS => ?_)
    simp only [List.cons_append, List.append_assoc, List.nil_append, List.append_nil, List.set_cons_zero, List.set_cons_succ] at hP hD
    have hP : va_P (dC, dI) vwCl ((h0, .inr (5, [.ref q5, .ref q16, .ref q27, .null, .null, .int 0])) :: (wWb cI cJ (cA q5 u9) Wb_0 ++ (wWb cI cJ (cA q16 u20) Wb_0 ++ (wFo cI cJ (cA q27 u31) Fo_0))) : va_W) H := hP
    have hD : va_D Q ((h0, .inr (5, [.ref q5, .ref q16, .ref q27, .null, .null, .int 0])) :: (wWb cI cJ (cA q5 u9) Wb_0 ++ (wWb cI cJ (cA q16 u20) Wb_0 ++ (wFo cI cJ (cA q27 u31) Fo_0))) : va_W) := hD
    refine lv_aload_n hx hb dX5_init_37 rfl (lv_at hl 0 rfl) ?_
    refine va_new (ci := 2) (fs := [.null, .null, .null, .null, .long 0, .int 0, .int 0]) (C := RX2) (T := TX2) (N := 7) hx hb hts hiX2 tyX2 tyX2_ok hown ww16 ww17 ww18 hK hP hD hS hA rfl (by intro j hj; rcases (show j = 0 ∨ j = 1 ∨ j = 2 ∨ j = 3 ∨ j = 4 ∨ j = 5 ∨ j = 6 by omega) with rfl | rfl | rfl | rfl | rfl | rfl | rfl <;> rfl) (Nat.le_of_ble_eq_true rfl) (Nat.le_of_ble_eq_true rfl) dX5_init_38 (fun q38 H hP hD hS => ?_)
    refine W.widen (k := 59) (n := 2104) (by omega) (by omega) ?_
    simp only [List.cons_append, List.append_assoc, List.nil_append, List.append_nil, List.set_cons_zero, List.set_cons_succ] at hP hD
    have hP : va_P (dC, dI) vwCl ((h0, .inr (5, [.ref q5, .ref q16, .ref q27, .null, .null, .int 0])) :: (wWb cI cJ (cA q5 u9) Wb_0 ++ (wWb cI cJ (cA q16 u20) Wb_0 ++ (wFo cI cJ (cA q27 u31) Fo_0 ++ ([(q38, .inr (2, [.null, .null, .null, .null, .long 0, .int 0, .int 0]))])))) : va_W) H := hP
    have hD : va_D Q ((h0, .inr (5, [.ref q5, .ref q16, .ref q27, .null, .null, .int 0])) :: (wWb cI cJ (cA q5 u9) Wb_0 ++ (wWb cI cJ (cA q16 u20) Wb_0 ++ (wFo cI cJ (cA q27 u31) Fo_0 ++ ([(q38, .inr (2, [.null, .null, .null, .null, .long 0, .int 0, .int 0]))])))) : va_W) := hD
    refine lv_dup hx hb dX5_init_41 rfl ?_
    have hPx : va_P (dC, dI) vwCl (((h0, .inr (5, [.ref q5, .ref q16, .ref q27, .null, .null, .int 0])) :: (wWb cI cJ (cA q5 u9) Wb_0 ++ (wWb cI cJ (cA q16 u20) Wb_0 ++ (wFo cI cJ (cA q27 u31) Fo_0))) : va_W) ++ ([(q38, .inr (2, [.null, .null, .null, .null, .long 0, .int 0, .int 0]))] ++ [])) H := by simp only [List.cons_append, List.append_assoc, List.nil_append, List.append_nil]; exact hP
    have hDx : va_D Q (((h0, .inr (5, [.ref q5, .ref q16, .ref q27, .null, .null, .int 0])) :: (wWb cI cJ (cA q5 u9) Wb_0 ++ (wWb cI cJ (cA q16 u20) Wb_0 ++ (wFo cI cJ (cA q27 u31) Fo_0))) : va_W) ++ ([(q38, .inr (2, [.null, .null, .null, .null, .long 0, .int 0, .int 0]))] ++ [])) := by simp only [List.cons_append, List.append_assoc, List.nil_append, List.append_nil]; exact hD
    refine kg_retC (w' := fun u => wPb cI cJ (cA q38 u) Pb_0) (mc := 4) (ms := 224) (k1 := 63) (n1 := 2328) hPx hDx hS hA rfl rfl (va_runI (As := []) (rest := [.ref q38, .ref h0]) ⟨hx, hb, hml, hown, hts⟩ (c_X2_init l dC dI cI cJ q38 H.size) (cwI 0 hts (gw_A wd_4_7) rfl rfl rfl ww18 ww19 ww20 rfl (by decide +kernel) ⟨Nat.le_of_ble_eq_true rfl, Nat.le_of_ble_eq_true rfl⟩) (kg_preSW (kg_cutP hPx) (kg_cutD hDx) hK hN) rfl rfl hl.1 rfl (lv_room (Nat.le_of_ble_eq_true rfl)) dX5_init_42 ⟨Nat.le_of_ble_eq_true rfl, Nat.le_of_ble_eq_true rfl⟩) (fun u42 H locs hP hD hS => ?_)
    simp only [List.cons_append, List.append_assoc, List.nil_append, List.append_nil, List.set_cons_zero, List.set_cons_succ] at hP hD
    have hP : va_P (dC, dI) vwCl ((h0, .inr (5, [.ref q5, .ref q16, .ref q27, .null, .null, .int 0])) :: (wWb cI cJ (cA q5 u9) Wb_0 ++ (wWb cI cJ (cA q16 u20) Wb_0 ++ (wFo cI cJ (cA q27 u31) Fo_0 ++ (wPb cI cJ (cA q38 u42) Pb_0)))) : va_W) H := hP
    have hD : va_D Q ((h0, .inr (5, [.ref q5, .ref q16, .ref q27, .null, .null, .int 0])) :: (wWb cI cJ (cA q5 u9) Wb_0 ++ (wWb cI cJ (cA q16 u20) Wb_0 ++ (wFo cI cJ (cA q27 u31) Fo_0 ++ (wPb cI cJ (cA q38 u42) Pb_0)))) : va_W) := hD
    refine va_putF (D := (dC, dI)) (ci := 5) (v := .ref q38) (ty := .object "SafeBlocks$PartBook") (C := RX5) (T := TX5) (N := 6) hx hb hts hiX5 tyX5 tyX5_ok nmX5 hown hK hP hD hS 0 rfl rfl 3 (by decide) ww21 (fun _ h9 => h9) rfl hin rfl (tyX5_ok 3 (by decide)) rfl rfl (Nat.le_of_ble_eq_true rfl) dX5_init_45 (fun H locs hP hD hS => ?_)
    simp only [List.cons_append, List.append_assoc, List.nil_append, List.append_nil, List.set_cons_zero, List.set_cons_succ] at hP hD
    have hP : va_P (dC, dI) vwCl ((h0, .inr (5, [.ref q5, .ref q16, .ref q27, .ref q38, .null, .int 0])) :: (wWb cI cJ (cA q5 u9) Wb_0 ++ (wWb cI cJ (cA q16 u20) Wb_0 ++ (wFo cI cJ (cA q27 u31) Fo_0 ++ (wPb cI cJ (cA q38 u42) Pb_0)))) : va_W) H := hP
    have hD : va_D Q ((h0, .inr (5, [.ref q5, .ref q16, .ref q27, .ref q38, .null, .int 0])) :: (wWb cI cJ (cA q5 u9) Wb_0 ++ (wWb cI cJ (cA q16 u20) Wb_0 ++ (wFo cI cJ (cA q27 u31) Fo_0 ++ (wPb cI cJ (cA q38 u42) Pb_0)))) : va_W) := hD
    refine lv_aload_n hx hb dX5_init_48 rfl (lv_at hl 0 rfl) ?_
    refine va_new (ci := 3) (fs := [.null]) (C := RX3) (T := TX3) (N := 1) hx hb hts hiX3 tyX3 tyX3_ok hown ww22 ww23 ww24 hK hP hD hS hA rfl (by intro j hj; rcases (show j = 0 by omega) with rfl <;> rfl) (Nat.le_of_ble_eq_true rfl) (Nat.le_of_ble_eq_true rfl) dX5_init_49 (fun q49 H hP hD hS => ?_)
    refine W.widen (k := 64) (n := 2329) (by omega) (by omega) ?_
    simp only [List.cons_append, List.append_assoc, List.nil_append, List.append_nil, List.set_cons_zero, List.set_cons_succ] at hP hD
    have hP : va_P (dC, dI) vwCl ((h0, .inr (5, [.ref q5, .ref q16, .ref q27, .ref q38, .null, .int 0])) :: (wWb cI cJ (cA q5 u9) Wb_0 ++ (wWb cI cJ (cA q16 u20) Wb_0 ++ (wFo cI cJ (cA q27 u31) Fo_0 ++ (wPb cI cJ (cA q38 u42) Pb_0 ++ ([(q49, .inr (3, [.null]))]))))) : va_W) H := hP
    have hD : va_D Q ((h0, .inr (5, [.ref q5, .ref q16, .ref q27, .ref q38, .null, .int 0])) :: (wWb cI cJ (cA q5 u9) Wb_0 ++ (wWb cI cJ (cA q16 u20) Wb_0 ++ (wFo cI cJ (cA q27 u31) Fo_0 ++ (wPb cI cJ (cA q38 u42) Pb_0 ++ ([(q49, .inr (3, [.null]))]))))) : va_W) := hD
    refine lv_dup hx hb dX5_init_52 rfl ?_
    have hPx : va_P (dC, dI) vwCl (((h0, .inr (5, [.ref q5, .ref q16, .ref q27, .ref q38, .null, .int 0])) :: (wWb cI cJ (cA q5 u9) Wb_0 ++ (wWb cI cJ (cA q16 u20) Wb_0 ++ (wFo cI cJ (cA q27 u31) Fo_0 ++ (wPb cI cJ (cA q38 u42) Pb_0)))) : va_W) ++ ([(q49, .inr (3, [.null]))] ++ [])) H := by simp only [List.cons_append, List.append_assoc, List.nil_append, List.append_nil]; exact hP
    have hDx : va_D Q (((h0, .inr (5, [.ref q5, .ref q16, .ref q27, .ref q38, .null, .int 0])) :: (wWb cI cJ (cA q5 u9) Wb_0 ++ (wWb cI cJ (cA q16 u20) Wb_0 ++ (wFo cI cJ (cA q27 u31) Fo_0 ++ (wPb cI cJ (cA q38 u42) Pb_0)))) : va_W) ++ ([(q49, .inr (3, [.null]))] ++ [])) := by simp only [List.cons_append, List.append_assoc, List.nil_append, List.append_nil]; exact hD
    refine kg_retC (w' := fun u => wRo cI cJ (cA q49 u) Ro_0) (mc := 1) (ms := 32) (k1 := 65) (n1 := 2361) hPx hDx hS hA rfl rfl (va_runI (As := []) (rest := [.ref q49, .ref h0]) ⟨hx, hb, hml, hown, hts⟩ (c_X3_init l dC dI cI cJ q49 H.size) (cwI 0 hts (gw_A wd_4_19) rfl rfl rfl ww24 ww25 ww26 rfl (by decide +kernel) ⟨Nat.le_of_ble_eq_true rfl, Nat.le_of_ble_eq_true rfl⟩) (kg_preSW (kg_cutP hPx) (kg_cutD hDx) hK hN) rfl rfl hl.1 rfl (lv_room (Nat.le_of_ble_eq_true rfl)) dX5_init_53 ⟨Nat.le_of_ble_eq_true rfl, Nat.le_of_ble_eq_true rfl⟩) (fun u53 H locs hP hD hS => ?_)
    simp only [List.cons_append, List.append_assoc, List.nil_append, List.append_nil, List.set_cons_zero, List.set_cons_succ] at hP hD
    have hP : va_P (dC, dI) vwCl ((h0, .inr (5, [.ref q5, .ref q16, .ref q27, .ref q38, .null, .int 0])) :: (wWb cI cJ (cA q5 u9) Wb_0 ++ (wWb cI cJ (cA q16 u20) Wb_0 ++ (wFo cI cJ (cA q27 u31) Fo_0 ++ (wPb cI cJ (cA q38 u42) Pb_0 ++ (wRo cI cJ (cA q49 u53) Ro_0))))) : va_W) H := hP
    have hD : va_D Q ((h0, .inr (5, [.ref q5, .ref q16, .ref q27, .ref q38, .null, .int 0])) :: (wWb cI cJ (cA q5 u9) Wb_0 ++ (wWb cI cJ (cA q16 u20) Wb_0 ++ (wFo cI cJ (cA q27 u31) Fo_0 ++ (wPb cI cJ (cA q38 u42) Pb_0 ++ (wRo cI cJ (cA q49 u53) Ro_0))))) : va_W) := hD
    refine va_putF (D := (dC, dI)) (ci := 5) (v := .ref q49) (ty := .object "SafeBlocks$Round") (C := RX5) (T := TX5) (N := 6) hx hb hts hiX5 tyX5 tyX5_ok nmX5 hown hK hP hD hS 0 rfl rfl 4 (by decide) ww27 (fun _ h9 => h9) rfl hin rfl (tyX5_ok 4 (by decide)) rfl rfl (Nat.le_of_ble_eq_true rfl) dX5_init_56 (fun H locs hP hD hS => ?_)
    simp only [List.cons_append, List.append_assoc, List.nil_append, List.append_nil, List.set_cons_zero, List.set_cons_succ] at hP hD
    have hP : va_P (dC, dI) vwCl ((h0, .inr (5, [.ref q5, .ref q16, .ref q27, .ref q38, .ref q49, .int 0])) :: (wWb cI cJ (cA q5 u9) Wb_0 ++ (wWb cI cJ (cA q16 u20) Wb_0 ++ (wFo cI cJ (cA q27 u31) Fo_0 ++ (wPb cI cJ (cA q38 u42) Pb_0 ++ (wRo cI cJ (cA q49 u53) Ro_0))))) : va_W) H := hP
    have hD : va_D Q ((h0, .inr (5, [.ref q5, .ref q16, .ref q27, .ref q38, .ref q49, .int 0])) :: (wWb cI cJ (cA q5 u9) Wb_0 ++ (wWb cI cJ (cA q16 u20) Wb_0 ++ (wFo cI cJ (cA q27 u31) Fo_0 ++ (wPb cI cJ (cA q38 u42) Pb_0 ++ (wRo cI cJ (cA q49 u53) Ro_0))))) : va_W) := hD
    refine lv_aload_n hx hb dX5_init_59 rfl (lv_at hl 0 rfl) ?_
    refine lv_iconst (v := 0) hx hb dX5_init_60 (by decide) ?_
    refine va_put (D := (dC, dI)) (ci := 5) (v := .int 0) (ty := .int) (C := RX5) (T := TX5) (N := 6) hx hb hts hiX5 tyX5 tyX5_ok nmX5 hown hK hP hD hS 0 rfl rfl 5 (by decide) ww28 (fun _ h9 => h9) rfl (tyX5_ok 5 (by decide)) rfl rfl (Nat.le_of_ble_eq_true rfl) dX5_init_61 (fun H locs hP hD hS => ?_)
    simp only [List.cons_append, List.append_assoc, List.nil_append, List.append_nil, List.set_cons_zero, List.set_cons_succ] at hP hD
    have hP : va_P (dC, dI) vwCl ((h0, .inr (5, [.ref q5, .ref q16, .ref q27, .ref q38, .ref q49, .int 0])) :: (wWb cI cJ (cA q5 u9) Wb_0 ++ (wWb cI cJ (cA q16 u20) Wb_0 ++ (wFo cI cJ (cA q27 u31) Fo_0 ++ (wPb cI cJ (cA q38 u42) Pb_0 ++ (wRo cI cJ (cA q49 u53) Ro_0))))) : va_W) H := hP
    have hD : va_D Q ((h0, .inr (5, [.ref q5, .ref q16, .ref q27, .ref q38, .ref q49, .int 0])) :: (wWb cI cJ (cA q5 u9) Wb_0 ++ (wWb cI cJ (cA q16 u20) Wb_0 ++ (wFo cI cJ (cA q27 u31) Fo_0 ++ (wPb cI cJ (cA q38 u42) Pb_0 ++ (wRo cI cJ (cA q49 u53) Ro_0))))) : va_W) := hD
    refine lv_aload_n hx hb dX5_init_64 rfl (lv_at hl 0 rfl) ?_
    obtain ⟨A, hA0⟩ : ∃ A : Nat → Nat, A = (fun i => if i < 1 then h0 else if i < 24 then (cA q5 u9) (i - 1) else if i < 47 then (cA q16 u20) (i - 24) else if i < 59 then (cA q27 u31) (i - 47) else if i < 64 then (cA q38 u42) (i - 59) else (cA q49 u53) (i - 64)) := ⟨_, rfl⟩
    have hPc : va_P (dC, dI) vwCl (wSB cI cJ (fun i => if i < 1 then h0 else if i < 24 then (cA q5 u9) (i - 1) else if i < 47 then (cA q16 u20) (i - 24) else if i < 59 then (cA q27 u31) (i - 47) else if i < 64 then (cA q38 u42) (i - 59) else (cA q49 u53) (i - 64)) SB_0) H := hP
    have hDc : va_D Q (wSB cI cJ (fun i => if i < 1 then h0 else if i < 24 then (cA q5 u9) (i - 1) else if i < 47 then (cA q16 u20) (i - 24) else if i < 59 then (cA q27 u31) (i - 47) else if i < 64 then (cA q38 u42) (i - 59) else (cA q49 u53) (i - 64)) SB_0) := hD
    rw [← hA0] at hPc hDc
    have hA00 : A 0 = h0 := by rw [hA0]; rfl
    clear hP hD
    skip
    unfold SB_m_init at hf
    have hl : lv_has ls 1 [(0, .ref (A 0))] := by rw [hA00]; exact hl
    have hP := hPc
    have hD := hDc
    obtain ⟨g70, hc, hf⟩ := ob_bind hf
    obtain ⟨g74, hc2, hf⟩ := ob_bind hf
    obtain rfl := Option.some.inj hf
    refine W.eq (g2 := F0 m 65 ls [.ref (A 0)]) (by rw [hA00]) ?_
    refine va_get (D := (dC, dI)) (ci := 5) (v := .ref (A 1)) (C := RX5) (T := TX5) (N := 6) hx hb hts hiX5 hown hK hP 0 rfl rfl 0 (by decide) ww8 (fun _ h9 => h9) rfl dX5_init_65 ?_
    refine lv_bipush (v := 8) hx hb dX5_init_68 (by decide) ?_
    have hPx := kg_eqP (sp_SB_now cI cJ A SB_0) hP
    have hDx := kg_eqD (sp_SB_now cI cJ A SB_0) hD
    refine kg_retWv (w1 := wWb cI cJ (fun i => A (i + 1)) g70) (wz := wSB cI cJ A (SB_set_now SB_0 g70)) (sj_SB_now _ _ _ _ _) hPx hDx hS hA (va_runV (As := [.int 8]) (rest := []) ⟨hx, hb, hml, hown, hts⟩ (c_X4_clear l dC dI cI cJ (fun i => A (i + 1)) H.size (SB_now SB_0) 8 _ hc) (cwV 1 hts (gw_V wd_5_1 wd_4_22 wd_4_23 wd_5_0 wd_1_14) rfl rfl rfl qX4_clear ⟨Nat.le_of_ble_eq_true rfl, Nat.le_of_ble_eq_true rfl⟩) (kg_preVW (ci := 4) (q := (RX4, TX4, 16)) (q0 := 0) (kg_cutP hPx) (kg_cutD hDx) hK hN rfl rfl) rfl rfl hl.1 rfl (lv_room (Nat.le_of_ble_eq_true rfl)) dX5_init_70 ⟨Nat.le_of_ble_eq_true rfl, Nat.le_of_ble_eq_true rfl⟩) (fun H locs hP hD hS => ?_)
    refine lv_aload_n hx hb dX5_init_73 rfl (lv_at hl 0 rfl) ?_
    have hPx := kg_eqP (kg_slf _) hP
    have hDx := kg_eqD (kg_slf _) hD
    refine kg_retWv (w1 := wSB cI cJ A g74) (wz := wSB cI cJ A g74) (kg_slf _).symm hPx hDx hS hA (va_runV (As := []) (rest := []) ⟨hx, hb, hml, hown, hts⟩ (c_X5_readAgain l dC dI cI cJ A H.size (SB_set_now SB_0 g70) _ hc2) (cwV 0 hts (gw_V wd_5_13 wd_5_10 wd_5_11 wd_5_12 wd_1_2) rfl rfl rfl qX5_readAgain ⟨Nat.le_of_ble_eq_true rfl, Nat.le_of_ble_eq_true rfl⟩) (kg_preVW (ci := 5) (q := (RX5, TX5, 6)) (q0 := 0) (kg_cutP hPx) (kg_cutD hDx) hK hN rfl rfl) rfl rfl hl.1 rfl (lv_room (Nat.le_of_ble_eq_true rfl)) dX5_init_74 ⟨Nat.le_of_ble_eq_true rfl, Nat.le_of_ble_eq_true rfl⟩) (fun H locs hP hD hS => ?_)
    have hcA : cA h0 A = A := kg_cA _ hA00
    exact kg_vretC (u := A) hx hb hr hlk (by rw [hcA]; exact hP) (by rw [hcA]; exact hD) hS dX5_init_77
  exact hgo _ _ hP hS
