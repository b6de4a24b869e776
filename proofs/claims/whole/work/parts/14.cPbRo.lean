set_option maxHeartbeats 4000000 in
set_option maxRecDepth 100000 in
theorem c_X2_read (l : Launch) (dC : Nat → ClassId) (dI : Nat → Nat → Nat) (cI cJ : ClassId) (A : Nat → Nat) (B : Nat → Nat) (hq : Nat) (x : PbS) (y : WbS) (r0 : PbS) (hf : Pb_m_read x y = some r0) : MWv l yX2_read (wAll yX2_read cX2_read 4 none) ({ frames := 2, cells := 0, slots := 0, locals := 64 } : Room) [.ref (A 0), .ref (B 0)] hq (dC, dI) (vTy cI cJ) (wPb cI cJ A x ++ (wWb cI cJ B y)) (wPb cI cJ A r0 ++ (wWb cI cJ B y)) := by
  refine kg_metW (Qc := fun Q => QWv (dC, dI) Q (wPb cI cJ A r0 ++ (wWb cI cJ B y))) (cc := cX2_read) (maxL := 4) (ret := none) (by decide) rfl (Nat.le_of_ble_eq_true rfl) ?_
  intro p e s m args below meth c Q hx hb hr hts hown hlk hml hP hK hN hD hA hS ls hl
  have hl : lv_has ls 4 [(0, .ref (A 0)), (1, .ref (B 0))] := hl
  have ww0 := hts (.fieldLink RX2 36 "SafeBlocks$Web" "nodes" "I") (List.mem_cons_of_mem _ wd_7_3)
  have ww1 := hts (.fieldLink RX2 33 "SafeBlocks$PartBook" "nodes" "I") (List.mem_cons_of_mem _ wd_4_16)
  have ww2 := hts (.fieldLink RX2 29 "SafeBlocks$PartBook" "count" "I") (List.mem_cons_of_mem _ wd_4_15)
  have ww3 := hts (.fieldLink RX2 25 "SafeBlocks$PartBook" "onRings" "J") (List.mem_cons_of_mem _ wd_4_14)
  have ww4 := hts (.fieldLink RX2 9 "SafeBlocks$PartBook" "at" "[J") (List.mem_cons_of_mem _ wd_4_10)
  have ww5 := hts (.fieldLink RX2 19 "SafeBlocks$PartBook" "numberOf" "[I") (List.mem_cons_of_mem _ wd_4_12)
  have ww6 := hts (.fieldLink RX2 60 "SafeBlocks$Web" "first" "[I") (List.mem_cons_of_mem _ wd_7_7)
  have ww7 := hts (.initialized RX5) (List.mem_cons_of_mem _ wd_1_2)
  have ww8 := hts (.static yX5_bit) (List.mem_cons_of_mem _ wd_7_16)
  have ww9 := hts (.fieldLink RX2 67 "SafeBlocks$Web" "second" "[I") (List.mem_cons_of_mem _ wd_7_8)
  have ww10 := hts (.fieldLink RX2 48 "SafeBlocks$Web" "links" "I") (List.mem_cons_of_mem _ wd_7_4)
  have ww11 := hts (.fieldLink RX2 51 "SafeBlocks$Web" "parts" "LSafeBlocks$Names;") (List.mem_cons_of_mem _ wd_7_5)
  have ww12 := hts (.fieldLink RX2 55 "SafeBlocks$Names" "of" "[I") (List.mem_cons_of_mem _ wd_7_6)
  have ww13 := hts (.fieldLink RX2 15 "SafeBlocks$PartBook" "nameOf" "[I") (List.mem_cons_of_mem _ wd_4_11)
  have ww14 := hts (.fieldLink RX2 22 "SafeBlocks$PartBook" "least" "[I") (List.mem_cons_of_mem _ wd_4_13)
  have hiX4 : ∀ w ∈ u_ws RX4 TX4 16, w ∈ wAll yX2_read cX2_read 4 none := fun w h => List.mem_cons_of_mem _ (inlX4 w h)
  have hiX2 : ∀ w ∈ u_ws RX2 TX2 7, w ∈ wAll yX2_read cX2_read 4 none := fun w h => List.mem_cons_of_mem _ (inlX2 w h)
  have hiX1 : ∀ w ∈ u_ws RX1 TX1 6, w ∈ wAll yX2_read cX2_read 4 none := fun w h => List.mem_cons_of_mem _ (inlX1 w h)
  suffices hgo : ∀ (H : Heap) (locs : List Loc), va_P (dC, dI) vwCl (wPb cI cJ A x ++ (wWb cI cJ B y)) H → va_S Q s.heap H locs → W p l e ({ frames := 2, cells := 0, slots := 0, locals := 64 } : Room) s m args below meth c H locs 0 0 (MQ below (QWv (dC, dI) Q (wPb cI cJ A r0 ++ (wWb cI cJ B y))) args s 0 0 Q) (F0 m 0 ls []) from hgo _ _ hP hS
  clear hP hS
  intro H locs hP hS
  unfold Pb_m_read at hf
  refine lv_aload_n hx hb dX2_read_0 rfl (lv_at hl 0 rfl) ?_
  refine lv_aload_n hx hb dX2_read_1 rfl (lv_at hl 1 rfl) ?_
  refine va_get (D := (dC, dI)) (ci := 4) (v := .int (Wb_nodes y)) (C := RX4) (T := TX4) (N := 16) hx hb hts hiX4 hown hK hP 5 rfl rfl 10 (by decide) ww0 (fun _ h9 => h9) rfl dX2_read_2 ?_
  refine kg_put (ci := 2) (v := .int (Wb_nodes y)) (ty := .int) (C := RX2) (T := TX2) (N := 7) (wz := (wPb cI cJ A (Pb_set_nodes x (Wb_nodes y)) ++ (wWb cI cJ B y))) hx hb hts hiX2 tyX2 tyX2_ok nmX2 hown hK hP hD hS 0 rfl rfl 6 (by decide) ww1 (fun _ h9 => h9) rfl (tyX2_ok 6 (by decide)) rfl rfl (Nat.le_of_ble_eq_true rfl) dX2_read_5 (sce_Pb_nodes _ _ _ _ _ _) (fun H locs hP hD hS => ?_)
  refine lv_aload_n hx hb dX2_read_8 rfl (lv_at hl 0 rfl) ?_
  refine lv_iconst (v := 0) hx hb dX2_read_9 (by decide) ?_
  refine kg_put (ci := 2) (v := .int 0) (ty := .int) (C := RX2) (T := TX2) (N := 7) (wz := (wPb cI cJ A (Pb_set_count (Pb_set_nodes x (Wb_nodes y)) 0) ++ (wWb cI cJ B y))) hx hb hts hiX2 tyX2 tyX2_ok nmX2 hown hK hP hD hS 0 rfl rfl 5 (by decide) ww2 (fun _ h9 => h9) rfl (tyX2_ok 5 (by decide)) rfl rfl (Nat.le_of_ble_eq_true rfl) dX2_read_10 (sce_Pb_count _ _ _ _ _ _) (fun H locs hP hD hS => ?_)
  refine lv_aload_n hx hb dX2_read_13 rfl (lv_at hl 0 rfl) ?_
  refine lv_lconst (v := 0) hx hb dX2_read_14 (by decide) ?_
  refine kg_put (ci := 2) (v := .long 0) (ty := .long) (C := RX2) (T := TX2) (N := 7) (wz := (wPb cI cJ A (Pb_set_onRings (Pb_set_count (Pb_set_nodes x (Wb_nodes y)) 0) 0) ++ (wWb cI cJ B y))) hx hb hts hiX2 tyX2 tyX2_ok nmX2 hown hK hP hD hS 0 rfl rfl 4 (by decide) ww3 (fun _ h9 => h9) rfl (tyX2_ok 4 (by decide)) rfl rfl (Nat.le_of_ble_eq_true rfl) dX2_read_15 (sce_Pb_onRings _ _ _ _ _ _) (fun H locs hP hD hS => ?_)
  refine lv_aload_n hx hb dX2_read_18 rfl (lv_at hl 0 rfl) ?_
  refine va_get (D := (dC, dI)) (ci := 2) (v := .ref (A 1)) (C := RX2) (T := TX2) (N := 7) hx hb hts hiX2 hown hK hP 0 rfl rfl 0 (by decide) ww4 (fun _ h9 => h9) rfl dX2_read_19 ?_
  refine lv_lconst (v := 0) hx hb dX2_read_22 (by decide) ?_
  have hcl : (wPb cI cJ A (Pb_set_onRings (Pb_set_count (Pb_set_nodes x (Wb_nodes y)) 0) 0) ++ (wWb cI cJ B y))[1]? = some ((A 1), .inl (cJ, 32, .inr (.inl (Pb_at (Pb_set_onRings (Pb_set_count (Pb_set_nodes x (Wb_nodes y)) 0) 0))))) := rfl
  have hPx := kg_eqP (kg_take hcl) hP
  have hDx := kg_eqD (kg_take hcl) hD
  refine kg_retWv (pre := List.take 1 (wPb cI cJ A (Pb_set_onRings (Pb_set_count (Pb_set_nodes x (Wb_nodes y)) 0) 0) ++ (wWb cI cJ B y))) (wc := [((A 1), .inl (cJ, 32, .inr (.inl (Pb_at (Pb_set_onRings (Pb_set_count (Pb_set_nodes x (Wb_nodes y)) 0) 0)))))]) (post := List.drop 2 (wPb cI cJ A (Pb_set_onRings (Pb_set_count (Pb_set_nodes x (Wb_nodes y)) 0) 0) ++ (wWb cI cJ B y))) (w1 := [((A 1), .inl (cJ, 32, .inr (.inl (fillF (Pb_at (Pb_set_onRings (Pb_set_count (Pb_set_nodes x (Wb_nodes y)) 0) 0)) 32 0))))]) (wz := (wPb cI cJ A (Pb_set_at (Pb_set_onRings (Pb_set_count (Pb_set_nodes x (Wb_nodes y)) 0) 0) (fillF (Pb_at (Pb_set_onRings (Pb_set_count (Pb_set_nodes x (Wb_nodes y)) 0) 0)) 32 0)) ++ (wWb cI cJ B y))) ((kg_takeS hcl).trans (sce_Pb_at _ _ _ _ _ _)) hPx hDx hS hA (va_runS (As := [.ref (A 1), .long 0]) (rest := []) ⟨hx, hb, hml, hown, hts⟩ (c_J7_fillJ l dC dI cI cJ (A 1) 32 (Pb_at (Pb_set_onRings (Pb_set_count (Pb_set_nodes x (Wb_nodes y)) 0) 0)) H.size 0 (Nat.le_of_ble_eq_true rfl)) (va_cwS 2 hts (gw_X wd_7_12 wd_7_9 wd_7_10 wd_7_11) rfl rfl rfl qJ7_fill_d0a16_o ⟨Nat.le_of_ble_eq_true rfl, Nat.le_of_ble_eq_true rfl⟩) (kg_preSW (kg_cutP hPx) (kg_cutD hDx) hK hN) rfl rfl hl.1 rfl (lv_room (Nat.le_of_ble_eq_true rfl)) dX2_read_23 ⟨Nat.zero_le _, Nat.zero_le _⟩) (fun H locs hP hD hS => ?_)
  refine lv_aload_n hx hb dX2_read_26 rfl (lv_at hl 0 rfl) ?_
  refine va_get (D := (dC, dI)) (ci := 2) (v := .ref (A 3)) (C := RX2) (T := TX2) (N := 7) hx hb hts hiX2 hown hK hP 0 rfl rfl 2 (by decide) ww5 (fun _ h9 => h9) rfl dX2_read_27 ?_
  refine lv_iconst (v := (-1)) hx hb dX2_read_30 (by decide) ?_
  have hcl : (wPb cI cJ A (Pb_set_at (Pb_set_onRings (Pb_set_count (Pb_set_nodes x (Wb_nodes y)) 0) 0) (fillF (Pb_at (Pb_set_onRings (Pb_set_count (Pb_set_nodes x (Wb_nodes y)) 0) 0)) 32 0)) ++ (wWb cI cJ B y))[3]? = some ((A 3), .inl (cI, 64, .inl (Pb_numberOf (Pb_set_at (Pb_set_onRings (Pb_set_count (Pb_set_nodes x (Wb_nodes y)) 0) 0) (fillF (Pb_at (Pb_set_onRings (Pb_set_count (Pb_set_nodes x (Wb_nodes y)) 0) 0)) 32 0))))) := rfl
  have hPx := kg_eqP (kg_take hcl) hP
  have hDx := kg_eqD (kg_take hcl) hD
  refine kg_retWv (pre := List.take 3 (wPb cI cJ A (Pb_set_at (Pb_set_onRings (Pb_set_count (Pb_set_nodes x (Wb_nodes y)) 0) 0) (fillF (Pb_at (Pb_set_onRings (Pb_set_count (Pb_set_nodes x (Wb_nodes y)) 0) 0)) 32 0)) ++ (wWb cI cJ B y))) (wc := [((A 3), .inl (cI, 64, .inl (Pb_numberOf (Pb_set_at (Pb_set_onRings (Pb_set_count (Pb_set_nodes x (Wb_nodes y)) 0) 0) (fillF (Pb_at (Pb_set_onRings (Pb_set_count (Pb_set_nodes x (Wb_nodes y)) 0) 0)) 32 0)))))]) (post := List.drop 4 (wPb cI cJ A (Pb_set_at (Pb_set_onRings (Pb_set_count (Pb_set_nodes x (Wb_nodes y)) 0) 0) (fillF (Pb_at (Pb_set_onRings (Pb_set_count (Pb_set_nodes x (Wb_nodes y)) 0) 0)) 32 0)) ++ (wWb cI cJ B y))) (w1 := [((A 3), .inl (cI, 64, .inl (fillF (Pb_numberOf (Pb_set_at (Pb_set_onRings (Pb_set_count (Pb_set_nodes x (Wb_nodes y)) 0) 0) (fillF (Pb_at (Pb_set_onRings (Pb_set_count (Pb_set_nodes x (Wb_nodes y)) 0) 0)) 32 0))) 64 (-1))))]) (wz := (wPb cI cJ A (Pb_set_numberOf (Pb_set_at (Pb_set_onRings (Pb_set_count (Pb_set_nodes x (Wb_nodes y)) 0) 0) (fillF (Pb_at (Pb_set_onRings (Pb_set_count (Pb_set_nodes x (Wb_nodes y)) 0) 0)) 32 0)) (fillF (Pb_numberOf (Pb_set_at (Pb_set_onRings (Pb_set_count (Pb_set_nodes x (Wb_nodes y)) 0) 0) (fillF (Pb_at (Pb_set_onRings (Pb_set_count (Pb_set_nodes x (Wb_nodes y)) 0) 0)) 32 0))) 64 (-1))) ++ (wWb cI cJ B y))) ((kg_takeS hcl).trans (sce_Pb_numberOf _ _ _ _ _ _)) hPx hDx hS hA (va_runS (As := [.ref (A 3), .int (-1)]) (rest := []) ⟨hx, hb, hml, hown, hts⟩ (c_J7_fillI l dC dI cI cJ (A 3) 64 (Pb_numberOf (Pb_set_at (Pb_set_onRings (Pb_set_count (Pb_set_nodes x (Wb_nodes y)) 0) 0) (fillF (Pb_at (Pb_set_onRings (Pb_set_count (Pb_set_nodes x (Wb_nodes y)) 0) 0)) 32 0))) H.size (-1) (Nat.le_of_ble_eq_true rfl)) (va_cwS 2 hts (gw_X wd_7_15 wd_7_13 wd_7_14 wd_7_11) rfl rfl rfl qJ7_fill_53178_o ⟨Nat.le_of_ble_eq_true rfl, Nat.le_of_ble_eq_true rfl⟩) (kg_preSW (kg_cutP hPx) (kg_cutD hDx) hK hN) rfl rfl hl.1 rfl (lv_room (Nat.le_of_ble_eq_true rfl)) dX2_read_31 ⟨Nat.zero_le _, Nat.zero_le _⟩) (fun H locs hP hD hS => ?_)
  refine lv_iconst (v := 0) hx hb dX2_read_34 (by decide) ?_
  refine lv_istore_n (lv' := [(2, .int 0), (0, .ref (A 0)), (1, .ref (B 0))]) hx hb dX2_read_35 rfl hl (by decide) rfl (fun ls hl => ?_)
  have hlp36 : ∀ (n : Nat) (x : PbS) (v2 : Int32), iter (fun p : PbS × Int32 => Pb_m_read_s36 y p.1 p.2) n (x, v2) = some r0 → ∀ (H : Heap) (locs : List Loc) (ls : Array Slot), va_P (dC, dI) vwCl (wPb cI cJ A x ++ (wWb cI cJ B y)) H → va_D Q (wPb cI cJ A x ++ (wWb cI cJ B y)) → va_S Q s.heap H locs → lv_has ls 4 [(0, .ref (A 0)), (1, .ref (B 0)), (2, .int v2)] → W p l e ({ frames := 2, cells := 0, slots := 0, locals := 64 } : Room) s m args below meth c H locs 0 0 (MQ below (QWv (dC, dI) Q (wPb cI cJ A r0 ++ (wWb cI cJ B y))) args s 0 0 Q) (F0 m 36 ls []) := by
    intro  n
    induction n with
    | zero => intro x v2 hf; exact iter_zero hf
    | succ n ih1 =>
      intro x v2 hf H locs ls hP hD hS hl
      obtain ⟨q1, hf, hk1⟩ := iter_succ hf
      have hf : Pb_m_read_s36 y x v2 = some q1 := hf
      unfold Pb_m_read_s36 at hf
      have hj104 : ∀ (x : PbS) (v2 : Int32) (v3 : Int32), Pb_m_read_j104 x y v2 v3 = some q1 → ∀ (H : Heap) (locs : List Loc) (ls : Array Slot), va_P (dC, dI) vwCl (wPb cI cJ A x ++ (wWb cI cJ B y)) H → va_D Q (wPb cI cJ A x ++ (wWb cI cJ B y)) → va_S Q s.heap H locs → lv_has ls 4 [(0, .ref (A 0)), (1, .ref (B 0)), (2, .int v2), (3, .int v3)] → W p l e ({ frames := 2, cells := 0, slots := 0, locals := 64 } : Room) s m args below meth c H locs 0 0 (MQ below (QWv (dC, dI) Q (wPb cI cJ A r0 ++ (wWb cI cJ B y))) args s 0 0 Q) (F0 m 104 ls []) := by
        intro x v2 v3 hf H locs ls hP hD hS hl
        unfold Pb_m_read_j104 at hf
        refine lv_aload_n hx hb dX2_read_104 rfl (lv_at hl 0 rfl) ?_
        refine va_get (D := (dC, dI)) (ci := 2) (v := .ref (A 1)) (C := RX2) (T := TX2) (N := 7) hx hb hts hiX2 hown hK hP 0 rfl rfl 0 (by decide) ww4 (fun _ h9 => h9) rfl dX2_read_105 ?_
        refine lv_aload_n hx hb dX2_read_108 rfl (lv_at hl 1 rfl) ?_
        refine va_get (D := (dC, dI)) (ci := 4) (v := .ref (B 1)) (C := RX4) (T := TX4) (N := 16) hx hb hts hiX4 hown hK hP 5 rfl rfl 0 (by decide) ww6 (fun _ h9 => h9) rfl dX2_read_109 ?_
        refine lv_iload_n hx hb dX2_read_112 rfl (lv_at hl 2 rfl) ?_
        obtain ⟨g113, hv, hf⟩ := ob_bind hf
        refine kg_iald hx hb hK hP 6 0 rfl rfl hv dX2_read_113 ?_
        refine lv_dup2_11 hx hb dX2_read_114 rfl rfl ?_
        obtain ⟨g115, hv, hf⟩ := ob_bind hf
        refine kg_lald hx hb hK hP 1 1 rfl rfl hv dX2_read_115 ?_
        refine lv_iload_n hx hb dX2_read_116 rfl (lv_at hl 3 rfl) ?_
        obtain ⟨g117, hc, hf⟩ := ob_bind hf
        have hPc : va_P (dC, dI) vwCl ([] : va_W) H := fun k q h => by cases h
        refine kg_retRj (va_runSN (As := [.int v3]) (rest := [.long g115, .int g113, .ref (A 1)]) ⟨hx, hb, hml, hown, hts⟩ (c_X5_bit l dC dI cI cJ  H v3 _ hc) (⟨va_cnB 1 hts (gw_A wd_7_17) rfl rfl rfl hN.2.1 ww7 qX5_bit_n ⟨Nat.le_of_ble_eq_true rfl, Nat.le_of_ble_eq_true rfl⟩, ww8, trivial⟩) (kg_preSR hPc hK hN) rfl rfl hl.1 rfl (lv_room (Nat.le_of_ble_eq_true rfl)) dX2_read_117 ⟨Nat.zero_le _, Nat.zero_le _⟩) ?_
        refine lv_lor hx hb dX2_read_120 ?_
        obtain ⟨f121, hv, hf⟩ := ob_bind hf
        refine kg_last (wz := (wPb cI cJ A (Pb_set_at x f121) ++ (wWb cI cJ B y))) hx hb hK hP hD hS 1 1 rfl rfl hv dX2_read_121 (sce_Pb_at _ _ _ _ _ _) (fun H locs hP hD hS => ?_)
        refine lv_aload_n hx hb dX2_read_122 rfl (lv_at hl 0 rfl) ?_
        refine va_get (D := (dC, dI)) (ci := 2) (v := .ref (A 1)) (C := RX2) (T := TX2) (N := 7) hx hb hts hiX2 hown hK hP 0 rfl rfl 0 (by decide) ww4 (fun _ h9 => h9) rfl dX2_read_123 ?_
        refine lv_aload_n hx hb dX2_read_126 rfl (lv_at hl 1 rfl) ?_
        refine va_get (D := (dC, dI)) (ci := 4) (v := .ref (B 2)) (C := RX4) (T := TX4) (N := 16) hx hb hts hiX4 hown hK hP 5 rfl rfl 1 (by decide) ww9 (fun _ h9 => h9) rfl dX2_read_127 ?_
        refine lv_iload_n hx hb dX2_read_130 rfl (lv_at hl 2 rfl) ?_
        obtain ⟨g131, hv, hf⟩ := ob_bind hf
        refine kg_iald hx hb hK hP 7 0 rfl rfl hv dX2_read_131 ?_
        refine lv_dup2_11 hx hb dX2_read_132 rfl rfl ?_
        obtain ⟨g133, hv, hf⟩ := ob_bind hf
        refine kg_lald hx hb hK hP 1 1 rfl rfl hv dX2_read_133 ?_
        refine lv_iload_n hx hb dX2_read_134 rfl (lv_at hl 3 rfl) ?_
        obtain ⟨g135, hc, hf⟩ := ob_bind hf
        have hPc : va_P (dC, dI) vwCl ([] : va_W) H := fun k q h => by cases h
        refine kg_retRj (va_runSN (As := [.int v3]) (rest := [.long g133, .int g131, .ref (A 1)]) ⟨hx, hb, hml, hown, hts⟩ (c_X5_bit l dC dI cI cJ  H v3 _ hc) (⟨va_cnB 1 hts (gw_A wd_7_17) rfl rfl rfl hN.2.1 ww7 qX5_bit_n ⟨Nat.le_of_ble_eq_true rfl, Nat.le_of_ble_eq_true rfl⟩, ww8, trivial⟩) (kg_preSR hPc hK hN) rfl rfl hl.1 rfl (lv_room (Nat.le_of_ble_eq_true rfl)) dX2_read_135 ⟨Nat.zero_le _, Nat.zero_le _⟩) ?_
        refine lv_lor hx hb dX2_read_138 ?_
        obtain ⟨f139, hv, hf⟩ := ob_bind hf
        refine kg_last (wz := (wPb cI cJ A (Pb_set_at (Pb_set_at x f121) f139) ++ (wWb cI cJ B y))) hx hb hK hP hD hS 1 1 rfl rfl hv dX2_read_139 (sce_Pb_at _ _ _ _ _ _) (fun H locs hP hD hS => ?_)
        refine lv_aload_n hx hb dX2_read_140 rfl (lv_at hl 1 rfl) ?_
        refine lv_iload_n hx hb dX2_read_141 rfl (lv_at hl 2 rfl) ?_
        obtain ⟨g142, hc, hf⟩ := ob_bind hf
        have hPc : va_P (dC, dI) vwCl (wWb cI cJ B y) H := hP.sub [5, 6, 7, 8, 9, 10, 11, 12, 13, 14, 15, 16, 17, 18, 19, 20, 21, 22, 23, 24, 25, 26, 27] rfl
        refine kg_retRi (va_runV (As := [.int v2]) (rest := []) ⟨hx, hb, hml, hown, hts⟩ (c_X4_isBridge l dC dI cI cJ B H y v2 _ hc) (cwV 1 hts (gw_V wd_6_6 wd_7_18 wd_6_4 wd_6_5 wd_1_14) rfl rfl rfl qX4_isBridge ⟨Nat.le_of_ble_eq_true rfl, Nat.le_of_ble_eq_true rfl⟩) (kg_preVR (ci := 4) (q := (RX4, TX4, 16)) (q0 := 0) hPc hK hN rfl rfl) rfl rfl hl.1 rfl (lv_room (Nat.le_of_ble_eq_true rfl)) dX2_read_142 ⟨Nat.zero_le _, Nat.zero_le _⟩) ?_
        refine kg_b_ne (tgt := 161) hx hb hf dX2_read_145 (by decide) (fun hc hf => ?_) (fun hc hf => ?_)
        · refine lv_iinc (v := (v2 + 1)) (lv' := [(2, .int (v2 + 1)), (0, .ref (A 0)), (1, .ref (B 0)), (3, .int v3)]) hx hb dX2_read_161 hl (k := 2) rfl rfl (by decide) rfl (fun ls hl => ?_)
          refine lv_goto (tgt := 36) hx hb dX2_read_164 (by decide) ?_
          obtain rfl := Option.some.inj hf
          exact ih1 (Pb_set_at (Pb_set_at x f121) f139) (v2 + 1) hk1 _ _ _ hP hD hS (lv_sub hl [1, 2, 0] rfl)
        · refine lv_aload_n hx hb dX2_read_148 rfl (lv_at hl 0 rfl) ?_
          refine lv_dup hx hb dX2_read_149 rfl ?_
          refine va_get (D := (dC, dI)) (ci := 2) (v := .long (Pb_onRings (Pb_set_at (Pb_set_at x f121) f139))) (C := RX2) (T := TX2) (N := 7) hx hb hts hiX2 hown hK hP 0 rfl rfl 4 (by decide) ww3 (fun _ h9 => h9) rfl dX2_read_150 ?_
          refine lv_iload_n hx hb dX2_read_153 rfl (lv_at hl 3 rfl) ?_
          obtain ⟨g154, hc, hf⟩ := ob_bind hf
          have hPc : va_P (dC, dI) vwCl ([] : va_W) H := fun k q h => by cases h
          refine kg_retRj (va_runSN (As := [.int v3]) (rest := [.long (Pb_onRings (Pb_set_at (Pb_set_at x f121) f139)), .ref (A 0)]) ⟨hx, hb, hml, hown, hts⟩ (c_X5_bit l dC dI cI cJ  H v3 _ hc) (⟨va_cnB 1 hts (gw_A wd_7_17) rfl rfl rfl hN.2.1 ww7 qX5_bit_n ⟨Nat.le_of_ble_eq_true rfl, Nat.le_of_ble_eq_true rfl⟩, ww8, trivial⟩) (kg_preSR hPc hK hN) rfl rfl hl.1 rfl (lv_room (Nat.le_of_ble_eq_true rfl)) dX2_read_154 ⟨Nat.zero_le _, Nat.zero_le _⟩) ?_
          refine lv_lor hx hb dX2_read_157 ?_
          refine kg_put (ci := 2) (v := .long ((Pb_onRings (Pb_set_at (Pb_set_at x f121) f139)) ||| g154)) (ty := .long) (C := RX2) (T := TX2) (N := 7) (wz := (wPb cI cJ A (Pb_set_onRings (Pb_set_at (Pb_set_at x f121) f139) ((Pb_onRings (Pb_set_at (Pb_set_at x f121) f139)) ||| g154)) ++ (wWb cI cJ B y))) hx hb hts hiX2 tyX2 tyX2_ok nmX2 hown hK hP hD hS 0 rfl rfl 4 (by decide) ww3 (fun _ h9 => h9) rfl (tyX2_ok 4 (by decide)) rfl rfl (Nat.le_of_ble_eq_true rfl) dX2_read_158 (sce_Pb_onRings _ _ _ _ _ _) (fun H locs hP hD hS => ?_)
          refine lv_iinc (v := (v2 + 1)) (lv' := [(2, .int (v2 + 1)), (0, .ref (A 0)), (1, .ref (B 0)), (3, .int v3)]) hx hb dX2_read_161 hl (k := 2) rfl rfl (by decide) rfl (fun ls hl => ?_)
          refine lv_goto (tgt := 36) hx hb dX2_read_164 (by decide) ?_
          obtain rfl := Option.some.inj hf
          exact ih1 (Pb_set_onRings (Pb_set_at (Pb_set_at x f121) f139) ((Pb_onRings (Pb_set_at (Pb_set_at x f121) f139)) ||| g154)) (v2 + 1) hk1 _ _ _ hP hD hS (lv_sub hl [1, 2, 0] rfl)
      refine lv_iload_n hx hb dX2_read_36 rfl (lv_at hl 2 rfl) ?_
      refine lv_aload_n hx hb dX2_read_37 rfl (lv_at hl 1 rfl) ?_
      refine va_get (D := (dC, dI)) (ci := 4) (v := .int (Wb_links y)) (C := RX4) (T := TX4) (N := 16) hx hb hts hiX4 hown hK hP 5 rfl rfl 11 (by decide) ww10 (fun _ h9 => h9) rfl dX2_read_38 ?_
      refine kg_icmp_ge (tgt := 167) hx hb hf dX2_read_41 (by decide) (fun hc hf => ?_) (fun hc hf => ?_)
      · obtain ⟨qq, hf, hqq⟩ := omap_some hf
        have hkq : qq = r0 := by rw [← hqq] at hk1; exact hk1
        rw [hkq] at hf
        clear hkq hqq
        obtain rfl := Option.some.inj hf
        exact kg_vretW hx hb hr hlk hP hD hS dX2_read_167
      · refine lv_aload_n hx hb dX2_read_44 rfl (lv_at hl 1 rfl) ?_
        refine va_get (D := (dC, dI)) (ci := 4) (v := .ref (B 18)) (C := RX4) (T := TX4) (N := 16) hx hb hts hiX4 hown hK hP 5 rfl rfl 9 (by decide) ww11 (fun _ h9 => h9) rfl dX2_read_45 ?_
        refine va_get (D := (dC, dI)) (ci := 1) (v := .ref (B 19)) (C := RX1) (T := TX1) (N := 6) hx hb hts hiX1 hown hK hP 23 rfl rfl 0 (by decide) ww12 (fun _ h9 => h9) rfl dX2_read_48 ?_
        refine lv_iload_n hx hb dX2_read_51 rfl (lv_at hl 2 rfl) ?_
        obtain ⟨g52, hv, hf⟩ := ob_bind hf
        refine kg_iald hx hb hK hP 24 0 rfl rfl hv dX2_read_52 ?_
        refine lv_istore_n (lv' := [(3, .int g52), (0, .ref (A 0)), (1, .ref (B 0)), (2, .int v2)]) hx hb dX2_read_53 rfl hl (by decide) rfl (fun ls hl => ?_)
        refine lv_aload_n hx hb dX2_read_54 rfl (lv_at hl 1 rfl) ?_
        refine va_get (D := (dC, dI)) (ci := 2) (v := .ref (A 3)) (C := RX2) (T := TX2) (N := 7) hx hb hts hiX2 hown hK hP 0 rfl rfl 2 (by decide) ww5 (fun _ h9 => h9) rfl dX2_read_55 ?_
        refine lv_iload_n hx hb dX2_read_58 rfl (lv_at hl 0 rfl) ?_
        obtain ⟨g59, hv, hf⟩ := ob_bind hf
        refine kg_iald hx hb hK hP 3 0 rfl rfl hv dX2_read_59 ?_
        refine lv_iconst (v := (-1)) hx hb dX2_read_60 (by decide) ?_
        refine kg_icmp_ne (tgt := 104) hx hb hf dX2_read_61 (by decide) (fun hc hf => ?_) (fun hc hf => ?_)
        · exact hj104 x v2 g52 hf _ _ _ hP hD hS (lv_sub hl [1, 2, 3, 0] rfl)
        · refine lv_aload_n hx hb dX2_read_64 rfl (lv_at hl 1 rfl) ?_
          refine va_get (D := (dC, dI)) (ci := 2) (v := .ref (A 3)) (C := RX2) (T := TX2) (N := 7) hx hb hts hiX2 hown hK hP 0 rfl rfl 2 (by decide) ww5 (fun _ h9 => h9) rfl dX2_read_65 ?_
          refine lv_iload_n hx hb dX2_read_68 rfl (lv_at hl 0 rfl) ?_
          refine lv_aload_n hx hb dX2_read_69 rfl (lv_at hl 1 rfl) ?_
          refine va_get (D := (dC, dI)) (ci := 2) (v := .int (Pb_count x)) (C := RX2) (T := TX2) (N := 7) hx hb hts hiX2 hown hK hP 0 rfl rfl 5 (by decide) ww2 (fun _ h9 => h9) rfl dX2_read_70 ?_
          obtain ⟨f73, hv, hf⟩ := ob_bind hf
          refine kg_iast (wz := (wPb cI cJ A (Pb_set_numberOf x f73) ++ (wWb cI cJ B y))) hx hb hK hP hD hS 3 0 rfl rfl hv dX2_read_73 (sce_Pb_numberOf _ _ _ _ _ _) (fun H locs hP hD hS => ?_)
          refine lv_aload_n hx hb dX2_read_74 rfl (lv_at hl 1 rfl) ?_
          refine va_get (D := (dC, dI)) (ci := 2) (v := .ref (A 2)) (C := RX2) (T := TX2) (N := 7) hx hb hts hiX2 hown hK hP 0 rfl rfl 1 (by decide) ww13 (fun _ h9 => h9) rfl dX2_read_75 ?_
          refine lv_aload_n hx hb dX2_read_78 rfl (lv_at hl 1 rfl) ?_
          refine va_get (D := (dC, dI)) (ci := 2) (v := .int (Pb_count (Pb_set_numberOf x f73))) (C := RX2) (T := TX2) (N := 7) hx hb hts hiX2 hown hK hP 0 rfl rfl 5 (by decide) ww2 (fun _ h9 => h9) rfl dX2_read_79 ?_
          refine lv_iload_n hx hb dX2_read_82 rfl (lv_at hl 0 rfl) ?_
          obtain ⟨f83, hv, hf⟩ := ob_bind hf
          refine kg_iast (wz := (wPb cI cJ A (Pb_set_nameOf (Pb_set_numberOf x f73) f83) ++ (wWb cI cJ B y))) hx hb hK hP hD hS 2 0 rfl rfl hv dX2_read_83 (sce_Pb_nameOf _ _ _ _ _ _) (fun H locs hP hD hS => ?_)
          refine lv_aload_n hx hb dX2_read_84 rfl (lv_at hl 1 rfl) ?_
          refine va_get (D := (dC, dI)) (ci := 2) (v := .ref (A 4)) (C := RX2) (T := TX2) (N := 7) hx hb hts hiX2 hown hK hP 0 rfl rfl 3 (by decide) ww14 (fun _ h9 => h9) rfl dX2_read_85 ?_
          refine lv_aload_n hx hb dX2_read_88 rfl (lv_at hl 1 rfl) ?_
          refine va_get (D := (dC, dI)) (ci := 2) (v := .int (Pb_count (Pb_set_nameOf (Pb_set_numberOf x f73) f83))) (C := RX2) (T := TX2) (N := 7) hx hb hts hiX2 hown hK hP 0 rfl rfl 5 (by decide) ww2 (fun _ h9 => h9) rfl dX2_read_89 ?_
          refine lv_iload_n hx hb dX2_read_92 rfl (lv_at hl 3 rfl) ?_
          obtain ⟨f93, hv, hf⟩ := ob_bind hf
          refine kg_iast (wz := (wPb cI cJ A (Pb_set_least (Pb_set_nameOf (Pb_set_numberOf x f73) f83) f93) ++ (wWb cI cJ B y))) hx hb hK hP hD hS 4 0 rfl rfl hv dX2_read_93 (sce_Pb_least _ _ _ _ _ _) (fun H locs hP hD hS => ?_)
          refine lv_aload_n hx hb dX2_read_94 rfl (lv_at hl 1 rfl) ?_
          refine lv_dup hx hb dX2_read_95 rfl ?_
          refine va_get (D := (dC, dI)) (ci := 2) (v := .int (Pb_count (Pb_set_least (Pb_set_nameOf (Pb_set_numberOf x f73) f83) f93))) (C := RX2) (T := TX2) (N := 7) hx hb hts hiX2 hown hK hP 0 rfl rfl 5 (by decide) ww2 (fun _ h9 => h9) rfl dX2_read_96 ?_
          refine lv_iconst (v := 1) hx hb dX2_read_99 (by decide) ?_
          refine lv_iadd hx hb dX2_read_100 ?_
          refine kg_put (ci := 2) (v := .int ((Pb_count (Pb_set_least (Pb_set_nameOf (Pb_set_numberOf x f73) f83) f93)) + 1)) (ty := .int) (C := RX2) (T := TX2) (N := 7) (wz := (wPb cI cJ A (Pb_set_count (Pb_set_least (Pb_set_nameOf (Pb_set_numberOf x f73) f83) f93) ((Pb_count (Pb_set_least (Pb_set_nameOf (Pb_set_numberOf x f73) f83) f93)) + 1)) ++ (wWb cI cJ B y))) hx hb hts hiX2 tyX2 tyX2_ok nmX2 hown hK hP hD hS 0 rfl rfl 5 (by decide) ww2 (fun _ h9 => h9) rfl (tyX2_ok 5 (by decide)) rfl rfl (Nat.le_of_ble_eq_true rfl) dX2_read_101 (sce_Pb_count _ _ _ _ _ _) (fun H locs hP hD hS => ?_)
          exact hj104 (Pb_set_count (Pb_set_least (Pb_set_nameOf (Pb_set_numberOf x f73) f83) f93) ((Pb_count (Pb_set_least (Pb_set_nameOf (Pb_set_numberOf x f73) f83) f93)) + 1)) v2 g52 hf _ _ _ hP hD hS (lv_sub hl [1, 2, 3, 0] rfl)
  exact hlp36  FU (Pb_set_numberOf (Pb_set_at (Pb_set_onRings (Pb_set_count (Pb_set_nodes x (Wb_nodes y)) 0) 0) (fillF (Pb_at (Pb_set_onRings (Pb_set_count (Pb_set_nodes x (Wb_nodes y)) 0) 0)) 32 0)) (fillF (Pb_numberOf (Pb_set_at (Pb_set_onRings (Pb_set_count (Pb_set_nodes x (Wb_nodes y)) 0) 0) (fillF (Pb_at (Pb_set_onRings (Pb_set_count (Pb_set_nodes x (Wb_nodes y)) 0) 0)) 32 0))) 64 (-1))) 0 hf _ _ _ hP hD hS (lv_sub hl [1, 2, 0] rfl)
set_option maxHeartbeats 4000000 in
set_option maxRecDepth 100000 in
theorem c_X2_isCut (l : Launch) (dC : Nat → ClassId) (dI : Nat → Nat → Nat) (cI cJ : ClassId) (A : Nat → Nat) (hq : Heap) (x : PbS) (v1 : Int32) (r0 : Bool) (hf : Pb_m_isCut x v1 = some r0) : MRi l yX2_isCut (wAll yX2_isCut cX2_isCut 2 (some .boolean)) ({ frames := 2, cells := 0, slots := 0, locals := 61 } : Room) [.ref (A 0), .int v1] hq (dC, dI) (vTy cI cJ) (wPb cI cJ A x) (b2i r0) := by
  refine kg_metR (cc := cX2_isCut) (maxL := 2) (ret := (some .boolean)) (by decide) rfl (Nat.le_of_ble_eq_true rfl) ?_
  intro p e s m args below meth c hx hb hr hts hown hlk hml hH hP hK hN ls hl
  subst hH
  have hl : lv_has ls 2 [(0, .ref (A 0)), (1, .int v1)] := hl
  have ww0 := hts (.fieldLink RX2 9 "SafeBlocks$PartBook" "at" "[J") (List.mem_cons_of_mem _ wd_4_10)
  have hiX2 : ∀ w ∈ u_ws RX2 TX2 7, w ∈ wAll yX2_isCut cX2_isCut 2 (some .boolean) := fun w h => List.mem_cons_of_mem _ (inlX2 w h)
  unfold Pb_m_isCut at hf
  refine lv_aload_n hx hb dX2_isCut_0 rfl (lv_at hl 0 rfl) ?_
  refine va_get (D := (dC, dI)) (ci := 2) (v := .ref (A 1)) (C := RX2) (T := TX2) (N := 7) hx hb hts hiX2 hown hK hP 0 rfl rfl 0 (by decide) ww0 (fun _ h9 => h9) rfl dX2_isCut_1 ?_
  refine lv_iload_n hx hb dX2_isCut_4 rfl (lv_at hl 1 rfl) ?_
  obtain ⟨g5, hv, hf⟩ := ob_bind hf
  refine kg_lald hx hb hK hP 1 1 rfl rfl hv dX2_isCut_5 ?_
  obtain ⟨g6, hc, hf⟩ := ob_bind hf
  have hPc : va_P (dC, dI) vwCl ([] : va_W) s.heap := fun k q h => by cases h
  refine kg_retRi (va_runS (As := [.long g5]) (rest := []) ⟨hx, hb, hml, hown, hts⟩ (c_J13_bitCount l dC dI cI cJ  s.heap g5 _ hc) (va_cwS 1 hts (gw_X wd_22_7 wd_22_15 wd_22_5 wd_22_6) rfl rfl rfl qJ13_bitCount_95d88_o ⟨Nat.le_of_ble_eq_true rfl, Nat.le_of_ble_eq_true rfl⟩) (kg_preSR hPc hK hN) rfl rfl hl.1 rfl (lv_room (Nat.le_of_ble_eq_true rfl)) dX2_isCut_6 ⟨Nat.zero_le _, Nat.zero_le _⟩) ?_
  refine lv_iconst (v := 1) hx hb dX2_isCut_9 (by decide) ?_
  refine kg_icmp_le (tgt := 17) hx hb hf dX2_isCut_10 (by decide) (fun hc hf => ?_) (fun hc hf => ?_)
  · refine lv_iconst (v := 0) hx hb dX2_isCut_17 (by decide) ?_
    obtain rfl := Option.some.inj hf
    exact kg_zretR (b := false) hx hb hr hlk rfl rfl dX2_isCut_18
  · refine lv_iconst (v := 1) hx hb dX2_isCut_13 (by decide) ?_
    refine lv_goto (tgt := 18) hx hb dX2_isCut_14 (by decide) ?_
    obtain rfl := Option.some.inj hf
    exact kg_zretR (b := true) hx hb hr hlk rfl rfl dX2_isCut_18
set_option maxHeartbeats 4000000 in
set_option maxRecDepth 100000 in
theorem c_X2_shareRing (l : Launch) (dC : Nat → ClassId) (dI : Nat → Nat → Nat) (cI cJ : ClassId) (A : Nat → Nat) (hq : Heap) (x : PbS) (v1 : Int32) (v2 : Int32) (r0 : Bool) (hf : Pb_m_shareRing x v1 v2 = some r0) : MRi l yX2_shareRing (wAll yX2_shareRing cX2_shareRing 3 (some .boolean)) ({ frames := 1, cells := 0, slots := 0, locals := 40 } : Room) [.ref (A 0), .int v1, .int v2] hq (dC, dI) (vTy cI cJ) (wPb cI cJ A x) (b2i r0) := by
  refine kg_metR (cc := cX2_shareRing) (maxL := 3) (ret := (some .boolean)) (by decide) rfl (Nat.le_of_ble_eq_true rfl) ?_
  intro p e s m args below meth c hx hb hr hts hown hlk hml hH hP hK hN ls hl
  subst hH
  have hl : lv_has ls 3 [(0, .ref (A 0)), (1, .int v1), (2, .int v2)] := hl
  have ww0 := hts (.fieldLink RX2 9 "SafeBlocks$PartBook" "at" "[J") (List.mem_cons_of_mem _ wd_4_10)
  have ww1 := hts (.fieldLink RX2 25 "SafeBlocks$PartBook" "onRings" "J") (List.mem_cons_of_mem _ wd_4_14)
  have hiX2 : ∀ w ∈ u_ws RX2 TX2 7, w ∈ wAll yX2_shareRing cX2_shareRing 3 (some .boolean) := fun w h => List.mem_cons_of_mem _ (inlX2 w h)
  unfold Pb_m_shareRing at hf
  refine lv_aload_n hx hb dX2_shareRing_0 rfl (lv_at hl 0 rfl) ?_
  refine va_get (D := (dC, dI)) (ci := 2) (v := .ref (A 1)) (C := RX2) (T := TX2) (N := 7) hx hb hts hiX2 hown hK hP 0 rfl rfl 0 (by decide) ww0 (fun _ h9 => h9) rfl dX2_shareRing_1 ?_
  refine lv_iload_n hx hb dX2_shareRing_4 rfl (lv_at hl 1 rfl) ?_
  obtain ⟨g5, hv, hf⟩ := ob_bind hf
  refine kg_lald hx hb hK hP 1 1 rfl rfl hv dX2_shareRing_5 ?_
  refine lv_aload_n hx hb dX2_shareRing_6 rfl (lv_at hl 0 rfl) ?_
  refine va_get (D := (dC, dI)) (ci := 2) (v := .ref (A 1)) (C := RX2) (T := TX2) (N := 7) hx hb hts hiX2 hown hK hP 0 rfl rfl 0 (by decide) ww0 (fun _ h9 => h9) rfl dX2_shareRing_7 ?_
  refine lv_iload_n hx hb dX2_shareRing_10 rfl (lv_at hl 2 rfl) ?_
  obtain ⟨g11, hv, hf⟩ := ob_bind hf
  refine kg_lald hx hb hK hP 1 1 rfl rfl hv dX2_shareRing_11 ?_
  refine lv_land hx hb dX2_shareRing_12 ?_
  refine lv_aload_n hx hb dX2_shareRing_13 rfl (lv_at hl 0 rfl) ?_
  refine va_get (D := (dC, dI)) (ci := 2) (v := .long (Pb_onRings x)) (C := RX2) (T := TX2) (N := 7) hx hb hts hiX2 hown hK hP 0 rfl rfl 4 (by decide) ww1 (fun _ h9 => h9) rfl dX2_shareRing_14 ?_
  refine lv_land hx hb dX2_shareRing_17 ?_
  refine lv_lconst (v := 0) hx hb dX2_shareRing_18 (by decide) ?_
  refine W.lcmp hx hb dX2_shareRing_19 ?_
  refine kg_if_eq (tgt := 27) hx hb hf dX2_shareRing_20 (by decide) (fun hc hf => ?_) (fun hc hf => ?_)
  · refine lv_iconst (v := 0) hx hb dX2_shareRing_27 (by decide) ?_
    obtain rfl := Option.some.inj hf
    exact kg_zretR (b := false) hx hb hr hlk rfl rfl dX2_shareRing_28
  · refine lv_iconst (v := 1) hx hb dX2_shareRing_23 (by decide) ?_
    refine lv_goto (tgt := 28) hx hb dX2_shareRing_24 (by decide) ?_
    obtain rfl := Option.some.inj hf
    exact kg_zretR (b := true) hx hb hr hlk rfl rfl dX2_shareRing_28
set_option maxHeartbeats 4000000 in
set_option maxRecDepth 100000 in
theorem c_X2_allCuts (l : Launch) (dC : Nat → ClassId) (dI : Nat → Nat → Nat) (cI cJ : ClassId) (A : Nat → Nat) (hq : Heap) (x : PbS) (r0 : Int32) (hf : Pb_m_allCuts x = some r0) : MRi l yX2_allCuts (wAll yX2_allCuts cX2_allCuts 3 (some .int)) ({ frames := 3, cells := 0, slots := 0, locals := 82 } : Room) [.ref (A 0)] hq (dC, dI) (vTy cI cJ) (wPb cI cJ A x) r0 := by
  refine kg_metR (cc := cX2_allCuts) (maxL := 3) (ret := (some .int)) (by decide) rfl (Nat.le_of_ble_eq_true rfl) ?_
  intro p e s m args below meth c hx hb hr hts hown hlk hml hH hP hK hN ls hl
  subst hH
  have hl : lv_has ls 3 [(0, .ref (A 0))] := hl
  have ww0 := hts (.fieldLink RX2 33 "SafeBlocks$PartBook" "nodes" "I") (List.mem_cons_of_mem _ wd_4_16)
  have hiX2 : ∀ w ∈ u_ws RX2 TX2 7, w ∈ wAll yX2_allCuts cX2_allCuts 3 (some .int) := fun w h => List.mem_cons_of_mem _ (inlX2 w h)
  unfold Pb_m_allCuts at hf
  refine lv_iconst (v := 0) hx hb dX2_allCuts_0 (by decide) ?_
  refine lv_istore_n (lv' := [(1, .int 0), (0, .ref (A 0))]) hx hb dX2_allCuts_1 rfl hl (by decide) rfl (fun ls hl => ?_)
  refine lv_iconst (v := 0) hx hb dX2_allCuts_2 (by decide) ?_
  refine lv_istore_n (lv' := [(2, .int 0), (1, .int 0), (0, .ref (A 0))]) hx hb dX2_allCuts_3 rfl hl (by decide) rfl (fun ls hl => ?_)
  have hlp4 : ∀ (n : Nat) (v1 : Int32) (v2 : Int32), iter (fun p : Int32 × Int32 => Pb_m_allCuts_s4 x p.1 p.2) n (v1, v2) = some r0 → ∀ (ls : Array Slot), lv_has ls 3 [(0, .ref (A 0)), (1, .int v1), (2, .int v2)] → W p l e ({ frames := 3, cells := 0, slots := 0, locals := 82 } : Room) s m args below meth c s.heap [] 0 0 (MQ below (QRi s.heap r0) args s 0 0 NoA) (F0 m 4 ls []) := by
    intro  n
    induction n with
    | zero => intro v1 v2 hf; exact iter_zero hf
    | succ n ih1 =>
      intro v1 v2 hf ls hl
      obtain ⟨q1, hf, hk1⟩ := iter_succ hf
      have hf : Pb_m_allCuts_s4 x v1 v2 = some q1 := hf
      unfold Pb_m_allCuts_s4 at hf
      refine lv_iload_n hx hb dX2_allCuts_4 rfl (lv_at hl 2 rfl) ?_
      refine lv_aload_n hx hb dX2_allCuts_5 rfl (lv_at hl 0 rfl) ?_
      refine va_get (D := (dC, dI)) (ci := 2) (v := .int (Pb_nodes x)) (C := RX2) (T := TX2) (N := 7) hx hb hts hiX2 hown hK hP 0 rfl rfl 6 (by decide) ww0 (fun _ h9 => h9) rfl dX2_allCuts_6 ?_
      refine kg_icmp_ge (tgt := 29) hx hb hf dX2_allCuts_9 (by decide) (fun hc hf => ?_) (fun hc hf => ?_)
      · obtain ⟨qq, hf, hqq⟩ := omap_some hf
        have hkq : qq = r0 := by rw [← hqq] at hk1; exact hk1
        rw [hkq] at hf
        clear hkq hqq
        refine lv_iload_n hx hb dX2_allCuts_29 rfl (lv_at hl 1 rfl) ?_
        obtain rfl := Option.some.inj hf
        exact kg_iretR hx hb hr hlk rfl dX2_allCuts_30
      · refine lv_aload_n hx hb dX2_allCuts_12 rfl (lv_at hl 0 rfl) ?_
        refine lv_iload_n hx hb dX2_allCuts_13 rfl (lv_at hl 2 rfl) ?_
        obtain ⟨g14, hc, hf⟩ := ob_bind hf
        have hPc : va_P (dC, dI) vwCl (wPb cI cJ A x) s.heap := hP
        refine kg_retRi (va_runV (As := [.int v2]) (rest := []) ⟨hx, hb, hml, hown, hts⟩ (c_X2_isCut l dC dI cI cJ A s.heap x v2 _ hc) (cwV 1 hts (gw_V wd_22_14 wd_28_3 wd_22_12 wd_22_13 wd_1_23) rfl rfl rfl qX2_isCut ⟨Nat.le_of_ble_eq_true rfl, Nat.le_of_ble_eq_true rfl⟩) (kg_preVR (ci := 2) (q := (RX2, TX2, 7)) (q0 := 0) hPc hK hN rfl rfl) rfl rfl hl.1 rfl (lv_room (Nat.le_of_ble_eq_true rfl)) dX2_allCuts_14 ⟨Nat.zero_le _, Nat.zero_le _⟩) ?_
        refine kg_b_eq (tgt := 23) hx hb hf dX2_allCuts_17 (by decide) (fun hc hf => ?_) (fun hc hf => ?_)
        · refine lv_iinc (v := (v2 + 1)) (lv' := [(2, .int (v2 + 1)), (0, .ref (A 0)), (1, .int v1)]) hx hb dX2_allCuts_23 hl (k := 2) rfl rfl (by decide) rfl (fun ls hl => ?_)
          refine lv_goto (tgt := 4) hx hb dX2_allCuts_26 (by decide) ?_
          obtain rfl := Option.some.inj hf
          exact ih1 v1 (v2 + 1) hk1 _ (lv_sub hl [1, 2, 0] rfl)
        · refine lv_iinc (v := (v1 + 1)) (lv' := [(1, .int (v1 + 1)), (0, .ref (A 0)), (2, .int v2)]) hx hb dX2_allCuts_20 hl (k := 1) rfl rfl (by decide) rfl (fun ls hl => ?_)
          refine lv_iinc (v := (v2 + 1)) (lv' := [(2, .int (v2 + 1)), (1, .int (v1 + 1)), (0, .ref (A 0))]) hx hb dX2_allCuts_23 hl (k := 2) rfl rfl (by decide) rfl (fun ls hl => ?_)
          refine lv_goto (tgt := 4) hx hb dX2_allCuts_26 (by decide) ?_
          obtain rfl := Option.some.inj hf
          exact ih1 (v1 + 1) (v2 + 1) hk1 _ (lv_sub hl [2, 1, 0] rfl)
  exact hlp4  FU 0 0 hf _ (lv_sub hl [2, 1, 0] rfl)
set_option maxHeartbeats 4000000 in
set_option maxRecDepth 100000 in
theorem c_X2_cutsOf (l : Launch) (dC : Nat → ClassId) (dI : Nat → Nat → Nat) (cI cJ : ClassId) (A : Nat → Nat) (B : Nat → Nat) (hq : Heap) (x : PbS) (M : Nat) (y : NmS) (v2 : Int32) (r0 : Int32) (hf : Pb_m_cutsOf x M y v2 = some r0) : MRi l yX2_cutsOf (wAll yX2_cutsOf cX2_cutsOf 5 (some .int)) ({ frames := 3, cells := 0, slots := 0, locals := 82 } : Room) [.ref (A 0), .ref (B 0), .int v2] hq (dC, dI) (vTy cI cJ) (wPb cI cJ A x ++ (wNm cI cJ M B y)) r0 := by
  refine kg_metR (cc := cX2_cutsOf) (maxL := 5) (ret := (some .int)) (by decide) rfl (Nat.le_of_ble_eq_true rfl) ?_
  intro p e s m args below meth c hx hb hr hts hown hlk hml hH hP hK hN ls hl
  subst hH
  have hl : lv_has ls 5 [(0, .ref (A 0)), (1, .ref (B 0)), (2, .int v2)] := hl
  have ww0 := hts (.fieldLink RX2 33 "SafeBlocks$PartBook" "nodes" "I") (List.mem_cons_of_mem _ wd_4_16)
  have ww1 := hts (.fieldLink RX2 55 "SafeBlocks$Names" "of" "[I") (List.mem_cons_of_mem _ wd_7_6)
  have hiX2 : ∀ w ∈ u_ws RX2 TX2 7, w ∈ wAll yX2_cutsOf cX2_cutsOf 5 (some .int) := fun w h => List.mem_cons_of_mem _ (inlX2 w h)
  have hiX1 : ∀ w ∈ u_ws RX1 TX1 6, w ∈ wAll yX2_cutsOf cX2_cutsOf 5 (some .int) := fun w h => List.mem_cons_of_mem _ (inlX1 w h)
  unfold Pb_m_cutsOf at hf
  refine lv_iconst (v := 0) hx hb dX2_cutsOf_0 (by decide) ?_
  refine lv_istore_n (lv' := [(3, .int 0), (0, .ref (A 0)), (1, .ref (B 0)), (2, .int v2)]) hx hb dX2_cutsOf_1 rfl hl (by decide) rfl (fun ls hl => ?_)
  refine lv_iconst (v := 0) hx hb dX2_cutsOf_2 (by decide) ?_
  refine lv_istore (lv' := [(4, .int 0), (3, .int 0), (0, .ref (A 0)), (1, .ref (B 0)), (2, .int v2)]) hx hb dX2_cutsOf_3 hl (by decide) rfl (fun ls hl => ?_)
  have hlp5 : ∀ (n : Nat) (v3 : Int32) (v4 : Int32), iter (fun p : Int32 × Int32 => Pb_m_cutsOf_s5 x M y v2 p.1 p.2) n (v3, v4) = some r0 → ∀ (ls : Array Slot), lv_has ls 5 [(0, .ref (A 0)), (1, .ref (B 0)), (2, .int v2), (3, .int v3), (4, .int v4)] → W p l e ({ frames := 3, cells := 0, slots := 0, locals := 82 } : Room) s m args below meth c s.heap [] 0 0 (MQ below (QRi s.heap r0) args s 0 0 NoA) (F0 m 5 ls []) := by
    intro  n
    induction n with
    | zero => intro v3 v4 hf; exact iter_zero hf
    | succ n ih1 =>
      intro v3 v4 hf ls hl
      obtain ⟨q1, hf, hk1⟩ := iter_succ hf
      have hf : Pb_m_cutsOf_s5 x M y v2 v3 v4 = some q1 := hf
      unfold Pb_m_cutsOf_s5 at hf
      refine lv_iload hx hb dX2_cutsOf_5 (lv_at hl 4 rfl) ?_
      refine lv_aload_n hx hb dX2_cutsOf_7 rfl (lv_at hl 0 rfl) ?_
      refine va_get (D := (dC, dI)) (ci := 2) (v := .int (Pb_nodes x)) (C := RX2) (T := TX2) (N := 7) hx hb hts hiX2 hown hK hP 0 rfl rfl 6 (by decide) ww0 (fun _ h9 => h9) rfl dX2_cutsOf_8 ?_
      refine kg_icmp_ge (tgt := 43) hx hb hf dX2_cutsOf_11 (by decide) (fun hc hf => ?_) (fun hc hf => ?_)
      · obtain ⟨qq, hf, hqq⟩ := omap_some hf
        have hkq : qq = r0 := by rw [← hqq] at hk1; exact hk1
        rw [hkq] at hf
        clear hkq hqq
        refine lv_iload_n hx hb dX2_cutsOf_43 rfl (lv_at hl 3 rfl) ?_
        obtain rfl := Option.some.inj hf
        exact kg_iretR hx hb hr hlk rfl dX2_cutsOf_44
      · refine lv_aload_n hx hb dX2_cutsOf_14 rfl (lv_at hl 1 rfl) ?_
        refine va_get (D := (dC, dI)) (ci := 1) (v := .ref (B 1)) (C := RX1) (T := TX1) (N := 6) hx hb hts hiX1 hown hK hP 5 rfl rfl 0 (by decide) ww1 (fun _ h9 => h9) rfl dX2_cutsOf_15 ?_
        refine lv_iload hx hb dX2_cutsOf_18 (lv_at hl 4 rfl) ?_
        obtain ⟨g20, hv, hf⟩ := ob_bind hf
        refine kg_iald hx hb hK hP 6 0 rfl rfl hv dX2_cutsOf_20 ?_
        refine lv_iload_n hx hb dX2_cutsOf_21 rfl (lv_at hl 2 rfl) ?_
        refine kg_icmp_ne (tgt := 37) hx hb hf dX2_cutsOf_22 (by decide) (fun hc hf => ?_) (fun hc hf => ?_)
        · refine lv_iinc (v := (v4 + 1)) (lv' := [(4, .int (v4 + 1)), (0, .ref (A 0)), (1, .ref (B 0)), (2, .int v2), (3, .int v3)]) hx hb dX2_cutsOf_37 hl (k := 4) rfl rfl (by decide) rfl (fun ls hl => ?_)
          refine lv_goto (tgt := 5) hx hb dX2_cutsOf_40 (by decide) ?_
          obtain rfl := Option.some.inj hf
          exact ih1 v3 (v4 + 1) hk1 _ (lv_sub hl [1, 2, 3, 4, 0] rfl)
        · refine lv_aload_n hx hb dX2_cutsOf_25 rfl (lv_at hl 0 rfl) ?_
          refine lv_iload hx hb dX2_cutsOf_26 (lv_at hl 4 rfl) ?_
          obtain ⟨g28, hc, hf⟩ := ob_bind hf
          have hPc : va_P (dC, dI) vwCl (wPb cI cJ A x) s.heap := hP.sub [0, 1, 2, 3, 4] rfl
          refine kg_retRi (va_runV (As := [.int v4]) (rest := []) ⟨hx, hb, hml, hown, hts⟩ (c_X2_isCut l dC dI cI cJ A s.heap x v4 _ hc) (cwV 1 hts (gw_V wd_22_14 wd_28_3 wd_22_12 wd_22_13 wd_1_23) rfl rfl rfl qX2_isCut ⟨Nat.le_of_ble_eq_true rfl, Nat.le_of_ble_eq_true rfl⟩) (kg_preVR (ci := 2) (q := (RX2, TX2, 7)) (q0 := 0) hPc hK hN rfl rfl) rfl rfl hl.1 rfl (lv_room (Nat.le_of_ble_eq_true rfl)) dX2_cutsOf_28 ⟨Nat.zero_le _, Nat.zero_le _⟩) ?_
          refine kg_b_eq (tgt := 37) hx hb hf dX2_cutsOf_31 (by decide) (fun hc hf => ?_) (fun hc hf => ?_)
          · refine lv_iinc (v := (v4 + 1)) (lv' := [(4, .int (v4 + 1)), (0, .ref (A 0)), (1, .ref (B 0)), (2, .int v2), (3, .int v3)]) hx hb dX2_cutsOf_37 hl (k := 4) rfl rfl (by decide) rfl (fun ls hl => ?_)
            refine lv_goto (tgt := 5) hx hb dX2_cutsOf_40 (by decide) ?_
            obtain rfl := Option.some.inj hf
            exact ih1 v3 (v4 + 1) hk1 _ (lv_sub hl [1, 2, 3, 4, 0] rfl)
          · refine lv_iinc (v := (v3 + 1)) (lv' := [(3, .int (v3 + 1)), (0, .ref (A 0)), (1, .ref (B 0)), (2, .int v2), (4, .int v4)]) hx hb dX2_cutsOf_34 hl (k := 3) rfl rfl (by decide) rfl (fun ls hl => ?_)
            refine lv_iinc (v := (v4 + 1)) (lv' := [(4, .int (v4 + 1)), (3, .int (v3 + 1)), (0, .ref (A 0)), (1, .ref (B 0)), (2, .int v2)]) hx hb dX2_cutsOf_37 hl (k := 4) rfl rfl (by decide) rfl (fun ls hl => ?_)
            refine lv_goto (tgt := 5) hx hb dX2_cutsOf_40 (by decide) ?_
            obtain rfl := Option.some.inj hf
            exact ih1 (v3 + 1) (v4 + 1) hk1 _ (lv_sub hl [2, 3, 4, 1, 0] rfl)
  exact hlp5  FU 0 0 hf _ (lv_sub hl [2, 3, 4, 1, 0] rfl)
set_option maxHeartbeats 4000000 in
set_option maxRecDepth 100000 in
theorem c_X2_cutsWithin (l : Launch) (dC : Nat → ClassId) (dI : Nat → Nat → Nat) (cI cJ : ClassId) (A : Nat → Nat) (B : Nat → Nat) (hq : Heap) (x : PbS) (M : Nat) (y : NmS) (v2 : Int32) (r0 : Int32) (hf : Pb_m_cutsWithin x M y v2 = some r0) : MRi l yX2_cutsWithin (wAll yX2_cutsWithin cX2_cutsWithin 5 (some .int)) ({ frames := 2, cells := 0, slots := 0, locals := 61 } : Room) [.ref (A 0), .ref (B 0), .int v2] hq (dC, dI) (vTy cI cJ) (wPb cI cJ A x ++ (wNm cI cJ M B y)) r0 := by
  refine kg_metR (cc := cX2_cutsWithin) (maxL := 5) (ret := (some .int)) (by decide) rfl (Nat.le_of_ble_eq_true rfl) ?_
  intro p e s m args below meth c hx hb hr hts hown hlk hml hH hP hK hN ls hl
  subst hH
  have hl : lv_has ls 5 [(0, .ref (A 0)), (1, .ref (B 0)), (2, .int v2)] := hl
  have ww0 := hts (.fieldLink RX2 33 "SafeBlocks$PartBook" "nodes" "I") (List.mem_cons_of_mem _ wd_4_16)
  have ww1 := hts (.fieldLink RX2 55 "SafeBlocks$Names" "of" "[I") (List.mem_cons_of_mem _ wd_7_6)
  have ww2 := hts (.fieldLink RX2 9 "SafeBlocks$PartBook" "at" "[J") (List.mem_cons_of_mem _ wd_4_10)
  have ww3 := hts (.fieldLink RX2 25 "SafeBlocks$PartBook" "onRings" "J") (List.mem_cons_of_mem _ wd_4_14)
  have hiX2 : ∀ w ∈ u_ws RX2 TX2 7, w ∈ wAll yX2_cutsWithin cX2_cutsWithin 5 (some .int) := fun w h => List.mem_cons_of_mem _ (inlX2 w h)
  have hiX1 : ∀ w ∈ u_ws RX1 TX1 6, w ∈ wAll yX2_cutsWithin cX2_cutsWithin 5 (some .int) := fun w h => List.mem_cons_of_mem _ (inlX1 w h)
  unfold Pb_m_cutsWithin at hf
  refine lv_iconst (v := 0) hx hb dX2_cutsWithin_0 (by decide) ?_
  refine lv_istore_n (lv' := [(3, .int 0), (0, .ref (A 0)), (1, .ref (B 0)), (2, .int v2)]) hx hb dX2_cutsWithin_1 rfl hl (by decide) rfl (fun ls hl => ?_)
  refine lv_iconst (v := 0) hx hb dX2_cutsWithin_2 (by decide) ?_
  refine lv_istore (lv' := [(4, .int 0), (3, .int 0), (0, .ref (A 0)), (1, .ref (B 0)), (2, .int v2)]) hx hb dX2_cutsWithin_3 hl (by decide) rfl (fun ls hl => ?_)
  have hlp5 : ∀ (n : Nat) (v3 : Int32) (v4 : Int32), iter (fun p : Int32 × Int32 => Pb_m_cutsWithin_s5 x M y v2 p.1 p.2) n (v3, v4) = some r0 → ∀ (ls : Array Slot), lv_has ls 5 [(0, .ref (A 0)), (1, .ref (B 0)), (2, .int v2), (3, .int v3), (4, .int v4)] → W p l e ({ frames := 2, cells := 0, slots := 0, locals := 61 } : Room) s m args below meth c s.heap [] 0 0 (MQ below (QRi s.heap r0) args s 0 0 NoA) (F0 m 5 ls []) := by
    intro  n
    induction n with
    | zero => intro v3 v4 hf; exact iter_zero hf
    | succ n ih1 =>
      intro v3 v4 hf ls hl
      obtain ⟨q1, hf, hk1⟩ := iter_succ hf
      have hf : Pb_m_cutsWithin_s5 x M y v2 v3 v4 = some q1 := hf
      unfold Pb_m_cutsWithin_s5 at hf
      refine lv_iload hx hb dX2_cutsWithin_5 (lv_at hl 4 rfl) ?_
      refine lv_aload_n hx hb dX2_cutsWithin_7 rfl (lv_at hl 0 rfl) ?_
      refine va_get (D := (dC, dI)) (ci := 2) (v := .int (Pb_nodes x)) (C := RX2) (T := TX2) (N := 7) hx hb hts hiX2 hown hK hP 0 rfl rfl 6 (by decide) ww0 (fun _ h9 => h9) rfl dX2_cutsWithin_8 ?_
      refine kg_icmp_ge (tgt := 53) hx hb hf dX2_cutsWithin_11 (by decide) (fun hc hf => ?_) (fun hc hf => ?_)
      · obtain ⟨qq, hf, hqq⟩ := omap_some hf
        have hkq : qq = r0 := by rw [← hqq] at hk1; exact hk1
        rw [hkq] at hf
        clear hkq hqq
        refine lv_iload_n hx hb dX2_cutsWithin_53 rfl (lv_at hl 3 rfl) ?_
        obtain rfl := Option.some.inj hf
        exact kg_iretR hx hb hr hlk rfl dX2_cutsWithin_54
      · refine lv_aload_n hx hb dX2_cutsWithin_14 rfl (lv_at hl 1 rfl) ?_
        refine va_get (D := (dC, dI)) (ci := 1) (v := .ref (B 1)) (C := RX1) (T := TX1) (N := 6) hx hb hts hiX1 hown hK hP 5 rfl rfl 0 (by decide) ww1 (fun _ h9 => h9) rfl dX2_cutsWithin_15 ?_
        refine lv_iload hx hb dX2_cutsWithin_18 (lv_at hl 4 rfl) ?_
        obtain ⟨g20, hv, hf⟩ := ob_bind hf
        refine kg_iald hx hb hK hP 6 0 rfl rfl hv dX2_cutsWithin_20 ?_
        refine lv_iload_n hx hb dX2_cutsWithin_21 rfl (lv_at hl 2 rfl) ?_
        refine kg_icmp_ne (tgt := 47) hx hb hf dX2_cutsWithin_22 (by decide) (fun hc hf => ?_) (fun hc hf => ?_)
        · refine lv_iinc (v := (v4 + 1)) (lv' := [(4, .int (v4 + 1)), (0, .ref (A 0)), (1, .ref (B 0)), (2, .int v2), (3, .int v3)]) hx hb dX2_cutsWithin_47 hl (k := 4) rfl rfl (by decide) rfl (fun ls hl => ?_)
          refine lv_goto (tgt := 5) hx hb dX2_cutsWithin_50 (by decide) ?_
          obtain rfl := Option.some.inj hf
          exact ih1 v3 (v4 + 1) hk1 _ (lv_sub hl [1, 2, 3, 4, 0] rfl)
        · refine lv_aload_n hx hb dX2_cutsWithin_25 rfl (lv_at hl 0 rfl) ?_
          refine va_get (D := (dC, dI)) (ci := 2) (v := .ref (A 1)) (C := RX2) (T := TX2) (N := 7) hx hb hts hiX2 hown hK hP 0 rfl rfl 0 (by decide) ww2 (fun _ h9 => h9) rfl dX2_cutsWithin_26 ?_
          refine lv_iload hx hb dX2_cutsWithin_29 (lv_at hl 4 rfl) ?_
          obtain ⟨g31, hv, hf⟩ := ob_bind hf
          refine kg_lald hx hb hK hP 1 1 rfl rfl hv dX2_cutsWithin_31 ?_
          refine lv_aload_n hx hb dX2_cutsWithin_32 rfl (lv_at hl 0 rfl) ?_
          refine va_get (D := (dC, dI)) (ci := 2) (v := .long (Pb_onRings x)) (C := RX2) (T := TX2) (N := 7) hx hb hts hiX2 hown hK hP 0 rfl rfl 4 (by decide) ww3 (fun _ h9 => h9) rfl dX2_cutsWithin_33 ?_
          refine lv_land hx hb dX2_cutsWithin_36 ?_
          obtain ⟨g37, hc, hf⟩ := ob_bind hf
          have hPc : va_P (dC, dI) vwCl ([] : va_W) s.heap := fun k q h => by cases h
          refine kg_retRi (va_runS (As := [.long (g31 &&& (Pb_onRings x))]) (rest := []) ⟨hx, hb, hml, hown, hts⟩ (c_J13_bitCount l dC dI cI cJ  s.heap (g31 &&& (Pb_onRings x)) _ hc) (va_cwS 1 hts (gw_X wd_22_7 wd_22_15 wd_22_5 wd_22_6) rfl rfl rfl qJ13_bitCount_95d88_o ⟨Nat.le_of_ble_eq_true rfl, Nat.le_of_ble_eq_true rfl⟩) (kg_preSR hPc hK hN) rfl rfl hl.1 rfl (lv_room (Nat.le_of_ble_eq_true rfl)) dX2_cutsWithin_37 ⟨Nat.zero_le _, Nat.zero_le _⟩) ?_
          refine lv_iconst (v := 1) hx hb dX2_cutsWithin_40 (by decide) ?_
          refine kg_icmp_le (tgt := 47) hx hb hf dX2_cutsWithin_41 (by decide) (fun hc hf => ?_) (fun hc hf => ?_)
          · refine lv_iinc (v := (v4 + 1)) (lv' := [(4, .int (v4 + 1)), (0, .ref (A 0)), (1, .ref (B 0)), (2, .int v2), (3, .int v3)]) hx hb dX2_cutsWithin_47 hl (k := 4) rfl rfl (by decide) rfl (fun ls hl => ?_)
            refine lv_goto (tgt := 5) hx hb dX2_cutsWithin_50 (by decide) ?_
            obtain rfl := Option.some.inj hf
            exact ih1 v3 (v4 + 1) hk1 _ (lv_sub hl [1, 2, 3, 4, 0] rfl)
          · refine lv_iinc (v := (v3 + 1)) (lv' := [(3, .int (v3 + 1)), (0, .ref (A 0)), (1, .ref (B 0)), (2, .int v2), (4, .int v4)]) hx hb dX2_cutsWithin_44 hl (k := 3) rfl rfl (by decide) rfl (fun ls hl => ?_)
            refine lv_iinc (v := (v4 + 1)) (lv' := [(4, .int (v4 + 1)), (3, .int (v3 + 1)), (0, .ref (A 0)), (1, .ref (B 0)), (2, .int v2)]) hx hb dX2_cutsWithin_47 hl (k := 4) rfl rfl (by decide) rfl (fun ls hl => ?_)
            refine lv_goto (tgt := 5) hx hb dX2_cutsWithin_50 (by decide) ?_
            obtain rfl := Option.some.inj hf
            exact ih1 (v3 + 1) (v4 + 1) hk1 _ (lv_sub hl [2, 3, 4, 1, 0] rfl)
  exact hlp5  FU 0 0 hf _ (lv_sub hl [2, 3, 4, 1, 0] rfl)
set_option maxHeartbeats 4000000 in
set_option maxRecDepth 100000 in
theorem c_X2_allAt (l : Launch) (dC : Nat → ClassId) (dI : Nat → Nat → Nat) (cI cJ : ClassId) (A : Nat → Nat) (B : Nat → Nat) (hq : Heap) (x : PbS) (M : Nat) (y : NmS) (v2 : Int32) (r0 : Int64) (hf : Pb_m_allAt x M y v2 = some r0) : MRj l yX2_allAt (wAll yX2_allAt cX2_allAt 6 (some .long)) ({ frames := 1, cells := 0, slots := 0, locals := 40 } : Room) [.ref (A 0), .ref (B 0), .int v2] hq (dC, dI) (vTy cI cJ) (wPb cI cJ A x ++ (wNm cI cJ M B y)) r0 := by
  refine kg_metR (cc := cX2_allAt) (maxL := 6) (ret := (some .long)) (by decide) rfl (Nat.le_of_ble_eq_true rfl) ?_
  intro p e s m args below meth c hx hb hr hts hown hlk hml hH hP hK hN ls hl
  subst hH
  have hl : lv_has ls 6 [(0, .ref (A 0)), (1, .ref (B 0)), (2, .int v2)] := hl
  have ww0 := hts (.fieldLink RX2 33 "SafeBlocks$PartBook" "nodes" "I") (List.mem_cons_of_mem _ wd_4_16)
  have ww1 := hts (.fieldLink RX2 55 "SafeBlocks$Names" "of" "[I") (List.mem_cons_of_mem _ wd_7_6)
  have ww2 := hts (.fieldLink RX2 9 "SafeBlocks$PartBook" "at" "[J") (List.mem_cons_of_mem _ wd_4_10)
  have hiX2 : ∀ w ∈ u_ws RX2 TX2 7, w ∈ wAll yX2_allAt cX2_allAt 6 (some .long) := fun w h => List.mem_cons_of_mem _ (inlX2 w h)
  have hiX1 : ∀ w ∈ u_ws RX1 TX1 6, w ∈ wAll yX2_allAt cX2_allAt 6 (some .long) := fun w h => List.mem_cons_of_mem _ (inlX1 w h)
  unfold Pb_m_allAt at hf
  refine lv_lconst (v := 0) hx hb dX2_allAt_0 (by decide) ?_
  refine lv_lstore_n (lv' := [(3, .long 0), (0, .ref (A 0)), (1, .ref (B 0)), (2, .int v2)]) hx hb dX2_allAt_1 rfl hl (by decide) rfl (fun ls hl => ?_)
  refine lv_iconst (v := 0) hx hb dX2_allAt_2 (by decide) ?_
  refine lv_istore (lv' := [(5, .int 0), (3, .long 0), (0, .ref (A 0)), (1, .ref (B 0)), (2, .int v2)]) hx hb dX2_allAt_3 hl (by decide) rfl (fun ls hl => ?_)
  have hlp5 : ∀ (n : Nat) (v3 : Int64) (v5 : Int32), iter (fun p : Int64 × Int32 => Pb_m_allAt_s5 x M y v2 p.1 p.2) n (v3, v5) = some r0 → ∀ (ls : Array Slot), lv_has ls 6 [(0, .ref (A 0)), (1, .ref (B 0)), (2, .int v2), (3, .long v3), (5, .int v5)] → W p l e ({ frames := 1, cells := 0, slots := 0, locals := 40 } : Room) s m args below meth c s.heap [] 0 0 (MQ below (QRj s.heap r0) args s 0 0 NoA) (F0 m 5 ls []) := by
    intro  n
    induction n with
    | zero => intro v3 v5 hf; exact iter_zero hf
    | succ n ih1 =>
      intro v3 v5 hf ls hl
      obtain ⟨q1, hf, hk1⟩ := iter_succ hf
      have hf : Pb_m_allAt_s5 x M y v2 v3 v5 = some q1 := hf
      unfold Pb_m_allAt_s5 at hf
      refine lv_iload hx hb dX2_allAt_5 (lv_at hl 4 rfl) ?_
      refine lv_aload_n hx hb dX2_allAt_7 rfl (lv_at hl 0 rfl) ?_
      refine va_get (D := (dC, dI)) (ci := 2) (v := .int (Pb_nodes x)) (C := RX2) (T := TX2) (N := 7) hx hb hts hiX2 hown hK hP 0 rfl rfl 6 (by decide) ww0 (fun _ h9 => h9) rfl dX2_allAt_8 ?_
      refine kg_icmp_ge (tgt := 41) hx hb hf dX2_allAt_11 (by decide) (fun hc hf => ?_) (fun hc hf => ?_)
      · obtain ⟨qq, hf, hqq⟩ := omap_some hf
        have hkq : qq = r0 := by rw [← hqq] at hk1; exact hk1
        rw [hkq] at hf
        clear hkq hqq
        refine lv_lload_n hx hb dX2_allAt_41 rfl (lv_at hl 3 rfl) ?_
        obtain rfl := Option.some.inj hf
        exact kg_lretR hx hb hr hlk rfl dX2_allAt_42
      · refine lv_aload_n hx hb dX2_allAt_14 rfl (lv_at hl 1 rfl) ?_
        refine va_get (D := (dC, dI)) (ci := 1) (v := .ref (B 1)) (C := RX1) (T := TX1) (N := 6) hx hb hts hiX1 hown hK hP 5 rfl rfl 0 (by decide) ww1 (fun _ h9 => h9) rfl dX2_allAt_15 ?_
        refine lv_iload hx hb dX2_allAt_18 (lv_at hl 4 rfl) ?_
        obtain ⟨g20, hv, hf⟩ := ob_bind hf
        refine kg_iald hx hb hK hP 6 0 rfl rfl hv dX2_allAt_20 ?_
        refine lv_iload_n hx hb dX2_allAt_21 rfl (lv_at hl 2 rfl) ?_
        refine kg_icmp_ne (tgt := 35) hx hb hf dX2_allAt_22 (by decide) (fun hc hf => ?_) (fun hc hf => ?_)
        · refine lv_iinc (v := (v5 + 1)) (lv' := [(5, .int (v5 + 1)), (0, .ref (A 0)), (1, .ref (B 0)), (2, .int v2), (3, .long v3)]) hx hb dX2_allAt_35 hl (k := 4) rfl rfl (by decide) rfl (fun ls hl => ?_)
          refine lv_goto (tgt := 5) hx hb dX2_allAt_38 (by decide) ?_
          obtain rfl := Option.some.inj hf
          exact ih1 v3 (v5 + 1) hk1 _ (lv_sub hl [1, 2, 3, 4, 0] rfl)
        · refine lv_lload_n hx hb dX2_allAt_25 rfl (lv_at hl 3 rfl) ?_
          refine lv_aload_n hx hb dX2_allAt_26 rfl (lv_at hl 0 rfl) ?_
          refine va_get (D := (dC, dI)) (ci := 2) (v := .ref (A 1)) (C := RX2) (T := TX2) (N := 7) hx hb hts hiX2 hown hK hP 0 rfl rfl 0 (by decide) ww2 (fun _ h9 => h9) rfl dX2_allAt_27 ?_
          refine lv_iload hx hb dX2_allAt_30 (lv_at hl 4 rfl) ?_
          obtain ⟨g32, hv, hf⟩ := ob_bind hf
          refine kg_lald hx hb hK hP 1 1 rfl rfl hv dX2_allAt_32 ?_
          refine lv_lor hx hb dX2_allAt_33 ?_
          refine lv_lstore_n (lv' := [(3, .long (v3 ||| g32)), (0, .ref (A 0)), (1, .ref (B 0)), (2, .int v2), (5, .int v5)]) hx hb dX2_allAt_34 rfl hl (by decide) rfl (fun ls hl => ?_)
          refine lv_iinc (v := (v5 + 1)) (lv' := [(5, .int (v5 + 1)), (3, .long (v3 ||| g32)), (0, .ref (A 0)), (1, .ref (B 0)), (2, .int v2)]) hx hb dX2_allAt_35 hl (k := 4) rfl rfl (by decide) rfl (fun ls hl => ?_)
          refine lv_goto (tgt := 5) hx hb dX2_allAt_38 (by decide) ?_
          obtain rfl := Option.some.inj hf
          exact ih1 (v3 ||| g32) (v5 + 1) hk1 _ (lv_sub hl [2, 3, 4, 1, 0] rfl)
  exact hlp5  FU 0 0 hf _ (lv_sub hl [2, 3, 4, 1, 0] rfl)
set_option maxHeartbeats 4000000 in
set_option maxRecDepth 100000 in
theorem c_X2_nodesAt (l : Launch) (dC : Nat → ClassId) (dI : Nat → Nat → Nat) (cI cJ : ClassId) (A : Nat → Nat) (hq : Heap) (x : PbS) (v1 : Int32) (r0 : Int32) (hf : Pb_m_nodesAt x v1 = some r0) : MRi l yX2_nodesAt (wAll yX2_nodesAt cX2_nodesAt 4 (some .int)) ({ frames := 2, cells := 0, slots := 0, locals := 62 } : Room) [.ref (A 0), .int v1] hq (dC, dI) (vTy cI cJ) (wPb cI cJ A x) r0 := by
  refine kg_metR (cc := cX2_nodesAt) (maxL := 4) (ret := (some .int)) (by decide) rfl (Nat.le_of_ble_eq_true rfl) ?_
  intro p e s m args below meth c hx hb hr hts hown hlk hml hH hP hK hN ls hl
  subst hH
  have hl : lv_has ls 4 [(0, .ref (A 0)), (1, .int v1)] := hl
  have ww0 := hts (.fieldLink RX2 33 "SafeBlocks$PartBook" "nodes" "I") (List.mem_cons_of_mem _ wd_4_16)
  have ww1 := hts (.fieldLink RX2 9 "SafeBlocks$PartBook" "at" "[J") (List.mem_cons_of_mem _ wd_4_10)
  have ww2 := hts (.initialized RX5) (List.mem_cons_of_mem _ wd_1_2)
  have ww3 := hts (.static yX5_holds) (List.mem_cons_of_mem _ wd_11_6)
  have hiX2 : ∀ w ∈ u_ws RX2 TX2 7, w ∈ wAll yX2_nodesAt cX2_nodesAt 4 (some .int) := fun w h => List.mem_cons_of_mem _ (inlX2 w h)
  unfold Pb_m_nodesAt at hf
  refine lv_iconst (v := 0) hx hb dX2_nodesAt_0 (by decide) ?_
  refine lv_istore_n (lv' := [(2, .int 0), (0, .ref (A 0)), (1, .int v1)]) hx hb dX2_nodesAt_1 rfl hl (by decide) rfl (fun ls hl => ?_)
  refine lv_iconst (v := 0) hx hb dX2_nodesAt_2 (by decide) ?_
  refine lv_istore_n (lv' := [(3, .int 0), (2, .int 0), (0, .ref (A 0)), (1, .int v1)]) hx hb dX2_nodesAt_3 rfl hl (by decide) rfl (fun ls hl => ?_)
  have hlp4 : ∀ (n : Nat) (v2 : Int32) (v3 : Int32), iter (fun p : Int32 × Int32 => Pb_m_nodesAt_s4 x v1 p.1 p.2) n (v2, v3) = some r0 → ∀ (ls : Array Slot), lv_has ls 4 [(0, .ref (A 0)), (1, .int v1), (2, .int v2), (3, .int v3)] → W p l e ({ frames := 2, cells := 0, slots := 0, locals := 62 } : Room) s m args below meth c s.heap [] 0 0 (MQ below (QRi s.heap r0) args s 0 0 NoA) (F0 m 4 ls []) := by
    intro  n
    induction n with
    | zero => intro v2 v3 hf; exact iter_zero hf
    | succ n ih1 =>
      intro v2 v3 hf ls hl
      obtain ⟨q1, hf, hk1⟩ := iter_succ hf
      have hf : Pb_m_nodesAt_s4 x v1 v2 v3 = some q1 := hf
      unfold Pb_m_nodesAt_s4 at hf
      refine lv_iload_n hx hb dX2_nodesAt_4 rfl (lv_at hl 3 rfl) ?_
      refine lv_aload_n hx hb dX2_nodesAt_5 rfl (lv_at hl 0 rfl) ?_
      refine va_get (D := (dC, dI)) (ci := 2) (v := .int (Pb_nodes x)) (C := RX2) (T := TX2) (N := 7) hx hb hts hiX2 hown hK hP 0 rfl rfl 6 (by decide) ww0 (fun _ h9 => h9) rfl dX2_nodesAt_6 ?_
      refine kg_icmp_ge (tgt := 34) hx hb hf dX2_nodesAt_9 (by decide) (fun hc hf => ?_) (fun hc hf => ?_)
      · obtain ⟨qq, hf, hqq⟩ := omap_some hf
        have hkq : qq = r0 := by rw [← hqq] at hk1; exact hk1
        rw [hkq] at hf
        clear hkq hqq
        refine lv_iload_n hx hb dX2_nodesAt_34 rfl (lv_at hl 2 rfl) ?_
        obtain rfl := Option.some.inj hf
        exact kg_iretR hx hb hr hlk rfl dX2_nodesAt_35
      · refine lv_aload_n hx hb dX2_nodesAt_12 rfl (lv_at hl 0 rfl) ?_
        refine va_get (D := (dC, dI)) (ci := 2) (v := .ref (A 1)) (C := RX2) (T := TX2) (N := 7) hx hb hts hiX2 hown hK hP 0 rfl rfl 0 (by decide) ww1 (fun _ h9 => h9) rfl dX2_nodesAt_13 ?_
        refine lv_iload_n hx hb dX2_nodesAt_16 rfl (lv_at hl 3 rfl) ?_
        obtain ⟨g17, hv, hf⟩ := ob_bind hf
        refine kg_lald hx hb hK hP 1 1 rfl rfl hv dX2_nodesAt_17 ?_
        refine lv_iload_n hx hb dX2_nodesAt_18 rfl (lv_at hl 1 rfl) ?_
        obtain ⟨g19, hc, hf⟩ := ob_bind hf
        have hPc : va_P (dC, dI) vwCl ([] : va_W) s.heap := fun k q h => by cases h
        refine kg_retRi (va_runSN (As := [.long g17, .int v1]) (rest := []) ⟨hx, hb, hml, hown, hts⟩ (c_X5_holds l dC dI cI cJ  s.heap g17 v1 _ hc) (⟨va_cnB 2 hts (gw_A wd_11_7) rfl rfl rfl hN.2.2.1 ww2 qX5_holds_n ⟨Nat.le_of_ble_eq_true rfl, Nat.le_of_ble_eq_true rfl⟩, ww3, trivial⟩) (kg_preSR hPc hK hN) rfl rfl hl.1 rfl (lv_room (Nat.le_of_ble_eq_true rfl)) dX2_nodesAt_19 ⟨Nat.zero_le _, Nat.zero_le _⟩) ?_
        refine kg_b_eq (tgt := 28) hx hb hf dX2_nodesAt_22 (by decide) (fun hc hf => ?_) (fun hc hf => ?_)
        · refine lv_iinc (v := (v3 + 1)) (lv' := [(3, .int (v3 + 1)), (0, .ref (A 0)), (1, .int v1), (2, .int v2)]) hx hb dX2_nodesAt_28 hl (k := 3) rfl rfl (by decide) rfl (fun ls hl => ?_)
          refine lv_goto (tgt := 4) hx hb dX2_nodesAt_31 (by decide) ?_
          obtain rfl := Option.some.inj hf
          exact ih1 v2 (v3 + 1) hk1 _ (lv_sub hl [1, 2, 3, 0] rfl)
        · refine lv_iinc (v := (v2 + 1)) (lv' := [(2, .int (v2 + 1)), (0, .ref (A 0)), (1, .int v1), (3, .int v3)]) hx hb dX2_nodesAt_25 hl (k := 2) rfl rfl (by decide) rfl (fun ls hl => ?_)
          refine lv_iinc (v := (v3 + 1)) (lv' := [(3, .int (v3 + 1)), (2, .int (v2 + 1)), (0, .ref (A 0)), (1, .int v1)]) hx hb dX2_nodesAt_28 hl (k := 3) rfl rfl (by decide) rfl (fun ls hl => ?_)
          refine lv_goto (tgt := 4) hx hb dX2_nodesAt_31 (by decide) ?_
          obtain rfl := Option.some.inj hf
          exact ih1 (v2 + 1) (v3 + 1) hk1 _ (lv_sub hl [2, 3, 1, 0] rfl)
  exact hlp4  FU 0 0 hf _ (lv_sub hl [2, 3, 1, 0] rfl)
set_option maxHeartbeats 4000000 in
set_option maxRecDepth 100000 in
theorem c_X2_ringPairs (l : Launch) (dC : Nat → ClassId) (dI : Nat → Nat → Nat) (cI cJ : ClassId) (A : Nat → Nat) (hq : Heap) (x : PbS) (r0 : Int32) (hf : Pb_m_ringPairs x = some r0) : MRi l yX2_ringPairs (wAll yX2_ringPairs cX2_ringPairs 4 (some .int)) ({ frames := 2, cells := 0, slots := 0, locals := 62 } : Room) [.ref (A 0)] hq (dC, dI) (vTy cI cJ) (wPb cI cJ A x) r0 := by
  refine kg_metR (cc := cX2_ringPairs) (maxL := 4) (ret := (some .int)) (by decide) rfl (Nat.le_of_ble_eq_true rfl) ?_
  intro p e s m args below meth c hx hb hr hts hown hlk hml hH hP hK hN ls hl
  subst hH
  have hl : lv_has ls 4 [(0, .ref (A 0))] := hl
  have ww0 := hts (.fieldLink RX2 33 "SafeBlocks$PartBook" "nodes" "I") (List.mem_cons_of_mem _ wd_4_16)
  have hiX2 : ∀ w ∈ u_ws RX2 TX2 7, w ∈ wAll yX2_ringPairs cX2_ringPairs 4 (some .int) := fun w h => List.mem_cons_of_mem _ (inlX2 w h)
  unfold Pb_m_ringPairs at hf
  refine lv_iconst (v := 0) hx hb dX2_ringPairs_0 (by decide) ?_
  refine lv_istore_n (lv' := [(1, .int 0), (0, .ref (A 0))]) hx hb dX2_ringPairs_1 rfl hl (by decide) rfl (fun ls hl => ?_)
  refine lv_iconst (v := 0) hx hb dX2_ringPairs_2 (by decide) ?_
  refine lv_istore_n (lv' := [(2, .int 0), (1, .int 0), (0, .ref (A 0))]) hx hb dX2_ringPairs_3 rfl hl (by decide) rfl (fun ls hl => ?_)
  have hlp4 : ∀ (n : Nat) (v1 : Int32) (v2 : Int32), iter (fun p : Int32 × Int32 => Pb_m_ringPairs_s4 x p.1 p.2) n (v1, v2) = some r0 → ∀ (ls : Array Slot), lv_has ls 4 [(0, .ref (A 0)), (1, .int v1), (2, .int v2)] → W p l e ({ frames := 2, cells := 0, slots := 0, locals := 62 } : Room) s m args below meth c s.heap [] 0 0 (MQ below (QRi s.heap r0) args s 0 0 NoA) (F0 m 4 ls []) := by
    intro  n
    induction n with
    | zero => intro v1 v2 hf; exact iter_zero hf
    | succ n ih1 =>
      intro v1 v2 hf ls hl
      obtain ⟨q1, hf, hk1⟩ := iter_succ hf
      have hf : Pb_m_ringPairs_s4 x v1 v2 = some q1 := hf
      unfold Pb_m_ringPairs_s4 at hf
      refine lv_iload_n hx hb dX2_ringPairs_4 rfl (lv_at hl 2 rfl) ?_
      refine lv_aload_n hx hb dX2_ringPairs_5 rfl (lv_at hl 0 rfl) ?_
      refine va_get (D := (dC, dI)) (ci := 2) (v := .int (Pb_nodes x)) (C := RX2) (T := TX2) (N := 7) hx hb hts hiX2 hown hK hP 0 rfl rfl 6 (by decide) ww0 (fun _ h9 => h9) rfl dX2_ringPairs_6 ?_
      refine kg_icmp_ge (tgt := 48) hx hb hf dX2_ringPairs_9 (by decide) (fun hc hf => ?_) (fun hc hf => ?_)
      · obtain ⟨qq, hf, hqq⟩ := omap_some hf
        have hkq : qq = r0 := by rw [← hqq] at hk1; exact hk1
        rw [hkq] at hf
        clear hkq hqq
        refine lv_iload_n hx hb dX2_ringPairs_48 rfl (lv_at hl 1 rfl) ?_
        obtain rfl := Option.some.inj hf
        exact kg_iretR hx hb hr hlk rfl dX2_ringPairs_49
      · refine lv_iload_n hx hb dX2_ringPairs_12 rfl (lv_at hl 2 rfl) ?_
        refine lv_iconst (v := 1) hx hb dX2_ringPairs_13 (by decide) ?_
        refine lv_iadd hx hb dX2_ringPairs_14 ?_
        refine lv_istore_n (lv' := [(3, .int (v2 + 1)), (0, .ref (A 0)), (1, .int v1), (2, .int v2)]) hx hb dX2_ringPairs_15 rfl hl (by decide) rfl (fun ls hl => ?_)
        have hlp16 : ∀ (v2 : Int32), ∀ (n : Nat) (v1 : Int32) (v3 : Int32), iter (fun p : Int32 × Int32 => Pb_m_ringPairs_s16 x v2 p.1 p.2) n (v1, v3) = some q1 → ∀ (ls : Array Slot), lv_has ls 4 [(0, .ref (A 0)), (1, .int v1), (2, .int v2), (3, .int v3)] → W p l e ({ frames := 2, cells := 0, slots := 0, locals := 62 } : Room) s m args below meth c s.heap [] 0 0 (MQ below (QRi s.heap r0) args s 0 0 NoA) (F0 m 16 ls []) := by
          intro v2 n
          induction n with
          | zero => intro v1 v3 hf; exact iter_zero hf
          | succ n ih2 =>
            intro v1 v3 hf ls hl
            obtain ⟨q2, hf, hk2⟩ := iter_succ hf
            have hf : Pb_m_ringPairs_s16 x v2 v1 v3 = some q2 := hf
            unfold Pb_m_ringPairs_s16 at hf
            refine lv_iload_n hx hb dX2_ringPairs_16 rfl (lv_at hl 3 rfl) ?_
            refine lv_aload_n hx hb dX2_ringPairs_17 rfl (lv_at hl 0 rfl) ?_
            refine va_get (D := (dC, dI)) (ci := 2) (v := .int (Pb_nodes x)) (C := RX2) (T := TX2) (N := 7) hx hb hts hiX2 hown hK hP 0 rfl rfl 6 (by decide) ww0 (fun _ h9 => h9) rfl dX2_ringPairs_18 ?_
            refine kg_icmp_ge (tgt := 42) hx hb hf dX2_ringPairs_21 (by decide) (fun hc hf => ?_) (fun hc hf => ?_)
            · obtain ⟨qq, hf, hqq⟩ := omap_some hf
              have hkq : qq = q1 := by rw [← hqq] at hk2; exact hk2
              rw [hkq] at hf
              clear hkq hqq
              refine lv_iinc (v := (v2 + 1)) (lv' := [(2, .int (v2 + 1)), (0, .ref (A 0)), (1, .int v1), (3, .int v3)]) hx hb dX2_ringPairs_42 hl (k := 2) rfl rfl (by decide) rfl (fun ls hl => ?_)
              refine lv_goto (tgt := 4) hx hb dX2_ringPairs_45 (by decide) ?_
              obtain rfl := Option.some.inj hf
              exact ih1 v1 (v2 + 1) hk1 _ (lv_sub hl [1, 2, 0] rfl)
            · refine lv_aload_n hx hb dX2_ringPairs_24 rfl (lv_at hl 0 rfl) ?_
              refine lv_iload_n hx hb dX2_ringPairs_25 rfl (lv_at hl 2 rfl) ?_
              refine lv_iload_n hx hb dX2_ringPairs_26 rfl (lv_at hl 3 rfl) ?_
              obtain ⟨g27, hc, hf⟩ := ob_bind hf
              have hPc : va_P (dC, dI) vwCl (wPb cI cJ A x) s.heap := hP
              refine kg_retRi (va_runV (As := [.int v2, .int v3]) (rest := []) ⟨hx, hb, hml, hown, hts⟩ (c_X2_shareRing l dC dI cI cJ A s.heap x v2 v3 _ hc) (cwV 2 hts (gw_V wd_32_22 wd_44_9 wd_32_20 wd_32_21 wd_1_23) rfl rfl rfl qX2_shareRing ⟨Nat.le_of_ble_eq_true rfl, Nat.le_of_ble_eq_true rfl⟩) (kg_preVR (ci := 2) (q := (RX2, TX2, 7)) (q0 := 0) hPc hK hN rfl rfl) rfl rfl hl.1 rfl (lv_room (Nat.le_of_ble_eq_true rfl)) dX2_ringPairs_27 ⟨Nat.zero_le _, Nat.zero_le _⟩) ?_
              refine kg_b_eq (tgt := 36) hx hb hf dX2_ringPairs_30 (by decide) (fun hc hf => ?_) (fun hc hf => ?_)
              · refine lv_iinc (v := (v3 + 1)) (lv' := [(3, .int (v3 + 1)), (0, .ref (A 0)), (1, .int v1), (2, .int v2)]) hx hb dX2_ringPairs_36 hl (k := 3) rfl rfl (by decide) rfl (fun ls hl => ?_)
                refine lv_goto (tgt := 16) hx hb dX2_ringPairs_39 (by decide) ?_
                obtain rfl := Option.some.inj hf
                exact ih2 v1 (v3 + 1) hk2 _ (lv_sub hl [1, 2, 3, 0] rfl)
              · refine lv_iinc (v := (v1 + 1)) (lv' := [(1, .int (v1 + 1)), (0, .ref (A 0)), (2, .int v2), (3, .int v3)]) hx hb dX2_ringPairs_33 hl (k := 1) rfl rfl (by decide) rfl (fun ls hl => ?_)
                refine lv_iinc (v := (v3 + 1)) (lv' := [(3, .int (v3 + 1)), (1, .int (v1 + 1)), (0, .ref (A 0)), (2, .int v2)]) hx hb dX2_ringPairs_36 hl (k := 3) rfl rfl (by decide) rfl (fun ls hl => ?_)
                refine lv_goto (tgt := 16) hx hb dX2_ringPairs_39 (by decide) ?_
                obtain rfl := Option.some.inj hf
                exact ih2 (v1 + 1) (v3 + 1) hk2 _ (lv_sub hl [2, 1, 3, 0] rfl)
        exact hlp16 v2 FU v1 (v2 + 1) hf _ (lv_sub hl [1, 2, 3, 0] rfl)
  exact hlp4  FU 0 0 hf _ (lv_sub hl [2, 1, 0] rfl)
set_option maxHeartbeats 4000000 in
set_option maxRecDepth 100000 in
theorem c_X3_spread (l : Launch) (dC : Nat → ClassId) (dI : Nat → Nat → Nat) (cI cJ : ClassId) (A : Nat → Nat) (hq : Nat) (x : RoS) (v1 : Int32) (v2 : Int32) (v3 : Int32) (r0 : RoS) (hf : Ro_m_spread x v1 v2 v3 = some r0) : MWv l yX3_spread (wAll yX3_spread cX3_spread 4 none) ({ frames := 1, cells := 0, slots := 0, locals := 40 } : Room) [.ref (A 0), .int v1, .int v2, .int v3] hq (dC, dI) (vTy cI cJ) (wRo cI cJ A x) (wRo cI cJ A r0) := by
  refine kg_metW (Qc := fun Q => QWv (dC, dI) Q (wRo cI cJ A r0)) (cc := cX3_spread) (maxL := 4) (ret := none) (by decide) rfl (Nat.le_of_ble_eq_true rfl) ?_
  intro p e s m args below meth c Q hx hb hr hts hown hlk hml hP hK hN hD hA hS ls hl
  have hl : lv_has ls 4 [(0, .ref (A 0)), (1, .int v1), (2, .int v2), (3, .int v3)] := hl
  have ww0 := hts (.fieldLink RX3 9 "SafeBlocks$Round" "away" "[I") (List.mem_cons_of_mem _ wd_4_21)
  have hiX3 : ∀ w ∈ u_ws RX3 TX3 1, w ∈ wAll yX3_spread cX3_spread 4 none := fun w h => List.mem_cons_of_mem _ (inlX3 w h)
  suffices hgo : ∀ (H : Heap) (locs : List Loc), va_P (dC, dI) vwCl (wRo cI cJ A x) H → va_S Q s.heap H locs → W p l e ({ frames := 1, cells := 0, slots := 0, locals := 40 } : Room) s m args below meth c H locs 0 0 (MQ below (QWv (dC, dI) Q (wRo cI cJ A r0)) args s 0 0 Q) (F0 m 0 ls []) from hgo _ _ hP hS
  clear hP hS
  intro H locs hP hS
  unfold Ro_m_spread at hf
  refine lv_aload_n hx hb dX3_spread_0 rfl (lv_at hl 0 rfl) ?_
  refine va_get (D := (dC, dI)) (ci := 3) (v := .ref (A 1)) (C := RX3) (T := TX3) (N := 1) hx hb hts hiX3 hown hK hP 0 rfl rfl 0 (by decide) ww0 (fun _ h9 => h9) rfl dX3_spread_1 ?_
  refine lv_iload_n hx hb dX3_spread_4 rfl (lv_at hl 1 rfl) ?_
  obtain ⟨g5, hv, hf⟩ := ob_bind hf
  refine kg_iald hx hb hK hP 1 0 rfl rfl hv dX3_spread_5 ?_
  refine lv_iload_n hx hb dX3_spread_6 rfl (lv_at hl 3 rfl) ?_
  refine kg_icmp_ne (tgt := 29) hx hb hf dX3_spread_7 (by decide) (fun hc hf => ?_) (fun hc hf => ?_)
  · obtain rfl := Option.some.inj hf
    exact kg_vretW hx hb hr hlk hP hD hS dX3_spread_29
  · refine lv_aload_n hx hb dX3_spread_10 rfl (lv_at hl 0 rfl) ?_
    refine va_get (D := (dC, dI)) (ci := 3) (v := .ref (A 1)) (C := RX3) (T := TX3) (N := 1) hx hb hts hiX3 hown hK hP 0 rfl rfl 0 (by decide) ww0 (fun _ h9 => h9) rfl dX3_spread_11 ?_
    refine lv_iload_n hx hb dX3_spread_14 rfl (lv_at hl 2 rfl) ?_
    obtain ⟨g15, hv, hf⟩ := ob_bind hf
    refine kg_iald hx hb hK hP 1 0 rfl rfl hv dX3_spread_15 ?_
    refine lv_iconst (v := (-1)) hx hb dX3_spread_16 (by decide) ?_
    refine kg_icmp_ne (tgt := 29) hx hb hf dX3_spread_17 (by decide) (fun hc hf => ?_) (fun hc hf => ?_)
    · obtain rfl := Option.some.inj hf
      exact kg_vretW hx hb hr hlk hP hD hS dX3_spread_29
    · refine lv_aload_n hx hb dX3_spread_20 rfl (lv_at hl 0 rfl) ?_
      refine va_get (D := (dC, dI)) (ci := 3) (v := .ref (A 1)) (C := RX3) (T := TX3) (N := 1) hx hb hts hiX3 hown hK hP 0 rfl rfl 0 (by decide) ww0 (fun _ h9 => h9) rfl dX3_spread_21 ?_
      refine lv_iload_n hx hb dX3_spread_24 rfl (lv_at hl 2 rfl) ?_
      refine lv_iload_n hx hb dX3_spread_25 rfl (lv_at hl 3 rfl) ?_
      refine lv_iconst (v := 1) hx hb dX3_spread_26 (by decide) ?_
      refine lv_iadd hx hb dX3_spread_27 ?_
      obtain ⟨f28, hv, hf⟩ := ob_bind hf
      refine kg_iast (wz := (wRo cI cJ A (Ro_set_away x f28))) hx hb hK hP hD hS 1 0 rfl rfl hv dX3_spread_28 (sc_Ro_away _ _ _ _ _) (fun H locs hP hD hS => ?_)
      obtain rfl := Option.some.inj hf
      exact kg_vretW hx hb hr hlk hP hD hS dX3_spread_29
set_option maxHeartbeats 4000000 in
set_option maxRecDepth 100000 in
theorem c_X3_measure (l : Launch) (dC : Nat → ClassId) (dI : Nat → Nat → Nat) (cI cJ : ClassId) (A : Nat → Nat) (B : Nat → Nat) (hq : Nat) (x : RoS) (y : WbS) (v2 : Int32) (r0 : (Int32 × RoS)) (hf : Ro_m_measure x y v2 = some r0) : MWi l yX3_measure (wAll yX3_measure cX3_measure 6 (some .int)) ({ frames := 2, cells := 0, slots := 0, locals := 64 } : Room) [.ref (A 0), .ref (B 0), .int v2] hq (dC, dI) (vTy cI cJ) (wRo cI cJ A x ++ (wWb cI cJ B y)) (wRo cI cJ A r0.2 ++ (wWb cI cJ B y)) r0.1 := by
  refine kg_metW (Qc := fun Q => QWi (dC, dI) Q (wRo cI cJ A r0.2 ++ (wWb cI cJ B y)) r0.1) (cc := cX3_measure) (maxL := 6) (ret := (some .int)) (by decide) rfl (Nat.le_of_ble_eq_true rfl) ?_
  intro p e s m args below meth c Q hx hb hr hts hown hlk hml hP hK hN hD hA hS ls hl
  have hl : lv_has ls 6 [(0, .ref (A 0)), (1, .ref (B 0)), (2, .int v2)] := hl
  have ww0 := hts (.fieldLink RX3 9 "SafeBlocks$Round" "away" "[I") (List.mem_cons_of_mem _ wd_4_21)
  have ww1 := hts (.fieldLink RX3 21 "SafeBlocks$Web" "second" "[I") (List.mem_cons_of_mem _ wd_41_16)
  have ww2 := hts (.fieldLink RX3 26 "SafeBlocks$Web" "first" "[I") (List.mem_cons_of_mem _ wd_41_17)
  have ww3 := hts (.fieldLink RX3 29 "SafeBlocks$Web" "nodes" "I") (List.mem_cons_of_mem _ wd_41_18)
  have ww4 := hts (.fieldLink RX3 33 "SafeBlocks$Web" "links" "I") (List.mem_cons_of_mem _ wd_41_19)
  have hiX3 : ∀ w ∈ u_ws RX3 TX3 1, w ∈ wAll yX3_measure cX3_measure 6 (some .int) := fun w h => List.mem_cons_of_mem _ (inlX3 w h)
  have hiX4 : ∀ w ∈ u_ws RX4 TX4 16, w ∈ wAll yX3_measure cX3_measure 6 (some .int) := fun w h => List.mem_cons_of_mem _ (inlX4 w h)
  suffices hgo : ∀ (H : Heap) (locs : List Loc), va_P (dC, dI) vwCl (wRo cI cJ A x ++ (wWb cI cJ B y)) H → va_S Q s.heap H locs → W p l e ({ frames := 2, cells := 0, slots := 0, locals := 64 } : Room) s m args below meth c H locs 0 0 (MQ below (QWi (dC, dI) Q (wRo cI cJ A r0.2 ++ (wWb cI cJ B y)) r0.1) args s 0 0 Q) (F0 m 0 ls []) from hgo _ _ hP hS
  clear hP hS
  intro H locs hP hS
  unfold Ro_m_measure at hf
  have hj119 : ∀ (x : RoS) (v3 : Int32), Ro_m_measure_j119 x y v3 = some r0 → ∀ (H : Heap) (locs : List Loc) (ls : Array Slot), va_P (dC, dI) vwCl (wRo cI cJ A x ++ (wWb cI cJ B y)) H → va_D Q (wRo cI cJ A x ++ (wWb cI cJ B y)) → va_S Q s.heap H locs → lv_has ls 6 [(0, .ref (A 0)), (3, .int v3)] → W p l e ({ frames := 2, cells := 0, slots := 0, locals := 64 } : Room) s m args below meth c H locs 0 0 (MQ below (QWi (dC, dI) Q (wRo cI cJ A r0.2 ++ (wWb cI cJ B y)) r0.1) args s 0 0 Q) (F0 m 119 ls []) := by
    intro x v3 hf H locs ls hP hD hS hl
    unfold Ro_m_measure_j119 at hf
    refine lv_aload_n hx hb dX3_measure_119 rfl (lv_at hl 0 rfl) ?_
    refine va_get (D := (dC, dI)) (ci := 3) (v := .ref (A 1)) (C := RX3) (T := TX3) (N := 1) hx hb hts hiX3 hown hK hP 0 rfl rfl 0 (by decide) ww0 (fun _ h9 => h9) rfl dX3_measure_120 ?_
    refine lv_iload_n hx hb dX3_measure_123 rfl (lv_at hl 1 rfl) ?_
    obtain ⟨g124, hv, hf⟩ := ob_bind hf
    refine kg_iald hx hb hK hP 1 0 rfl rfl hv dX3_measure_124 ?_
    refine lv_iconst (v := (-1)) hx hb dX3_measure_125 (by decide) ?_
    refine kg_icmp_ne (tgt := 133) hx hb hf dX3_measure_126 (by decide) (fun hc hf => ?_) (fun hc hf => ?_)
    · refine lv_aload_n hx hb dX3_measure_133 rfl (lv_at hl 0 rfl) ?_
      refine va_get (D := (dC, dI)) (ci := 3) (v := .ref (A 1)) (C := RX3) (T := TX3) (N := 1) hx hb hts hiX3 hown hK hP 0 rfl rfl 0 (by decide) ww0 (fun _ h9 => h9) rfl dX3_measure_134 ?_
      refine lv_iload_n hx hb dX3_measure_137 rfl (lv_at hl 1 rfl) ?_
      obtain ⟨g138, hv, hf⟩ := ob_bind hf
      refine kg_iald hx hb hK hP 1 0 rfl rfl hv dX3_measure_138 ?_
      refine lv_iconst (v := 1) hx hb dX3_measure_139 (by decide) ?_
      refine lv_iadd hx hb dX3_measure_140 ?_
      obtain rfl := Option.some.inj hf
      exact kg_iretW hx hb hr hlk rfl hP hD hS dX3_measure_141
    · refine lv_iconst (v := (-1)) hx hb dX3_measure_129 (by decide) ?_
      refine lv_goto (tgt := 141) hx hb dX3_measure_130 (by decide) ?_
      obtain rfl := Option.some.inj hf
      exact kg_iretW hx hb hr hlk rfl hP hD hS dX3_measure_141
  refine lv_aload_n hx hb dX3_measure_0 rfl (lv_at hl 0 rfl) ?_
  refine va_get (D := (dC, dI)) (ci := 3) (v := .ref (A 1)) (C := RX3) (T := TX3) (N := 1) hx hb hts hiX3 hown hK hP 0 rfl rfl 0 (by decide) ww0 (fun _ h9 => h9) rfl dX3_measure_1 ?_
  refine lv_iconst (v := (-1)) hx hb dX3_measure_4 (by decide) ?_
  have hcl : (wRo cI cJ A x ++ (wWb cI cJ B y))[1]? = some ((A 1), .inl (cI, 32, .inl (Ro_away x))) := rfl
  have hPx := kg_eqP (kg_take hcl) hP
  have hDx := kg_eqD (kg_take hcl) hD
  refine kg_retWv (pre := List.take 1 (wRo cI cJ A x ++ (wWb cI cJ B y))) (wc := [((A 1), .inl (cI, 32, .inl (Ro_away x)))]) (post := List.drop 2 (wRo cI cJ A x ++ (wWb cI cJ B y))) (w1 := [((A 1), .inl (cI, 32, .inl (fillF (Ro_away x) 32 (-1))))]) (wz := (wRo cI cJ A (Ro_set_away x (fillF (Ro_away x) 32 (-1))) ++ (wWb cI cJ B y))) ((kg_takeS hcl).trans (sce_Ro_away _ _ _ _ _ _)) hPx hDx hS hA (va_runS (As := [.ref (A 1), .int (-1)]) (rest := []) ⟨hx, hb, hml, hown, hts⟩ (c_J7_fillI l dC dI cI cJ (A 1) 32 (Ro_away x) H.size (-1) (Nat.le_of_ble_eq_true rfl)) (va_cwS 2 hts (gw_X wd_7_15 wd_41_20 wd_7_14 wd_7_11) rfl rfl rfl qJ7_fill_53178_o ⟨Nat.le_of_ble_eq_true rfl, Nat.le_of_ble_eq_true rfl⟩) (kg_preSW (kg_cutP hPx) (kg_cutD hDx) hK hN) rfl rfl hl.1 rfl (lv_room (Nat.le_of_ble_eq_true rfl)) dX3_measure_5 ⟨Nat.zero_le _, Nat.zero_le _⟩) (fun H locs hP hD hS => ?_)
  refine lv_aload_n hx hb dX3_measure_8 rfl (lv_at hl 1 rfl) ?_
  refine va_get (D := (dC, dI)) (ci := 4) (v := .ref (B 2)) (C := RX4) (T := TX4) (N := 16) hx hb hts hiX4 hown hK hP 2 rfl rfl 1 (by decide) ww1 (fun _ h9 => h9) rfl dX3_measure_9 ?_
  refine lv_iload_n hx hb dX3_measure_12 rfl (lv_at hl 2 rfl) ?_
  obtain ⟨g13, hv, hf⟩ := ob_bind hf
  refine kg_iald hx hb hK hP 4 0 rfl rfl hv dX3_measure_13 ?_
  refine lv_istore_n (lv' := [(3, .int g13), (0, .ref (A 0)), (1, .ref (B 0)), (2, .int v2)]) hx hb dX3_measure_14 rfl hl (by decide) rfl (fun ls hl => ?_)
  refine lv_aload_n hx hb dX3_measure_15 rfl (lv_at hl 1 rfl) ?_
  refine va_get (D := (dC, dI)) (ci := 3) (v := .ref (A 1)) (C := RX3) (T := TX3) (N := 1) hx hb hts hiX3 hown hK hP 0 rfl rfl 0 (by decide) ww0 (fun _ h9 => h9) rfl dX3_measure_16 ?_
  refine lv_aload_n hx hb dX3_measure_19 rfl (lv_at hl 2 rfl) ?_
  refine va_get (D := (dC, dI)) (ci := 4) (v := .ref (B 1)) (C := RX4) (T := TX4) (N := 16) hx hb hts hiX4 hown hK hP 2 rfl rfl 0 (by decide) ww2 (fun _ h9 => h9) rfl dX3_measure_20 ?_
  refine lv_iload_n hx hb dX3_measure_23 rfl (lv_at hl 3 rfl) ?_
  obtain ⟨g24, hv, hf⟩ := ob_bind hf
  refine kg_iald hx hb hK hP 3 0 rfl rfl hv dX3_measure_24 ?_
  refine lv_iconst (v := 0) hx hb dX3_measure_25 (by decide) ?_
  obtain ⟨f26, hv, hf⟩ := ob_bind hf
  refine kg_iast (wz := (wRo cI cJ A (Ro_set_away (Ro_set_away x (fillF (Ro_away x) 32 (-1))) f26) ++ (wWb cI cJ B y))) hx hb hK hP hD hS 1 0 rfl rfl hv dX3_measure_26 (sce_Ro_away _ _ _ _ _ _) (fun H locs hP hD hS => ?_)
  refine lv_iconst (v := 0) hx hb dX3_measure_27 (by decide) ?_
  refine lv_istore (lv' := [(4, .int 0), (3, .int g13), (0, .ref (A 0)), (1, .ref (B 0)), (2, .int v2)]) hx hb dX3_measure_28 hl (by decide) rfl (fun ls hl => ?_)
  have hlp30 : ∀ (v3 : Int32), ∀ (n : Nat) (x : RoS) (v4 : Int32), iter (fun p : RoS × Int32 => Ro_m_measure_s30 y v2 v3 p.1 p.2) n (x, v4) = some r0 → ∀ (H : Heap) (locs : List Loc) (ls : Array Slot), va_P (dC, dI) vwCl (wRo cI cJ A x ++ (wWb cI cJ B y)) H → va_D Q (wRo cI cJ A x ++ (wWb cI cJ B y)) → va_S Q s.heap H locs → lv_has ls 6 [(0, .ref (A 0)), (1, .ref (B 0)), (2, .int v2), (3, .int v3), (4, .int v4)] → W p l e ({ frames := 2, cells := 0, slots := 0, locals := 64 } : Room) s m args below meth c H locs 0 0 (MQ below (QWi (dC, dI) Q (wRo cI cJ A r0.2 ++ (wWb cI cJ B y)) r0.1) args s 0 0 Q) (F0 m 30 ls []) := by
    intro v3 n
    induction n with
    | zero => intro x v4 hf; exact iter_zero hf
    | succ n ih1 =>
      intro x v4 hf H locs ls hP hD hS hl
      obtain ⟨q1, hf, hk1⟩ := iter_succ hf
      have hf : Ro_m_measure_s30 y v2 v3 x v4 = some q1 := hf
      unfold Ro_m_measure_s30 at hf
      refine lv_iload hx hb dX3_measure_30 (lv_at hl 4 rfl) ?_
      refine lv_aload_n hx hb dX3_measure_32 rfl (lv_at hl 1 rfl) ?_
      refine va_get (D := (dC, dI)) (ci := 4) (v := .int (Wb_nodes y)) (C := RX4) (T := TX4) (N := 16) hx hb hts hiX4 hown hK hP 2 rfl rfl 10 (by decide) ww3 (fun _ h9 => h9) rfl dX3_measure_33 ?_
      refine kg_icmp_ge (tgt := 119) hx hb hf dX3_measure_36 (by decide) (fun hc hf => ?_) (fun hc hf => ?_)
      · obtain ⟨qq, hf, hqq⟩ := omap_some hf
        have hkq : qq = r0 := by rw [← hqq] at hk1; exact hk1
        rw [hkq] at hf
        clear hkq hqq
        exact hj119 x v3 hf _ _ _ hP hD hS (lv_sub hl [0, 3] rfl)
      · refine lv_aload_n hx hb dX3_measure_39 rfl (lv_at hl 0 rfl) ?_
        refine va_get (D := (dC, dI)) (ci := 3) (v := .ref (A 1)) (C := RX3) (T := TX3) (N := 1) hx hb hts hiX3 hown hK hP 0 rfl rfl 0 (by decide) ww0 (fun _ h9 => h9) rfl dX3_measure_40 ?_
        refine lv_iload_n hx hb dX3_measure_43 rfl (lv_at hl 3 rfl) ?_
        obtain ⟨g44, hv, hf⟩ := ob_bind hf
        refine kg_iald hx hb hK hP 1 0 rfl rfl hv dX3_measure_44 ?_
        refine lv_iconst (v := (-1)) hx hb dX3_measure_45 (by decide) ?_
        refine kg_icmp_ne (tgt := 119) hx hb hf dX3_measure_46 (by decide) (fun hc hf => ?_) (fun hc hf => ?_)
        · obtain ⟨qq, hf, hqq⟩ := omap_some hf
          have hkq : qq = r0 := by rw [← hqq] at hk1; exact hk1
          rw [hkq] at hf
          clear hkq hqq
          exact hj119 x v3 hf _ _ _ hP hD hS (lv_sub hl [0, 3] rfl)
        · refine lv_iconst (v := 0) hx hb dX3_measure_49 (by decide) ?_
          refine lv_istore (lv' := [(5, .int 0), (0, .ref (A 0)), (1, .ref (B 0)), (2, .int v2), (3, .int v3), (4, .int v4)]) hx hb dX3_measure_50 hl (by decide) rfl (fun ls hl => ?_)
          have hlp52 : ∀ (v4 : Int32), ∀ (n : Nat) (x : RoS) (v5 : Int32), iter (fun p : RoS × Int32 => Ro_m_measure_s52 y v2 v3 v4 p.1 p.2) n (x, v5) = some q1 → ∀ (H : Heap) (locs : List Loc) (ls : Array Slot), va_P (dC, dI) vwCl (wRo cI cJ A x ++ (wWb cI cJ B y)) H → va_D Q (wRo cI cJ A x ++ (wWb cI cJ B y)) → va_S Q s.heap H locs → lv_has ls 6 [(0, .ref (A 0)), (1, .ref (B 0)), (2, .int v2), (3, .int v3), (4, .int v4), (5, .int v5)] → W p l e ({ frames := 2, cells := 0, slots := 0, locals := 64 } : Room) s m args below meth c H locs 0 0 (MQ below (QWi (dC, dI) Q (wRo cI cJ A r0.2 ++ (wWb cI cJ B y)) r0.1) args s 0 0 Q) (F0 m 52 ls []) := by
            intro v4 n
            induction n with
            | zero => intro x v5 hf; exact iter_zero hf
            | succ n ih2 =>
              intro x v5 hf H locs ls hP hD hS hl
              obtain ⟨q2, hf, hk2⟩ := iter_succ hf
              have hf : Ro_m_measure_s52 y v2 v3 v4 x v5 = some q2 := hf
              unfold Ro_m_measure_s52 at hf
              refine lv_iload hx hb dX3_measure_52 (lv_at hl 5 rfl) ?_
              refine lv_aload_n hx hb dX3_measure_54 rfl (lv_at hl 1 rfl) ?_
              refine va_get (D := (dC, dI)) (ci := 4) (v := .int (Wb_links y)) (C := RX4) (T := TX4) (N := 16) hx hb hts hiX4 hown hK hP 2 rfl rfl 11 (by decide) ww4 (fun _ h9 => h9) rfl dX3_measure_55 ?_
              refine kg_icmp_ge (tgt := 113) hx hb hf dX3_measure_58 (by decide) (fun hc hf => ?_) (fun hc hf => ?_)
              · obtain ⟨qq, hf, hqq⟩ := omap_some hf
                have hkq : qq = q1 := by rw [← hqq] at hk2; exact hk2
                rw [hkq] at hf
                clear hkq hqq
                refine lv_iinc (v := (v4 + 1)) (lv' := [(4, .int (v4 + 1)), (0, .ref (A 0)), (1, .ref (B 0)), (2, .int v2), (3, .int v3), (5, .int v5)]) hx hb dX3_measure_113 hl (k := 4) rfl rfl (by decide) rfl (fun ls hl => ?_)
                refine lv_goto (tgt := 30) hx hb dX3_measure_116 (by decide) ?_
                obtain rfl := Option.some.inj hf
                exact ih1 x (v4 + 1) hk1 _ _ _ hP hD hS (lv_sub hl [1, 2, 3, 4, 0] rfl)
              · refine lv_iload hx hb dX3_measure_61 (lv_at hl 5 rfl) ?_
                refine lv_iload_n hx hb dX3_measure_63 rfl (lv_at hl 2 rfl) ?_
                refine kg_icmp_eq (tgt := 107) hx hb hf dX3_measure_64 (by decide) (fun hc hf => ?_) (fun hc hf => ?_)
                · refine lv_iinc (v := (v5 + 1)) (lv' := [(5, .int (v5 + 1)), (0, .ref (A 0)), (1, .ref (B 0)), (2, .int v2), (3, .int v3), (4, .int v4)]) hx hb dX3_measure_107 hl (k := 5) rfl rfl (by decide) rfl (fun ls hl => ?_)
                  refine lv_goto (tgt := 52) hx hb dX3_measure_110 (by decide) ?_
                  obtain rfl := Option.some.inj hf
                  exact ih2 x (v5 + 1) hk2 _ _ _ hP hD hS (lv_sub hl [1, 2, 3, 4, 5, 0] rfl)
                · refine lv_aload_n hx hb dX3_measure_67 rfl (lv_at hl 0 rfl) ?_
                  refine lv_aload_n hx hb dX3_measure_68 rfl (lv_at hl 1 rfl) ?_
                  refine va_get (D := (dC, dI)) (ci := 4) (v := .ref (B 1)) (C := RX4) (T := TX4) (N := 16) hx hb hts hiX4 hown hK hP 2 rfl rfl 0 (by decide) ww2 (fun _ h9 => h9) rfl dX3_measure_69 ?_
                  refine lv_iload hx hb dX3_measure_72 (lv_at hl 5 rfl) ?_
                  obtain ⟨g74, hv, hf⟩ := ob_bind hf
                  refine kg_iald hx hb hK hP 3 0 rfl rfl hv dX3_measure_74 ?_
                  refine lv_aload_n hx hb dX3_measure_75 rfl (lv_at hl 1 rfl) ?_
                  refine va_get (D := (dC, dI)) (ci := 4) (v := .ref (B 2)) (C := RX4) (T := TX4) (N := 16) hx hb hts hiX4 hown hK hP 2 rfl rfl 1 (by decide) ww1 (fun _ h9 => h9) rfl dX3_measure_76 ?_
                  refine lv_iload hx hb dX3_measure_79 (lv_at hl 5 rfl) ?_
                  obtain ⟨g81, hv, hf⟩ := ob_bind hf
                  refine kg_iald hx hb hK hP 4 0 rfl rfl hv dX3_measure_81 ?_
                  refine lv_iload hx hb dX3_measure_82 (lv_at hl 4 rfl) ?_
                  obtain ⟨g84, hc, hf⟩ := ob_bind hf
                  have hPx : va_P (dC, dI) vwCl ((([] : va_W)) ++ ((wRo cI cJ A x) ++ ((oWb cI cJ B y) ++ ((wNm cI cJ 32 (fun i => B (i + 8)) (Wb_blocks y)) ++ ((wNm cI cJ 32 (fun i => B (i + 13)) (Wb_lands y)) ++ ((wNm cI cJ 64 (fun i => B (i + 18)) (Wb_parts y)))))))) H := hP
                  have hDx : va_D Q ((([] : va_W)) ++ ((wRo cI cJ A x) ++ ((oWb cI cJ B y) ++ ((wNm cI cJ 32 (fun i => B (i + 8)) (Wb_blocks y)) ++ ((wNm cI cJ 32 (fun i => B (i + 13)) (Wb_lands y)) ++ ((wNm cI cJ 64 (fun i => B (i + 18)) (Wb_parts y)))))))) := hD
                  refine kg_retWv (pre := ([] : va_W)) (wc := wRo cI cJ A x) (post := (oWb cI cJ B y) ++ ((wNm cI cJ 32 (fun i => B (i + 8)) (Wb_blocks y)) ++ ((wNm cI cJ 32 (fun i => B (i + 13)) (Wb_lands y)) ++ ((wNm cI cJ 64 (fun i => B (i + 18)) (Wb_parts y)))))) (w1 := wRo cI cJ A g84) (wz := (wRo cI cJ A g84 ++ (wWb cI cJ B y))) rfl hPx hDx hS hA (va_runV (As := [.int g74, .int g81, .int v4]) (rest := []) ⟨hx, hb, hml, hown, hts⟩ (c_X3_spread l dC dI cI cJ A H.size x g74 g81 v4 _ hc) (cwV 3 hts (gw_V wd_42_0 wd_41_21 wd_41_22 wd_41_23 wd_2_3) rfl rfl rfl qX3_spread ⟨Nat.le_of_ble_eq_true rfl, Nat.le_of_ble_eq_true rfl⟩) (kg_preVW (ci := 3) (q := (RX3, TX3, 1)) (q0 := 0) (kg_cutP hPx) (kg_cutD hDx) hK hN rfl rfl) rfl rfl hl.1 rfl (lv_room (Nat.le_of_ble_eq_true rfl)) dX3_measure_84 ⟨Nat.zero_le _, Nat.zero_le _⟩) (fun H locs hP hD hS => ?_)
                  refine lv_aload_n hx hb dX3_measure_87 rfl (lv_at hl 0 rfl) ?_
                  refine lv_aload_n hx hb dX3_measure_88 rfl (lv_at hl 1 rfl) ?_
                  refine va_get (D := (dC, dI)) (ci := 4) (v := .ref (B 2)) (C := RX4) (T := TX4) (N := 16) hx hb hts hiX4 hown hK hP 2 rfl rfl 1 (by decide) ww1 (fun _ h9 => h9) rfl dX3_measure_89 ?_
                  refine lv_iload hx hb dX3_measure_92 (lv_at hl 5 rfl) ?_
                  obtain ⟨g94, hv, hf⟩ := ob_bind hf
                  refine kg_iald hx hb hK hP 4 0 rfl rfl hv dX3_measure_94 ?_
                  refine lv_aload_n hx hb dX3_measure_95 rfl (lv_at hl 1 rfl) ?_
                  refine va_get (D := (dC, dI)) (ci := 4) (v := .ref (B 1)) (C := RX4) (T := TX4) (N := 16) hx hb hts hiX4 hown hK hP 2 rfl rfl 0 (by decide) ww2 (fun _ h9 => h9) rfl dX3_measure_96 ?_
                  refine lv_iload hx hb dX3_measure_99 (lv_at hl 5 rfl) ?_
                  obtain ⟨g101, hv, hf⟩ := ob_bind hf
                  refine kg_iald hx hb hK hP 3 0 rfl rfl hv dX3_measure_101 ?_
                  refine lv_iload hx hb dX3_measure_102 (lv_at hl 4 rfl) ?_
                  obtain ⟨g104, hc, hf⟩ := ob_bind hf
                  have hPx : va_P (dC, dI) vwCl ((([] : va_W)) ++ ((wRo cI cJ A g84) ++ ((oWb cI cJ B y) ++ ((wNm cI cJ 32 (fun i => B (i + 8)) (Wb_blocks y)) ++ ((wNm cI cJ 32 (fun i => B (i + 13)) (Wb_lands y)) ++ ((wNm cI cJ 64 (fun i => B (i + 18)) (Wb_parts y)))))))) H := hP
                  have hDx : va_D Q ((([] : va_W)) ++ ((wRo cI cJ A g84) ++ ((oWb cI cJ B y) ++ ((wNm cI cJ 32 (fun i => B (i + 8)) (Wb_blocks y)) ++ ((wNm cI cJ 32 (fun i => B (i + 13)) (Wb_lands y)) ++ ((wNm cI cJ 64 (fun i => B (i + 18)) (Wb_parts y)))))))) := hD
                  refine kg_retWv (pre := ([] : va_W)) (wc := wRo cI cJ A g84) (post := (oWb cI cJ B y) ++ ((wNm cI cJ 32 (fun i => B (i + 8)) (Wb_blocks y)) ++ ((wNm cI cJ 32 (fun i => B (i + 13)) (Wb_lands y)) ++ ((wNm cI cJ 64 (fun i => B (i + 18)) (Wb_parts y)))))) (w1 := wRo cI cJ A g104) (wz := (wRo cI cJ A g104 ++ (wWb cI cJ B y))) rfl hPx hDx hS hA (va_runV (As := [.int g94, .int g101, .int v4]) (rest := []) ⟨hx, hb, hml, hown, hts⟩ (c_X3_spread l dC dI cI cJ A H.size g84 g94 g101 v4 _ hc) (cwV 3 hts (gw_V wd_42_0 wd_41_21 wd_41_22 wd_41_23 wd_2_3) rfl rfl rfl qX3_spread ⟨Nat.le_of_ble_eq_true rfl, Nat.le_of_ble_eq_true rfl⟩) (kg_preVW (ci := 3) (q := (RX3, TX3, 1)) (q0 := 0) (kg_cutP hPx) (kg_cutD hDx) hK hN rfl rfl) rfl rfl hl.1 rfl (lv_room (Nat.le_of_ble_eq_true rfl)) dX3_measure_104 ⟨Nat.zero_le _, Nat.zero_le _⟩) (fun H locs hP hD hS => ?_)
                  refine lv_iinc (v := (v5 + 1)) (lv' := [(5, .int (v5 + 1)), (0, .ref (A 0)), (1, .ref (B 0)), (2, .int v2), (3, .int v3), (4, .int v4)]) hx hb dX3_measure_107 hl (k := 5) rfl rfl (by decide) rfl (fun ls hl => ?_)
                  refine lv_goto (tgt := 52) hx hb dX3_measure_110 (by decide) ?_
                  obtain rfl := Option.some.inj hf
                  exact ih2 g104 (v5 + 1) hk2 _ _ _ hP hD hS (lv_sub hl [1, 2, 3, 4, 5, 0] rfl)
          exact hlp52 v4 FU x 0 hf _ _ _ hP hD hS (lv_sub hl [1, 2, 3, 4, 5, 0] rfl)
  exact hlp30 g13 FU (Ro_set_away (Ro_set_away x (fillF (Ro_away x) 32 (-1))) f26) 0 hf _ _ _ hP hD hS (lv_sub hl [2, 3, 4, 1, 0] rfl)
set_option maxHeartbeats 4000000 in
set_option maxRecDepth 100000 in
theorem c_X3_leastNearer (l : Launch) (dC : Nat → ClassId) (dI : Nat → Nat → Nat) (cI cJ : ClassId) (A : Nat → Nat) (B : Nat → Nat) (hq : Heap) (x : RoS) (y : WbS) (v2 : Int32) (v3 : Int32) (r0 : Int32) (hf : Ro_m_leastNearer x y v2 v3 = some r0) : MRi l yX3_leastNearer (wAll yX3_leastNearer cX3_leastNearer 7 (some .int)) ({ frames := 2, cells := 0, slots := 0, locals := 62 } : Room) [.ref (A 0), .ref (B 0), .int v2, .int v3] hq (dC, dI) (vTy cI cJ) (wRo cI cJ A x ++ (wWb cI cJ B y)) r0 := by
  refine kg_metR (cc := cX3_leastNearer) (maxL := 7) (ret := (some .int)) (by decide) rfl (Nat.le_of_ble_eq_true rfl) ?_
  intro p e s m args below meth c hx hb hr hts hown hlk hml hH hP hK hN ls hl
  subst hH
  have hl : lv_has ls 7 [(0, .ref (A 0)), (1, .ref (B 0)), (2, .int v2), (3, .int v3)] := hl
  have ww0 := hts (.fieldLink RX3 9 "SafeBlocks$Round" "away" "[I") (List.mem_cons_of_mem _ wd_4_21)
  have ww1 := hts (.methodLink RX3 48 Lib.Math.min.name) (List.mem_cons_of_mem _ wd_42_9)
  have ww2 := hts (.static Lib.Math.min.name) (List.mem_cons_of_mem _ wd_20_0)
  have ww3 := hts (.initialized "java/lang/Math") (List.mem_cons_of_mem _ wd_14_8)
  have ww4 := hts (.code Lib.Math.min.name Lib.Math.min.code 2 (some .int)) (List.mem_cons_of_mem _ wd_20_1)
  have ww5 := hts (.fieldLink RX3 33 "SafeBlocks$Web" "links" "I") (List.mem_cons_of_mem _ wd_41_19)
  have ww6 := hts (.fieldLink RX3 26 "SafeBlocks$Web" "first" "[I") (List.mem_cons_of_mem _ wd_41_17)
  have ww7 := hts (.fieldLink RX3 21 "SafeBlocks$Web" "second" "[I") (List.mem_cons_of_mem _ wd_41_16)
  have hiX3 : ∀ w ∈ u_ws RX3 TX3 1, w ∈ wAll yX3_leastNearer cX3_leastNearer 7 (some .int) := fun w h => List.mem_cons_of_mem _ (inlX3 w h)
  have hiX4 : ∀ w ∈ u_ws RX4 TX4 16, w ∈ wAll yX3_leastNearer cX3_leastNearer 7 (some .int) := fun w h => List.mem_cons_of_mem _ (inlX4 w h)
  unfold Ro_m_leastNearer at hf
  refine lv_bipush (v := 32) hx hb dX3_leastNearer_0 (by decide) ?_
  refine lv_istore (lv' := [(4, .int 32), (0, .ref (A 0)), (1, .ref (B 0)), (2, .int v2), (3, .int v3)]) hx hb dX3_leastNearer_2 hl (by decide) rfl (fun ls hl => ?_)
  refine lv_iconst (v := 0) hx hb dX3_leastNearer_4 (by decide) ?_
  refine lv_istore (lv' := [(5, .int 0), (4, .int 32), (0, .ref (A 0)), (1, .ref (B 0)), (2, .int v2), (3, .int v3)]) hx hb dX3_leastNearer_5 hl (by decide) rfl (fun ls hl => ?_)
  have hlp7 : ∀ (n : Nat) (v4 : Int32) (v5 : Int32), iter (fun p : Int32 × Int32 => Ro_m_leastNearer_s7 x y v2 v3 p.1 p.2) n (v4, v5) = some r0 → ∀ (ls : Array Slot), lv_has ls 7 [(0, .ref (A 0)), (1, .ref (B 0)), (2, .int v2), (3, .int v3), (4, .int v4), (5, .int v5)] → W p l e ({ frames := 2, cells := 0, slots := 0, locals := 62 } : Room) s m args below meth c s.heap [] 0 0 (MQ below (QRi s.heap r0) args s 0 0 NoA) (F0 m 7 ls []) := by
    intro  n
    induction n with
    | zero => intro v4 v5 hf; exact iter_zero hf
    | succ n ih1 =>
      intro v4 v5 hf ls hl
      obtain ⟨q1, hf, hk1⟩ := iter_succ hf
      have hf : Ro_m_leastNearer_s7 x y v2 v3 v4 v5 = some q1 := hf
      unfold Ro_m_leastNearer_s7 at hf
      have hj60 : ∀ (v4 : Int32) (v5 : Int32) (w0 : Int32), Ro_m_leastNearer_j60 x y v2 v3 v4 v5 w0 = some q1 → ∀ (ls : Array Slot), lv_has ls 7 [(0, .ref (A 0)), (1, .ref (B 0)), (2, .int v2), (3, .int v3), (4, .int v4), (5, .int v5)] → W p l e ({ frames := 2, cells := 0, slots := 0, locals := 62 } : Room) s m args below meth c s.heap [] 0 0 (MQ below (QRi s.heap r0) args s 0 0 NoA) (F0 m 60 ls [.int w0]) := by
        intro v4 v5 w0 hf ls hl
        unfold Ro_m_leastNearer_j60 at hf
        refine lv_istore (lv' := [(6, .int w0), (0, .ref (A 0)), (1, .ref (B 0)), (2, .int v2), (3, .int v3), (4, .int v4), (5, .int v5)]) hx hb dX3_leastNearer_60 hl (by decide) rfl (fun ls hl => ?_)
        refine lv_aload_n hx hb dX3_leastNearer_62 rfl (lv_at hl 1 rfl) ?_
        refine va_get (D := (dC, dI)) (ci := 3) (v := .ref (A 1)) (C := RX3) (T := TX3) (N := 1) hx hb hts hiX3 hown hK hP 0 rfl rfl 0 (by decide) ww0 (fun _ h9 => h9) rfl dX3_leastNearer_63 ?_
        refine lv_iload hx hb dX3_leastNearer_66 (lv_at hl 0 rfl) ?_
        obtain ⟨g68, hv, hf⟩ := ob_bind hf
        refine kg_iald hx hb hK hP 1 0 rfl rfl hv dX3_leastNearer_68 ?_
        refine lv_aload_n hx hb dX3_leastNearer_69 rfl (lv_at hl 1 rfl) ?_
        refine va_get (D := (dC, dI)) (ci := 3) (v := .ref (A 1)) (C := RX3) (T := TX3) (N := 1) hx hb hts hiX3 hown hK hP 0 rfl rfl 0 (by decide) ww0 (fun _ h9 => h9) rfl dX3_leastNearer_70 ?_
        refine lv_iload_n hx hb dX3_leastNearer_73 rfl (lv_at hl 4 rfl) ?_
        obtain ⟨g74, hv, hf⟩ := ob_bind hf
        refine kg_iald hx hb hK hP 1 0 rfl rfl hv dX3_leastNearer_74 ?_
        refine lv_iconst (v := 1) hx hb dX3_leastNearer_75 (by decide) ?_
        refine lv_isub hx hb dX3_leastNearer_76 ?_
        refine kg_icmp_ne (tgt := 89) hx hb hf dX3_leastNearer_77 (by decide) (fun hc hf => ?_) (fun hc hf => ?_)
        · refine lv_iinc (v := (v5 + 1)) (lv' := [(5, .int (v5 + 1)), (6, .int w0), (0, .ref (A 0)), (1, .ref (B 0)), (2, .int v2), (3, .int v3), (4, .int v4)]) hx hb dX3_leastNearer_89 hl (k := 6) rfl rfl (by decide) rfl (fun ls hl => ?_)
          refine lv_goto (tgt := 7) hx hb dX3_leastNearer_92 (by decide) ?_
          obtain rfl := Option.some.inj hf
          exact ih1 v4 (v5 + 1) hk1 _ (lv_sub hl [2, 3, 4, 5, 6, 0] rfl)
        · refine lv_iload hx hb dX3_leastNearer_80 (lv_at hl 5 rfl) ?_
          refine lv_iload hx hb dX3_leastNearer_82 (lv_at hl 0 rfl) ?_
          refine va_mmin hx hb (by rw [hml]; exact hl.1.symm) hown ww1 ww2 ww3 ww4 (Nat.le_of_ble_eq_true rfl) (Nat.le_of_ble_eq_true rfl) (Nat.zero_le _) (Nat.zero_le _) dX3_leastNearer_84 ?_
          refine lv_istore (lv' := [(4, .int (if w0 < v4 then w0 else v4)), (6, .int w0), (0, .ref (A 0)), (1, .ref (B 0)), (2, .int v2), (3, .int v3), (5, .int v5)]) hx hb dX3_leastNearer_87 hl (by decide) rfl (fun ls hl => ?_)
          refine lv_iinc (v := (v5 + 1)) (lv' := [(5, .int (v5 + 1)), (4, .int (if w0 < v4 then w0 else v4)), (6, .int w0), (0, .ref (A 0)), (1, .ref (B 0)), (2, .int v2), (3, .int v3)]) hx hb dX3_leastNearer_89 hl (k := 6) rfl rfl (by decide) rfl (fun ls hl => ?_)
          refine lv_goto (tgt := 7) hx hb dX3_leastNearer_92 (by decide) ?_
          obtain rfl := Option.some.inj hf
          exact ih1 (if w0 < v4 then w0 else v4) (v5 + 1) hk1 _ (lv_sub hl [3, 4, 5, 6, 1, 0] rfl)
      refine lv_iload hx hb dX3_leastNearer_7 (lv_at hl 5 rfl) ?_
      refine lv_aload_n hx hb dX3_leastNearer_9 rfl (lv_at hl 1 rfl) ?_
      refine va_get (D := (dC, dI)) (ci := 4) (v := .int (Wb_links y)) (C := RX4) (T := TX4) (N := 16) hx hb hts hiX4 hown hK hP 2 rfl rfl 11 (by decide) ww5 (fun _ h9 => h9) rfl dX3_leastNearer_10 ?_
      refine kg_icmp_ge (tgt := 95) hx hb hf dX3_leastNearer_13 (by decide) (fun hc hf => ?_) (fun hc hf => ?_)
      · obtain ⟨qq, hf, hqq⟩ := omap_some hf
        have hkq : qq = r0 := by rw [← hqq] at hk1; exact hk1
        rw [hkq] at hf
        clear hkq hqq
        refine lv_iload hx hb dX3_leastNearer_95 (lv_at hl 4 rfl) ?_
        refine lv_bipush (v := 32) hx hb dX3_leastNearer_97 (by decide) ?_
        refine kg_icmp_ge (tgt := 107) hx hb hf dX3_leastNearer_99 (by decide) (fun hc hf => ?_) (fun hc hf => ?_)
        · refine lv_iload_n hx hb dX3_leastNearer_107 rfl (lv_at hl 3 rfl) ?_
          obtain rfl := Option.some.inj hf
          exact kg_iretR hx hb hr hlk rfl dX3_leastNearer_108
        · refine lv_iload hx hb dX3_leastNearer_102 (lv_at hl 4 rfl) ?_
          refine lv_goto (tgt := 108) hx hb dX3_leastNearer_104 (by decide) ?_
          obtain rfl := Option.some.inj hf
          exact kg_iretR hx hb hr hlk rfl dX3_leastNearer_108
      · refine lv_iload hx hb dX3_leastNearer_16 (lv_at hl 5 rfl) ?_
        refine lv_iload_n hx hb dX3_leastNearer_18 rfl (lv_at hl 2 rfl) ?_
        refine kg_icmp_eq (tgt := 89) hx hb hf dX3_leastNearer_19 (by decide) (fun hc hf => ?_) (fun hc hf => ?_)
        · refine lv_iinc (v := (v5 + 1)) (lv' := [(5, .int (v5 + 1)), (0, .ref (A 0)), (1, .ref (B 0)), (2, .int v2), (3, .int v3), (4, .int v4)]) hx hb dX3_leastNearer_89 hl (k := 5) rfl rfl (by decide) rfl (fun ls hl => ?_)
          refine lv_goto (tgt := 7) hx hb dX3_leastNearer_92 (by decide) ?_
          obtain rfl := Option.some.inj hf
          exact ih1 v4 (v5 + 1) hk1 _ (lv_sub hl [1, 2, 3, 4, 5, 0] rfl)
        · refine lv_aload_n hx hb dX3_leastNearer_22 rfl (lv_at hl 1 rfl) ?_
          refine lv_iload hx hb dX3_leastNearer_23 (lv_at hl 5 rfl) ?_
          refine lv_iload_n hx hb dX3_leastNearer_25 rfl (lv_at hl 3 rfl) ?_
          obtain ⟨g26, hc, hf⟩ := ob_bind hf
          have hPc : va_P (dC, dI) vwCl (wWb cI cJ B y) s.heap := hP.sub [2, 3, 4, 5, 6, 7, 8, 9, 10, 11, 12, 13, 14, 15, 16, 17, 18, 19, 20, 21, 22, 23, 24] rfl
          refine kg_retRi (va_runV (As := [.int v5, .int v3]) (rest := []) ⟨hx, hb, hml, hown, hts⟩ (c_X4_isAt l dC dI cI cJ B s.heap y v5 v3 _ hc) (cwV 2 hts (gw_V wd_21_23 wd_42_10 wd_21_21 wd_21_22 wd_1_14) rfl rfl rfl qX4_isAt ⟨Nat.le_of_ble_eq_true rfl, Nat.le_of_ble_eq_true rfl⟩) (kg_preVR (ci := 4) (q := (RX4, TX4, 16)) (q0 := 0) hPc hK hN rfl rfl) rfl rfl hl.1 rfl (lv_room (Nat.le_of_ble_eq_true rfl)) dX3_leastNearer_26 ⟨Nat.zero_le _, Nat.zero_le _⟩) ?_
          refine kg_b_eq (tgt := 89) hx hb hf dX3_leastNearer_29 (by decide) (fun hc hf => ?_) (fun hc hf => ?_)
          · refine lv_iinc (v := (v5 + 1)) (lv' := [(5, .int (v5 + 1)), (0, .ref (A 0)), (1, .ref (B 0)), (2, .int v2), (3, .int v3), (4, .int v4)]) hx hb dX3_leastNearer_89 hl (k := 5) rfl rfl (by decide) rfl (fun ls hl => ?_)
            refine lv_goto (tgt := 7) hx hb dX3_leastNearer_92 (by decide) ?_
            obtain rfl := Option.some.inj hf
            exact ih1 v4 (v5 + 1) hk1 _ (lv_sub hl [1, 2, 3, 4, 5, 0] rfl)
          · refine lv_aload_n hx hb dX3_leastNearer_32 rfl (lv_at hl 1 rfl) ?_
            refine va_get (D := (dC, dI)) (ci := 4) (v := .ref (B 1)) (C := RX4) (T := TX4) (N := 16) hx hb hts hiX4 hown hK hP 2 rfl rfl 0 (by decide) ww6 (fun _ h9 => h9) rfl dX3_leastNearer_33 ?_
            refine lv_iload hx hb dX3_leastNearer_36 (lv_at hl 5 rfl) ?_
            obtain ⟨g38, hv, hf⟩ := ob_bind hf
            refine kg_iald hx hb hK hP 3 0 rfl rfl hv dX3_leastNearer_38 ?_
            refine lv_iload_n hx hb dX3_leastNearer_39 rfl (lv_at hl 3 rfl) ?_
            refine kg_icmp_ne (tgt := 53) hx hb hf dX3_leastNearer_40 (by decide) (fun hc hf => ?_) (fun hc hf => ?_)
            · refine lv_aload_n hx hb dX3_leastNearer_53 rfl (lv_at hl 1 rfl) ?_
              refine va_get (D := (dC, dI)) (ci := 4) (v := .ref (B 1)) (C := RX4) (T := TX4) (N := 16) hx hb hts hiX4 hown hK hP 2 rfl rfl 0 (by decide) ww6 (fun _ h9 => h9) rfl dX3_leastNearer_54 ?_
              refine lv_iload hx hb dX3_leastNearer_57 (lv_at hl 5 rfl) ?_
              obtain ⟨g59, hv, hf⟩ := ob_bind hf
              refine kg_iald hx hb hK hP 3 0 rfl rfl hv dX3_leastNearer_59 ?_
              exact hj60 v4 v5 g59 hf _ (lv_sub hl [0, 1, 2, 3, 4, 5] rfl)
            · refine lv_aload_n hx hb dX3_leastNearer_43 rfl (lv_at hl 1 rfl) ?_
              refine va_get (D := (dC, dI)) (ci := 4) (v := .ref (B 2)) (C := RX4) (T := TX4) (N := 16) hx hb hts hiX4 hown hK hP 2 rfl rfl 1 (by decide) ww7 (fun _ h9 => h9) rfl dX3_leastNearer_44 ?_
              refine lv_iload hx hb dX3_leastNearer_47 (lv_at hl 5 rfl) ?_
              obtain ⟨g49, hv, hf⟩ := ob_bind hf
              refine kg_iald hx hb hK hP 4 0 rfl rfl hv dX3_leastNearer_49 ?_
              refine lv_goto (tgt := 60) hx hb dX3_leastNearer_50 (by decide) ?_
              exact hj60 v4 v5 g49 hf _ (lv_sub hl [0, 1, 2, 3, 4, 5] rfl)
  exact hlp7  FU 32 0 hf _ (lv_sub hl [2, 3, 4, 5, 1, 0] rfl)
set_option maxHeartbeats 4000000 in
set_option maxRecDepth 100000 in
theorem c_X3_nodeAt (l : Launch) (dC : Nat → ClassId) (dI : Nat → Nat → Nat) (cI cJ : ClassId) (A : Nat → Nat) (B : Nat → Nat) (hq : Heap) (x : RoS) (y : WbS) (v2 : Int32) (v3 : Int32) (r0 : Int32) (hf : Ro_m_nodeAt x y v2 v3 = some r0) : MRi l yX3_nodeAt (wAll yX3_nodeAt cX3_nodeAt 6 (some .int)) ({ frames := 3, cells := 0, slots := 0, locals := 88 } : Room) [.ref (A 0), .ref (B 0), .int v2, .int v3] hq (dC, dI) (vTy cI cJ) (wRo cI cJ A x ++ (wWb cI cJ B y)) r0 := by
  refine kg_metR (cc := cX3_nodeAt) (maxL := 6) (ret := (some .int)) (by decide) rfl (Nat.le_of_ble_eq_true rfl) ?_
  intro p e s m args below meth c hx hb hr hts hown hlk hml hH hP hK hN ls hl
  subst hH
  have hl : lv_has ls 6 [(0, .ref (A 0)), (1, .ref (B 0)), (2, .int v2), (3, .int v3)] := hl
  have ww0 := hts (.fieldLink RX3 21 "SafeBlocks$Web" "second" "[I") (List.mem_cons_of_mem _ wd_41_16)
  have ww1 := hts (.fieldLink RX3 29 "SafeBlocks$Web" "nodes" "I") (List.mem_cons_of_mem _ wd_41_18)
  have hiX4 : ∀ w ∈ u_ws RX4 TX4 16, w ∈ wAll yX3_nodeAt cX3_nodeAt 6 (some .int) := fun w h => List.mem_cons_of_mem _ (inlX4 w h)
  unfold Ro_m_nodeAt at hf
  refine lv_aload_n hx hb dX3_nodeAt_0 rfl (lv_at hl 1 rfl) ?_
  refine va_get (D := (dC, dI)) (ci := 4) (v := .ref (B 2)) (C := RX4) (T := TX4) (N := 16) hx hb hts hiX4 hown hK hP 2 rfl rfl 1 (by decide) ww0 (fun _ h9 => h9) rfl dX3_nodeAt_1 ?_
  refine lv_iload_n hx hb dX3_nodeAt_4 rfl (lv_at hl 2 rfl) ?_
  obtain ⟨g5, hv, hf⟩ := ob_bind hf
  refine kg_iald hx hb hK hP 4 0 rfl rfl hv dX3_nodeAt_5 ?_
  refine lv_istore (lv' := [(4, .int g5), (0, .ref (A 0)), (1, .ref (B 0)), (2, .int v2), (3, .int v3)]) hx hb dX3_nodeAt_6 hl (by decide) rfl (fun ls hl => ?_)
  refine lv_iconst (v := 0) hx hb dX3_nodeAt_8 (by decide) ?_
  refine lv_istore (lv' := [(5, .int 0), (4, .int g5), (0, .ref (A 0)), (1, .ref (B 0)), (2, .int v2), (3, .int v3)]) hx hb dX3_nodeAt_9 hl (by decide) rfl (fun ls hl => ?_)
  have hlp11 : ∀ (n : Nat) (v4 : Int32) (v5 : Int32), iter (fun p : Int32 × Int32 => Ro_m_nodeAt_s11 x y v2 v3 p.1 p.2) n (v4, v5) = some r0 → ∀ (ls : Array Slot), lv_has ls 6 [(0, .ref (A 0)), (1, .ref (B 0)), (2, .int v2), (3, .int v3), (4, .int v4), (5, .int v5)] → W p l e ({ frames := 3, cells := 0, slots := 0, locals := 88 } : Room) s m args below meth c s.heap [] 0 0 (MQ below (QRi s.heap r0) args s 0 0 NoA) (F0 m 11 ls []) := by
    intro  n
    induction n with
    | zero => intro v4 v5 hf; exact iter_zero hf
    | succ n ih1 =>
      intro v4 v5 hf ls hl
      obtain ⟨q1, hf, hk1⟩ := iter_succ hf
      have hf : Ro_m_nodeAt_s11 x y v2 v3 v4 v5 = some q1 := hf
      unfold Ro_m_nodeAt_s11 at hf
      refine lv_iload hx hb dX3_nodeAt_11 (lv_at hl 5 rfl) ?_
      refine lv_iload_n hx hb dX3_nodeAt_13 rfl (lv_at hl 3 rfl) ?_
      refine kg_icmp_ge (tgt := 42) hx hb hf dX3_nodeAt_14 (by decide) (fun hc hf => ?_) (fun hc hf => ?_)
      · obtain ⟨qq, hf, hqq⟩ := omap_some hf
        have hkq : qq = r0 := by rw [← hqq] at hk1; exact hk1
        rw [hkq] at hf
        clear hkq hqq
        refine lv_iload hx hb dX3_nodeAt_42 (lv_at hl 4 rfl) ?_
        obtain rfl := Option.some.inj hf
        exact kg_iretR hx hb hr hlk rfl dX3_nodeAt_44
      · refine lv_iload hx hb dX3_nodeAt_17 (lv_at hl 5 rfl) ?_
        refine lv_aload_n hx hb dX3_nodeAt_19 rfl (lv_at hl 1 rfl) ?_
        refine va_get (D := (dC, dI)) (ci := 4) (v := .int (Wb_nodes y)) (C := RX4) (T := TX4) (N := 16) hx hb hts hiX4 hown hK hP 2 rfl rfl 10 (by decide) ww1 (fun _ h9 => h9) rfl dX3_nodeAt_20 ?_
        refine kg_icmp_ge (tgt := 42) hx hb hf dX3_nodeAt_23 (by decide) (fun hc hf => ?_) (fun hc hf => ?_)
        · obtain ⟨qq, hf, hqq⟩ := omap_some hf
          have hkq : qq = r0 := by rw [← hqq] at hk1; exact hk1
          rw [hkq] at hf
          clear hkq hqq
          refine lv_iload hx hb dX3_nodeAt_42 (lv_at hl 4 rfl) ?_
          obtain rfl := Option.some.inj hf
          exact kg_iretR hx hb hr hlk rfl dX3_nodeAt_44
        · refine lv_aload_n hx hb dX3_nodeAt_26 rfl (lv_at hl 0 rfl) ?_
          refine lv_aload_n hx hb dX3_nodeAt_27 rfl (lv_at hl 1 rfl) ?_
          refine lv_iload_n hx hb dX3_nodeAt_28 rfl (lv_at hl 2 rfl) ?_
          refine lv_iload hx hb dX3_nodeAt_29 (lv_at hl 4 rfl) ?_
          obtain ⟨g31, hc, hf⟩ := ob_bind hf
          have hPc : va_P (dC, dI) vwCl (wRo cI cJ A x ++ (wWb cI cJ B y)) s.heap := hP
          refine kg_retRi (va_runV (As := [.ref (B 0), .int v2, .int v4]) (rest := []) ⟨hx, hb, hml, hown, hts⟩ (c_X3_leastNearer l dC dI cI cJ A B s.heap x y v2 v4 _ hc) (cwV 3 hts (gw_V wd_42_8 wd_42_5 wd_42_6 wd_42_7 wd_2_3) rfl rfl rfl qX3_leastNearer ⟨Nat.le_of_ble_eq_true rfl, Nat.le_of_ble_eq_true rfl⟩) (kg_preVR (ci := 3) (q := (RX3, TX3, 1)) (q0 := 0) hPc hK hN rfl rfl) rfl rfl hl.1 rfl (lv_room (Nat.le_of_ble_eq_true rfl)) dX3_nodeAt_31 ⟨Nat.zero_le _, Nat.zero_le _⟩) ?_
          refine lv_istore (lv' := [(4, .int g31), (0, .ref (A 0)), (1, .ref (B 0)), (2, .int v2), (3, .int v3), (5, .int v5)]) hx hb dX3_nodeAt_34 hl (by decide) rfl (fun ls hl => ?_)
          refine lv_iinc (v := (v5 + 1)) (lv' := [(5, .int (v5 + 1)), (4, .int g31), (0, .ref (A 0)), (1, .ref (B 0)), (2, .int v2), (3, .int v3)]) hx hb dX3_nodeAt_36 hl (k := 5) rfl rfl (by decide) rfl (fun ls hl => ?_)
          refine lv_goto (tgt := 11) hx hb dX3_nodeAt_39 (by decide) ?_
          obtain rfl := Option.some.inj hf
          exact ih1 g31 (v5 + 1) hk1 _ (lv_sub hl [2, 3, 4, 5, 1, 0] rfl)
  exact hlp11  FU g5 0 hf _ (lv_sub hl [2, 3, 4, 5, 1, 0] rfl)
