set_option maxHeartbeats 4000000 in
set_option maxRecDepth 100000 in
theorem c_X1_lives (l : Launch) (dC : Nat → ClassId) (dI : Nat → Nat → Nat) (cI cJ : ClassId) (A : Nat → Nat) (hq : Heap) (L : Nat) (x : NmS) (v1 : Int32) (r0 : Bool) (hf : Nm_m_lives L x v1 = some r0) : MRi l yX1_lives (wAll yX1_lives cX1_lives 2 (some .boolean)) ({ frames := 1, cells := 0, slots := 0, locals := 40 } : Room) [.ref (A 0), .int v1] hq (dC, dI) (vTy cI cJ) (wNm cI cJ L A x) (b2i r0) := by
  refine kg_metR (cc := cX1_lives) (maxL := 2) (ret := (some .boolean)) (by decide) rfl (Nat.le_of_ble_eq_true rfl) ?_
  intro p e s m args below meth c hx hb hr hts hown hlk hml hH hP hK hN ls hl
  subst hH
  have hl : lv_has ls 2 [(0, .ref (A 0)), (1, .int v1)] := hl
  have ww0 := hts (.fieldLink RX1 24 "SafeBlocks$Names" "items" "I") (List.mem_cons_of_mem _ wd_3_10)
  have ww1 := hts (.fieldLink RX1 18 "SafeBlocks$Names" "endedBy" "[I") (List.mem_cons_of_mem _ wd_3_8)
  have hiX1 : ∀ w ∈ u_ws RX1 TX1 6, w ∈ wAll yX1_lives cX1_lives 2 (some .boolean) := fun w h => List.mem_cons_of_mem _ (inlX1 w h)
  unfold Nm_m_lives at hf
  refine lv_iload_n hx hb dX1_lives_0 rfl (lv_at hl 1 rfl) ?_
  refine kg_if_lt (tgt := 26) hx hb hf dX1_lives_1 (by decide) (fun hc hf => ?_) (fun hc hf => ?_)
  · refine lv_iconst (v := 0) hx hb dX1_lives_26 (by decide) ?_
    obtain rfl := Option.some.inj hf
    exact kg_zretR (b := false) hx hb hr hlk rfl rfl dX1_lives_27
  · refine lv_iload_n hx hb dX1_lives_4 rfl (lv_at hl 1 rfl) ?_
    refine lv_aload_n hx hb dX1_lives_5 rfl (lv_at hl 0 rfl) ?_
    refine va_get (D := (dC, dI)) (ci := 1) (v := .int (Nm_items x)) (C := RX1) (T := TX1) (N := 6) hx hb hts hiX1 hown hK hP 0 rfl rfl 4 (by decide) ww0 (fun _ h9 => h9) rfl dX1_lives_6 ?_
    refine kg_icmp_ge (tgt := 26) hx hb hf dX1_lives_9 (by decide) (fun hc hf => ?_) (fun hc hf => ?_)
    · refine lv_iconst (v := 0) hx hb dX1_lives_26 (by decide) ?_
      obtain rfl := Option.some.inj hf
      exact kg_zretR (b := false) hx hb hr hlk rfl rfl dX1_lives_27
    · refine lv_aload_n hx hb dX1_lives_12 rfl (lv_at hl 0 rfl) ?_
      refine va_get (D := (dC, dI)) (ci := 1) (v := .ref (A 3)) (C := RX1) (T := TX1) (N := 6) hx hb hts hiX1 hown hK hP 0 rfl rfl 2 (by decide) ww1 (fun _ h9 => h9) rfl dX1_lives_13 ?_
      refine lv_iload_n hx hb dX1_lives_16 rfl (lv_at hl 1 rfl) ?_
      obtain ⟨g17, hv, hf⟩ := ob_bind hf
      refine kg_iald hx hb hK hP 3 0 rfl rfl hv dX1_lives_17 ?_
      refine lv_iconst (v := (-1)) hx hb dX1_lives_18 (by decide) ?_
      refine kg_icmp_ne (tgt := 26) hx hb hf dX1_lives_19 (by decide) (fun hc hf => ?_) (fun hc hf => ?_)
      · refine lv_iconst (v := 0) hx hb dX1_lives_26 (by decide) ?_
        obtain rfl := Option.some.inj hf
        exact kg_zretR (b := false) hx hb hr hlk rfl rfl dX1_lives_27
      · refine lv_iconst (v := 1) hx hb dX1_lives_22 (by decide) ?_
        refine lv_goto (tgt := 27) hx hb dX1_lives_23 (by decide) ?_
        obtain rfl := Option.some.inj hf
        exact kg_zretR (b := true) hx hb hr hlk rfl rfl dX1_lives_27
set_option maxHeartbeats 4000000 in
set_option maxRecDepth 100000 in
theorem c_X1_clear (l : Launch) (dC : Nat → ClassId) (dI : Nat → Nat → Nat) (cI cJ : ClassId) (A : Nat → Nat) (hq : Nat) (L : Nat) (x : NmS) (r0 : NmS) (hf : Nm_m_clear L x = some r0) : MWv l yX1_clear (wAll yX1_clear cX1_clear 1 none) ({ frames := 1, cells := 0, slots := 0, locals := 40 } : Room) [.ref (A 0)] hq (dC, dI) (vTy cI cJ) (wNm cI cJ L A x) (wNm cI cJ L A r0) := by
  refine kg_metW (Qc := fun Q => QWv (dC, dI) Q (wNm cI cJ L A r0)) (cc := cX1_clear) (maxL := 1) (ret := none) (by decide) rfl (Nat.le_of_ble_eq_true rfl) ?_
  intro p e s m args below meth c Q hx hb hr hts hown hlk hml hP hK hN hD hA hS ls hl
  have hl : lv_has ls 1 [(0, .ref (A 0))] := hl
  have ww0 := hts (.fieldLink RX1 24 "SafeBlocks$Names" "items" "I") (List.mem_cons_of_mem _ wd_3_10)
  have ww1 := hts (.fieldLink RX1 28 "SafeBlocks$Names" "groups" "I") (List.mem_cons_of_mem _ wd_3_11)
  have hiX1 : ∀ w ∈ u_ws RX1 TX1 6, w ∈ wAll yX1_clear cX1_clear 1 none := fun w h => List.mem_cons_of_mem _ (inlX1 w h)
  suffices hgo : ∀ (H : Heap) (locs : List Loc), va_P (dC, dI) vwCl (wNm cI cJ L A x) H → va_S Q s.heap H locs → W p l e ({ frames := 1, cells := 0, slots := 0, locals := 40 } : Room) s m args below meth c H locs 0 0 (MQ below (QWv (dC, dI) Q (wNm cI cJ L A r0)) args s 0 0 Q) (F0 m 0 ls []) from hgo _ _ hP hS
  clear hP hS
  intro H locs hP hS
  unfold Nm_m_clear at hf
  refine lv_aload_n hx hb dX1_clear_0 rfl (lv_at hl 0 rfl) ?_
  refine lv_iconst (v := 0) hx hb dX1_clear_1 (by decide) ?_
  refine kg_put (ci := 1) (v := .int 0) (ty := .int) (C := RX1) (T := TX1) (N := 6) (wz := (wNm cI cJ L A (Nm_set_items x 0))) hx hb hts hiX1 tyX1 tyX1_ok nmX1 hown hK hP hD hS 0 rfl rfl 4 (by decide) ww0 (fun _ h9 => h9) rfl (tyX1_ok 4 (by decide)) rfl rfl (Nat.le_of_ble_eq_true rfl) dX1_clear_2 (sc_Nm_items _ _ _ _ _ _) (fun H locs hP hD hS => ?_)
  refine lv_aload_n hx hb dX1_clear_5 rfl (lv_at hl 0 rfl) ?_
  refine lv_iconst (v := 0) hx hb dX1_clear_6 (by decide) ?_
  refine kg_put (ci := 1) (v := .int 0) (ty := .int) (C := RX1) (T := TX1) (N := 6) (wz := (wNm cI cJ L A (Nm_set_groups (Nm_set_items x 0) 0))) hx hb hts hiX1 tyX1 tyX1_ok nmX1 hown hK hP hD hS 0 rfl rfl 5 (by decide) ww1 (fun _ h9 => h9) rfl (tyX1_ok 5 (by decide)) rfl rfl (Nat.le_of_ble_eq_true rfl) dX1_clear_7 (sc_Nm_groups _ _ _ _ _ _) (fun H locs hP hD hS => ?_)
  obtain rfl := Option.some.inj hf
  exact kg_vretW hx hb hr hlk hP hD hS dX1_clear_10
set_option maxHeartbeats 4000000 in
set_option maxRecDepth 100000 in
theorem c_X1_begin (l : Launch) (dC : Nat → ClassId) (dI : Nat → Nat → Nat) (cI cJ : ClassId) (A : Nat → Nat) (hq : Nat) (L : Nat) (x : NmS) (r0 : NmS) (hf : Nm_m_begin L x = some r0) : MWv l yX1_begin (wAll yX1_begin cX1_begin 1 none) ({ frames := 1, cells := 0, slots := 0, locals := 40 } : Room) [.ref (A 0)] hq (dC, dI) (vTy cI cJ) (wNm cI cJ L A x) (wNm cI cJ L A r0) := by
  refine kg_metW (Qc := fun Q => QWv (dC, dI) Q (wNm cI cJ L A r0)) (cc := cX1_begin) (maxL := 1) (ret := none) (by decide) rfl (Nat.le_of_ble_eq_true rfl) ?_
  intro p e s m args below meth c Q hx hb hr hts hown hlk hml hP hK hN hD hA hS ls hl
  have hl : lv_has ls 1 [(0, .ref (A 0))] := hl
  have ww0 := hts (.fieldLink RX1 24 "SafeBlocks$Names" "items" "I") (List.mem_cons_of_mem _ wd_3_10)
  have ww1 := hts (.fieldLink RX1 9 "SafeBlocks$Names" "of" "[I") (List.mem_cons_of_mem _ wd_3_6)
  have ww2 := hts (.fieldLink RX1 15 "SafeBlocks$Names" "size" "[I") (List.mem_cons_of_mem _ wd_3_7)
  have ww3 := hts (.fieldLink RX1 18 "SafeBlocks$Names" "endedBy" "[I") (List.mem_cons_of_mem _ wd_3_8)
  have ww4 := hts (.fieldLink RX1 21 "SafeBlocks$Names" "into" "[I") (List.mem_cons_of_mem _ wd_3_9)
  have ww5 := hts (.fieldLink RX1 28 "SafeBlocks$Names" "groups" "I") (List.mem_cons_of_mem _ wd_3_11)
  have hiX1 : ∀ w ∈ u_ws RX1 TX1 6, w ∈ wAll yX1_begin cX1_begin 1 none := fun w h => List.mem_cons_of_mem _ (inlX1 w h)
  suffices hgo : ∀ (H : Heap) (locs : List Loc), va_P (dC, dI) vwCl (wNm cI cJ L A x) H → va_S Q s.heap H locs → W p l e ({ frames := 1, cells := 0, slots := 0, locals := 40 } : Room) s m args below meth c H locs 0 0 (MQ below (QWv (dC, dI) Q (wNm cI cJ L A r0)) args s 0 0 Q) (F0 m 0 ls []) from hgo _ _ hP hS
  clear hP hS
  intro H locs hP hS
  unfold Nm_m_begin at hf
  refine lv_aload_n hx hb dX1_begin_0 rfl (lv_at hl 0 rfl) ?_
  refine va_get (D := (dC, dI)) (ci := 1) (v := .int (Nm_items x)) (C := RX1) (T := TX1) (N := 6) hx hb hts hiX1 hown hK hP 0 rfl rfl 4 (by decide) ww0 (fun _ h9 => h9) rfl dX1_begin_1 ?_
  refine lv_aload_n hx hb dX1_begin_4 rfl (lv_at hl 0 rfl) ?_
  refine va_get (D := (dC, dI)) (ci := 1) (v := .ref (A 1)) (C := RX1) (T := TX1) (N := 6) hx hb hts hiX1 hown hK hP 0 rfl rfl 0 (by decide) ww1 (fun _ h9 => h9) rfl dX1_begin_5 ?_
  refine va_alen (v := Int32.ofNat L) (ty := .int) hx hb hK hP 1 0 rfl rfl rfl dX1_begin_8 ?_
  refine kg_icmp_lt (tgt := 13) hx hb hf dX1_begin_9 (by decide) (fun hc hf => ?_) (fun hc hf => ?_)
  · refine lv_aload_n hx hb dX1_begin_13 rfl (lv_at hl 0 rfl) ?_
    refine va_get (D := (dC, dI)) (ci := 1) (v := .ref (A 1)) (C := RX1) (T := TX1) (N := 6) hx hb hts hiX1 hown hK hP 0 rfl rfl 0 (by decide) ww1 (fun _ h9 => h9) rfl dX1_begin_14 ?_
    refine lv_aload_n hx hb dX1_begin_17 rfl (lv_at hl 0 rfl) ?_
    refine va_get (D := (dC, dI)) (ci := 1) (v := .int (Nm_items x)) (C := RX1) (T := TX1) (N := 6) hx hb hts hiX1 hown hK hP 0 rfl rfl 4 (by decide) ww0 (fun _ h9 => h9) rfl dX1_begin_18 ?_
    refine lv_aload_n hx hb dX1_begin_21 rfl (lv_at hl 0 rfl) ?_
    refine va_get (D := (dC, dI)) (ci := 1) (v := .int (Nm_items x)) (C := RX1) (T := TX1) (N := 6) hx hb hts hiX1 hown hK hP 0 rfl rfl 4 (by decide) ww0 (fun _ h9 => h9) rfl dX1_begin_22 ?_
    obtain ⟨f25, hv, hf⟩ := ob_bind hf
    refine kg_iast (wz := (wNm cI cJ L A (Nm_set_of x f25))) hx hb hK hP hD hS 1 0 rfl rfl hv dX1_begin_25 (sc_Nm_of _ _ _ _ _ _) (fun H locs hP hD hS => ?_)
    refine lv_aload_n hx hb dX1_begin_26 rfl (lv_at hl 0 rfl) ?_
    refine va_get (D := (dC, dI)) (ci := 1) (v := .ref (A 2)) (C := RX1) (T := TX1) (N := 6) hx hb hts hiX1 hown hK hP 0 rfl rfl 1 (by decide) ww2 (fun _ h9 => h9) rfl dX1_begin_27 ?_
    refine lv_aload_n hx hb dX1_begin_30 rfl (lv_at hl 0 rfl) ?_
    refine va_get (D := (dC, dI)) (ci := 1) (v := .int (Nm_items (Nm_set_of x f25))) (C := RX1) (T := TX1) (N := 6) hx hb hts hiX1 hown hK hP 0 rfl rfl 4 (by decide) ww0 (fun _ h9 => h9) rfl dX1_begin_31 ?_
    refine lv_iconst (v := 1) hx hb dX1_begin_34 (by decide) ?_
    obtain ⟨f35, hv, hf⟩ := ob_bind hf
    refine kg_iast (wz := (wNm cI cJ L A (Nm_set_size (Nm_set_of x f25) f35))) hx hb hK hP hD hS 2 0 rfl rfl hv dX1_begin_35 (sc_Nm_size _ _ _ _ _ _) (fun H locs hP hD hS => ?_)
    refine lv_aload_n hx hb dX1_begin_36 rfl (lv_at hl 0 rfl) ?_
    refine va_get (D := (dC, dI)) (ci := 1) (v := .ref (A 3)) (C := RX1) (T := TX1) (N := 6) hx hb hts hiX1 hown hK hP 0 rfl rfl 2 (by decide) ww3 (fun _ h9 => h9) rfl dX1_begin_37 ?_
    refine lv_aload_n hx hb dX1_begin_40 rfl (lv_at hl 0 rfl) ?_
    refine va_get (D := (dC, dI)) (ci := 1) (v := .int (Nm_items (Nm_set_size (Nm_set_of x f25) f35))) (C := RX1) (T := TX1) (N := 6) hx hb hts hiX1 hown hK hP 0 rfl rfl 4 (by decide) ww0 (fun _ h9 => h9) rfl dX1_begin_41 ?_
    refine lv_iconst (v := (-1)) hx hb dX1_begin_44 (by decide) ?_
    obtain ⟨f45, hv, hf⟩ := ob_bind hf
    refine kg_iast (wz := (wNm cI cJ L A (Nm_set_endedBy (Nm_set_size (Nm_set_of x f25) f35) f45))) hx hb hK hP hD hS 3 0 rfl rfl hv dX1_begin_45 (sc_Nm_endedBy _ _ _ _ _ _) (fun H locs hP hD hS => ?_)
    refine lv_aload_n hx hb dX1_begin_46 rfl (lv_at hl 0 rfl) ?_
    refine va_get (D := (dC, dI)) (ci := 1) (v := .ref (A 4)) (C := RX1) (T := TX1) (N := 6) hx hb hts hiX1 hown hK hP 0 rfl rfl 3 (by decide) ww4 (fun _ h9 => h9) rfl dX1_begin_47 ?_
    refine lv_aload_n hx hb dX1_begin_50 rfl (lv_at hl 0 rfl) ?_
    refine va_get (D := (dC, dI)) (ci := 1) (v := .int (Nm_items (Nm_set_endedBy (Nm_set_size (Nm_set_of x f25) f35) f45))) (C := RX1) (T := TX1) (N := 6) hx hb hts hiX1 hown hK hP 0 rfl rfl 4 (by decide) ww0 (fun _ h9 => h9) rfl dX1_begin_51 ?_
    refine lv_iconst (v := (-1)) hx hb dX1_begin_54 (by decide) ?_
    obtain ⟨f55, hv, hf⟩ := ob_bind hf
    refine kg_iast (wz := (wNm cI cJ L A (Nm_set_into (Nm_set_endedBy (Nm_set_size (Nm_set_of x f25) f35) f45) f55))) hx hb hK hP hD hS 4 0 rfl rfl hv dX1_begin_55 (sc_Nm_into _ _ _ _ _ _) (fun H locs hP hD hS => ?_)
    refine lv_aload_n hx hb dX1_begin_56 rfl (lv_at hl 0 rfl) ?_
    refine lv_dup hx hb dX1_begin_57 rfl ?_
    refine va_get (D := (dC, dI)) (ci := 1) (v := .int (Nm_items (Nm_set_into (Nm_set_endedBy (Nm_set_size (Nm_set_of x f25) f35) f45) f55))) (C := RX1) (T := TX1) (N := 6) hx hb hts hiX1 hown hK hP 0 rfl rfl 4 (by decide) ww0 (fun _ h9 => h9) rfl dX1_begin_58 ?_
    refine lv_iconst (v := 1) hx hb dX1_begin_61 (by decide) ?_
    refine lv_iadd hx hb dX1_begin_62 ?_
    refine kg_put (ci := 1) (v := .int ((Nm_items (Nm_set_into (Nm_set_endedBy (Nm_set_size (Nm_set_of x f25) f35) f45) f55)) + 1)) (ty := .int) (C := RX1) (T := TX1) (N := 6) (wz := (wNm cI cJ L A (Nm_set_items (Nm_set_into (Nm_set_endedBy (Nm_set_size (Nm_set_of x f25) f35) f45) f55) ((Nm_items (Nm_set_into (Nm_set_endedBy (Nm_set_size (Nm_set_of x f25) f35) f45) f55)) + 1)))) hx hb hts hiX1 tyX1 tyX1_ok nmX1 hown hK hP hD hS 0 rfl rfl 4 (by decide) ww0 (fun _ h9 => h9) rfl (tyX1_ok 4 (by decide)) rfl rfl (Nat.le_of_ble_eq_true rfl) dX1_begin_63 (sc_Nm_items _ _ _ _ _ _) (fun H locs hP hD hS => ?_)
    refine lv_aload_n hx hb dX1_begin_66 rfl (lv_at hl 0 rfl) ?_
    refine lv_dup hx hb dX1_begin_67 rfl ?_
    refine va_get (D := (dC, dI)) (ci := 1) (v := .int (Nm_groups (Nm_set_items (Nm_set_into (Nm_set_endedBy (Nm_set_size (Nm_set_of x f25) f35) f45) f55) ((Nm_items (Nm_set_into (Nm_set_endedBy (Nm_set_size (Nm_set_of x f25) f35) f45) f55)) + 1)))) (C := RX1) (T := TX1) (N := 6) hx hb hts hiX1 hown hK hP 0 rfl rfl 5 (by decide) ww5 (fun _ h9 => h9) rfl dX1_begin_68 ?_
    refine lv_iconst (v := 1) hx hb dX1_begin_71 (by decide) ?_
    refine lv_iadd hx hb dX1_begin_72 ?_
    refine kg_put (ci := 1) (v := .int ((Nm_groups (Nm_set_items (Nm_set_into (Nm_set_endedBy (Nm_set_size (Nm_set_of x f25) f35) f45) f55) ((Nm_items (Nm_set_into (Nm_set_endedBy (Nm_set_size (Nm_set_of x f25) f35) f45) f55)) + 1))) + 1)) (ty := .int) (C := RX1) (T := TX1) (N := 6) (wz := (wNm cI cJ L A (Nm_set_groups (Nm_set_items (Nm_set_into (Nm_set_endedBy (Nm_set_size (Nm_set_of x f25) f35) f45) f55) ((Nm_items (Nm_set_into (Nm_set_endedBy (Nm_set_size (Nm_set_of x f25) f35) f45) f55)) + 1)) ((Nm_groups (Nm_set_items (Nm_set_into (Nm_set_endedBy (Nm_set_size (Nm_set_of x f25) f35) f45) f55) ((Nm_items (Nm_set_into (Nm_set_endedBy (Nm_set_size (Nm_set_of x f25) f35) f45) f55)) + 1))) + 1)))) hx hb hts hiX1 tyX1 tyX1_ok nmX1 hown hK hP hD hS 0 rfl rfl 5 (by decide) ww5 (fun _ h9 => h9) rfl (tyX1_ok 5 (by decide)) rfl rfl (Nat.le_of_ble_eq_true rfl) dX1_begin_73 (sc_Nm_groups _ _ _ _ _ _) (fun H locs hP hD hS => ?_)
    obtain rfl := Option.some.inj hf
    exact kg_vretW hx hb hr hlk hP hD hS dX1_begin_76
  · obtain rfl := Option.some.inj hf
    exact kg_vretW hx hb hr hlk hP hD hS dX1_begin_12
set_option maxHeartbeats 4000000 in
set_option maxRecDepth 100000 in
theorem c_X5_holds (l : Launch) (dC : Nat → ClassId) (dI : Nat → Nat → Nat) (cI cJ : ClassId) (hq : Heap) (v0 : Int64) (v2 : Int32) (r0 : Bool) (hf : SB_m_holds v0 v2 = some r0) : MRi l yX5_holds (wAll yX5_holds cX5_holds 3 (some .boolean)) ({ frames := 1, cells := 0, slots := 0, locals := 40 } : Room) [.long v0, .int v2] hq (dC, dI) (vTy cI cJ) ([] : va_W) (b2i r0) := by
  refine kg_metR (cc := cX5_holds) (maxL := 3) (ret := (some .boolean)) (by decide) rfl (Nat.le_of_ble_eq_true rfl) ?_
  intro p e s m args below meth c hx hb hr hts hown hlk hml hH hP hK hN ls hl
  subst hH
  have hl : lv_has ls 3 [(0, .long v0), (2, .int v2)] := hl
  unfold SB_m_holds at hf
  refine lv_lload_n hx hb dX5_holds_0 rfl (lv_at hl 0 rfl) ?_
  refine lv_iload_n hx hb dX5_holds_1 rfl (lv_at hl 1 rfl) ?_
  refine lv_lushr hx hb dX5_holds_2 rfl ?_
  refine lv_lconst (v := 1) hx hb dX5_holds_3 (by decide) ?_
  refine lv_land hx hb dX5_holds_4 ?_
  refine lv_lconst (v := 0) hx hb dX5_holds_5 (by decide) ?_
  refine W.lcmp hx hb dX5_holds_6 ?_
  refine kg_if_eq (tgt := 14) hx hb hf dX5_holds_7 (by decide) (fun hc hf => ?_) (fun hc hf => ?_)
  · refine lv_iconst (v := 0) hx hb dX5_holds_14 (by decide) ?_
    obtain rfl := Option.some.inj hf
    exact kg_zretR (b := false) hx hb hr hlk rfl rfl dX5_holds_15
  · refine lv_iconst (v := 1) hx hb dX5_holds_10 (by decide) ?_
    refine lv_goto (tgt := 15) hx hb dX5_holds_11 (by decide) ?_
    obtain rfl := Option.some.inj hf
    exact kg_zretR (b := true) hx hb hr hlk rfl rfl dX5_holds_15
set_option maxHeartbeats 4000000 in
set_option maxRecDepth 100000 in
theorem c_X1_keeper (l : Launch) (dC : Nat → ClassId) (dI : Nat → Nat → Nat) (cI cJ : ClassId) (A : Nat → Nat) (hq : Heap) (L : Nat) (x : NmS) (v1 : Int64) (r0 : Int32) (hf : Nm_m_keeper L x v1 = some r0) : MRi l yX1_keeper (wAll yX1_keeper cX1_keeper 5 (some .int)) ({ frames := 2, cells := 0, slots := 0, locals := 62 } : Room) [.ref (A 0), .long v1] hq (dC, dI) (vTy cI cJ) (wNm cI cJ L A x) r0 := by
  refine kg_metR (cc := cX1_keeper) (maxL := 5) (ret := (some .int)) (by decide) rfl (Nat.le_of_ble_eq_true rfl) ?_
  intro p e s m args below meth c hx hb hr hts hown hlk hml hH hP hK hN ls hl
  subst hH
  have hl : lv_has ls 5 [(0, .ref (A 0)), (1, .long v1)] := hl
  have ww0 := hts (.fieldLink RX1 24 "SafeBlocks$Names" "items" "I") (List.mem_cons_of_mem _ wd_3_10)
  have ww1 := hts (.initialized RX5) (List.mem_cons_of_mem _ wd_1_2)
  have ww2 := hts (.static yX5_holds) (List.mem_cons_of_mem _ wd_11_6)
  have ww3 := hts (.fieldLink RX1 15 "SafeBlocks$Names" "size" "[I") (List.mem_cons_of_mem _ wd_3_7)
  have hiX1 : ∀ w ∈ u_ws RX1 TX1 6, w ∈ wAll yX1_keeper cX1_keeper 5 (some .int) := fun w h => List.mem_cons_of_mem _ (inlX1 w h)
  unfold Nm_m_keeper at hf
  refine lv_iconst (v := (-1)) hx hb dX1_keeper_0 (by decide) ?_
  refine lv_istore_n (lv' := [(3, .int (-1)), (0, .ref (A 0)), (1, .long v1)]) hx hb dX1_keeper_1 rfl hl (by decide) rfl (fun ls hl => ?_)
  refine lv_iconst (v := 0) hx hb dX1_keeper_2 (by decide) ?_
  refine lv_istore (lv' := [(4, .int 0), (3, .int (-1)), (0, .ref (A 0)), (1, .long v1)]) hx hb dX1_keeper_3 hl (by decide) rfl (fun ls hl => ?_)
  have hlp5 : ∀ (n : Nat) (v3 : Int32) (v4 : Int32), iter (fun p : Int32 × Int32 => Nm_m_keeper_s5 L x v1 p.1 p.2) n (v3, v4) = some r0 → ∀ (ls : Array Slot), lv_has ls 5 [(0, .ref (A 0)), (1, .long v1), (3, .int v3), (4, .int v4)] → W p l e ({ frames := 2, cells := 0, slots := 0, locals := 62 } : Room) s m args below meth c s.heap [] 0 0 (MQ below (QRi s.heap r0) args s 0 0 NoA) (F0 m 5 ls []) := by
    intro  n
    induction n with
    | zero => intro v3 v4 hf; exact iter_zero hf
    | succ n ih1 =>
      intro v3 v4 hf ls hl
      obtain ⟨q1, hf, hk1⟩ := iter_succ hf
      have hf : Nm_m_keeper_s5 L x v1 v3 v4 = some q1 := hf
      unfold Nm_m_keeper_s5 at hf
      refine lv_iload hx hb dX1_keeper_5 (lv_at hl 3 rfl) ?_
      refine lv_aload_n hx hb dX1_keeper_7 rfl (lv_at hl 0 rfl) ?_
      refine va_get (D := (dC, dI)) (ci := 1) (v := .int (Nm_items x)) (C := RX1) (T := TX1) (N := 6) hx hb hts hiX1 hown hK hP 0 rfl rfl 4 (by decide) ww0 (fun _ h9 => h9) rfl dX1_keeper_8 ?_
      refine kg_icmp_ge (tgt := 53) hx hb hf dX1_keeper_11 (by decide) (fun hc hf => ?_) (fun hc hf => ?_)
      · obtain ⟨qq, hf, hqq⟩ := omap_some hf
        have hkq : qq = r0 := by rw [← hqq] at hk1; exact hk1
        rw [hkq] at hf
        clear hkq hqq
        refine lv_iload_n hx hb dX1_keeper_53 rfl (lv_at hl 2 rfl) ?_
        obtain rfl := Option.some.inj hf
        exact kg_iretR hx hb hr hlk rfl dX1_keeper_54
      · refine lv_lload_n hx hb dX1_keeper_14 rfl (lv_at hl 1 rfl) ?_
        refine lv_iload hx hb dX1_keeper_15 (lv_at hl 3 rfl) ?_
        obtain ⟨g17, hc, hf⟩ := ob_bind hf
        have hPc : va_P (dC, dI) vwCl ([] : va_W) s.heap := fun k q h => by cases h
        refine kg_retRi (va_runSN (As := [.long v1, .int v4]) (rest := []) ⟨hx, hb, hml, hown, hts⟩ (c_X5_holds l dC dI cI cJ  s.heap v1 v4 _ hc) (⟨va_cnB 2 hts (gw_A wd_11_7) rfl rfl rfl hN.1 ww1 qX5_holds_n ⟨Nat.le_of_ble_eq_true rfl, Nat.le_of_ble_eq_true rfl⟩, ww2, trivial⟩) (kg_preSR hPc hK hN) rfl rfl hl.1 rfl (lv_room (Nat.le_of_ble_eq_true rfl)) dX1_keeper_17 ⟨Nat.zero_le _, Nat.zero_le _⟩) ?_
        refine kg_b_eq (tgt := 47) hx hb hf dX1_keeper_20 (by decide) (fun hc hf => ?_) (fun hc hf => ?_)
        · refine lv_iinc (v := (v4 + 1)) (lv' := [(4, .int (v4 + 1)), (0, .ref (A 0)), (1, .long v1), (3, .int v3)]) hx hb dX1_keeper_47 hl (k := 3) rfl rfl (by decide) rfl (fun ls hl => ?_)
          refine lv_goto (tgt := 5) hx hb dX1_keeper_50 (by decide) ?_
          obtain rfl := Option.some.inj hf
          exact ih1 v3 (v4 + 1) hk1 _ (lv_sub hl [1, 2, 3, 0] rfl)
        · refine lv_iload_n hx hb dX1_keeper_23 rfl (lv_at hl 2 rfl) ?_
          refine lv_iconst (v := (-1)) hx hb dX1_keeper_24 (by decide) ?_
          refine kg_icmp_eq (tgt := 44) hx hb hf dX1_keeper_25 (by decide) (fun hc hf => ?_) (fun hc hf => ?_)
          · refine lv_iload hx hb dX1_keeper_44 (lv_at hl 3 rfl) ?_
            refine lv_istore_n (lv' := [(3, .int v4), (0, .ref (A 0)), (1, .long v1), (4, .int v4)]) hx hb dX1_keeper_46 rfl hl (by decide) rfl (fun ls hl => ?_)
            refine lv_iinc (v := (v4 + 1)) (lv' := [(4, .int (v4 + 1)), (3, .int v4), (0, .ref (A 0)), (1, .long v1)]) hx hb dX1_keeper_47 hl (k := 3) rfl rfl (by decide) rfl (fun ls hl => ?_)
            refine lv_goto (tgt := 5) hx hb dX1_keeper_50 (by decide) ?_
            obtain rfl := Option.some.inj hf
            exact ih1 v4 (v4 + 1) hk1 _ (lv_sub hl [2, 3, 1, 0] rfl)
          · refine lv_aload_n hx hb dX1_keeper_28 rfl (lv_at hl 0 rfl) ?_
            refine va_get (D := (dC, dI)) (ci := 1) (v := .ref (A 2)) (C := RX1) (T := TX1) (N := 6) hx hb hts hiX1 hown hK hP 0 rfl rfl 1 (by decide) ww3 (fun _ h9 => h9) rfl dX1_keeper_29 ?_
            refine lv_iload hx hb dX1_keeper_32 (lv_at hl 3 rfl) ?_
            obtain ⟨g34, hv, hf⟩ := ob_bind hf
            refine kg_iald hx hb hK hP 2 0 rfl rfl hv dX1_keeper_34 ?_
            refine lv_aload_n hx hb dX1_keeper_35 rfl (lv_at hl 0 rfl) ?_
            refine va_get (D := (dC, dI)) (ci := 1) (v := .ref (A 2)) (C := RX1) (T := TX1) (N := 6) hx hb hts hiX1 hown hK hP 0 rfl rfl 1 (by decide) ww3 (fun _ h9 => h9) rfl dX1_keeper_36 ?_
            refine lv_iload_n hx hb dX1_keeper_39 rfl (lv_at hl 2 rfl) ?_
            obtain ⟨g40, hv, hf⟩ := ob_bind hf
            refine kg_iald hx hb hK hP 2 0 rfl rfl hv dX1_keeper_40 ?_
            refine kg_icmp_le (tgt := 47) hx hb hf dX1_keeper_41 (by decide) (fun hc hf => ?_) (fun hc hf => ?_)
            · refine lv_iinc (v := (v4 + 1)) (lv' := [(4, .int (v4 + 1)), (0, .ref (A 0)), (1, .long v1), (3, .int v3)]) hx hb dX1_keeper_47 hl (k := 3) rfl rfl (by decide) rfl (fun ls hl => ?_)
              refine lv_goto (tgt := 5) hx hb dX1_keeper_50 (by decide) ?_
              obtain rfl := Option.some.inj hf
              exact ih1 v3 (v4 + 1) hk1 _ (lv_sub hl [1, 2, 3, 0] rfl)
            · refine lv_iload hx hb dX1_keeper_44 (lv_at hl 3 rfl) ?_
              refine lv_istore_n (lv' := [(3, .int v4), (0, .ref (A 0)), (1, .long v1), (4, .int v4)]) hx hb dX1_keeper_46 rfl hl (by decide) rfl (fun ls hl => ?_)
              refine lv_iinc (v := (v4 + 1)) (lv' := [(4, .int (v4 + 1)), (3, .int v4), (0, .ref (A 0)), (1, .long v1)]) hx hb dX1_keeper_47 hl (k := 3) rfl rfl (by decide) rfl (fun ls hl => ?_)
              refine lv_goto (tgt := 5) hx hb dX1_keeper_50 (by decide) ?_
              obtain rfl := Option.some.inj hf
              exact ih1 v4 (v4 + 1) hk1 _ (lv_sub hl [2, 3, 1, 0] rfl)
  exact hlp5  FU (-1) 0 hf _ (lv_sub hl [2, 3, 1, 0] rfl)
set_option maxHeartbeats 4000000 in
set_option maxRecDepth 100000 in
theorem c_X1_join (l : Launch) (dC : Nat → ClassId) (dI : Nat → Nat → Nat) (cI cJ : ClassId) (A : Nat → Nat) (hq : Nat) (L : Nat) (x : NmS) (v1 : Int64) (v3 : Int32) (r0 : NmS) (hf : Nm_m_join L x v1 v3 = some r0) : MWv l yX1_join (wAll yX1_join cX1_join 6 none) ({ frames := 3, cells := 0, slots := 0, locals := 86 } : Room) [.ref (A 0), .long v1, .int v3] hq (dC, dI) (vTy cI cJ) (wNm cI cJ L A x) (wNm cI cJ L A r0) := by
  refine kg_metW (Qc := fun Q => QWv (dC, dI) Q (wNm cI cJ L A r0)) (cc := cX1_join) (maxL := 6) (ret := none) (by decide) rfl (Nat.le_of_ble_eq_true rfl) ?_
  intro p e s m args below meth c Q hx hb hr hts hown hlk hml hP hK hN hD hA hS ls hl
  have hl : lv_has ls 6 [(0, .ref (A 0)), (1, .long v1), (3, .int v3)] := hl
  have ww0 := hts (.fieldLink RX1 24 "SafeBlocks$Names" "items" "I") (List.mem_cons_of_mem _ wd_3_10)
  have ww1 := hts (.fieldLink RX1 9 "SafeBlocks$Names" "of" "[I") (List.mem_cons_of_mem _ wd_3_6)
  have ww2 := hts (.initialized RX5) (List.mem_cons_of_mem _ wd_1_2)
  have ww3 := hts (.static yX5_holds) (List.mem_cons_of_mem _ wd_11_6)
  have ww4 := hts (.fieldLink RX1 18 "SafeBlocks$Names" "endedBy" "[I") (List.mem_cons_of_mem _ wd_3_8)
  have ww5 := hts (.fieldLink RX1 21 "SafeBlocks$Names" "into" "[I") (List.mem_cons_of_mem _ wd_3_9)
  have ww6 := hts (.fieldLink RX1 15 "SafeBlocks$Names" "size" "[I") (List.mem_cons_of_mem _ wd_3_7)
  have ww7 := hts (.fieldLink RX1 28 "SafeBlocks$Names" "groups" "I") (List.mem_cons_of_mem _ wd_3_11)
  have hiX1 : ∀ w ∈ u_ws RX1 TX1 6, w ∈ wAll yX1_join cX1_join 6 none := fun w h => List.mem_cons_of_mem _ (inlX1 w h)
  suffices hgo : ∀ (H : Heap) (locs : List Loc), va_P (dC, dI) vwCl (wNm cI cJ L A x) H → va_S Q s.heap H locs → W p l e ({ frames := 3, cells := 0, slots := 0, locals := 86 } : Room) s m args below meth c H locs 0 0 (MQ below (QWv (dC, dI) Q (wNm cI cJ L A r0)) args s 0 0 Q) (F0 m 0 ls []) from hgo _ _ hP hS
  clear hP hS
  intro H locs hP hS
  unfold Nm_m_join at hf
  refine lv_aload_n hx hb dX1_join_0 rfl (lv_at hl 0 rfl) ?_
  refine lv_lload_n hx hb dX1_join_1 rfl (lv_at hl 1 rfl) ?_
  obtain ⟨g2, hc, hf⟩ := ob_bind hf
  have hPc : va_P (dC, dI) vwCl (wNm cI cJ L A x) H := hP
  refine kg_retRi (va_runV (As := [.long v1]) (rest := []) ⟨hx, hb, hml, hown, hts⟩ (c_X1_keeper l dC dI cI cJ A H L x v1 _ hc) (cwV 1 hts (gw_V wd_11_5 wd_11_17 wd_11_3 wd_11_4 wd_2_20) rfl rfl rfl qX1_keeper ⟨Nat.le_of_ble_eq_true rfl, Nat.le_of_ble_eq_true rfl⟩) (kg_preVR (ci := 1) (q := (RX1, TX1, 6)) (q0 := 0) hPc hK hN rfl rfl) rfl rfl hl.1 rfl (lv_room (Nat.le_of_ble_eq_true rfl)) dX1_join_2 ⟨Nat.zero_le _, Nat.zero_le _⟩) ?_
  refine lv_istore (lv' := [(4, .int g2), (0, .ref (A 0)), (1, .long v1), (3, .int v3)]) hx hb dX1_join_5 hl (by decide) rfl (fun ls hl => ?_)
  refine lv_iload hx hb dX1_join_7 (lv_at hl 0 rfl) ?_
  refine lv_iconst (v := (-1)) hx hb dX1_join_9 (by decide) ?_
  refine kg_icmp_ne (tgt := 14) hx hb hf dX1_join_10 (by decide) (fun hc hf => ?_) (fun hc hf => ?_)
  · refine lv_iconst (v := 0) hx hb dX1_join_14 (by decide) ?_
    refine lv_istore (lv' := [(5, .int 0), (4, .int g2), (0, .ref (A 0)), (1, .long v1), (3, .int v3)]) hx hb dX1_join_15 hl (by decide) rfl (fun ls hl => ?_)
    have hlp17 : ∀ (v4 : Int32), ∀ (n : Nat) (x : NmS) (v5 : Int32), iter (fun p : NmS × Int32 => Nm_m_join_s17 L v1 v3 v4 p.1 p.2) n (x, v5) = some r0 → ∀ (H : Heap) (locs : List Loc) (ls : Array Slot), va_P (dC, dI) vwCl (wNm cI cJ L A x) H → va_D Q (wNm cI cJ L A x) → va_S Q s.heap H locs → lv_has ls 6 [(0, .ref (A 0)), (1, .long v1), (3, .int v3), (4, .int v4), (5, .int v5)] → W p l e ({ frames := 3, cells := 0, slots := 0, locals := 86 } : Room) s m args below meth c H locs 0 0 (MQ below (QWv (dC, dI) Q (wNm cI cJ L A r0)) args s 0 0 Q) (F0 m 17 ls []) := by
      intro v4 n
      induction n with
      | zero => intro x v5 hf; exact iter_zero hf
      | succ n ih1 =>
        intro x v5 hf H locs ls hP hD hS hl
        obtain ⟨q1, hf, hk1⟩ := iter_succ hf
        have hf : Nm_m_join_s17 L v1 v3 v4 x v5 = some q1 := hf
        unfold Nm_m_join_s17 at hf
        refine lv_iload hx hb dX1_join_17 (lv_at hl 4 rfl) ?_
        refine lv_aload_n hx hb dX1_join_19 rfl (lv_at hl 0 rfl) ?_
        refine va_get (D := (dC, dI)) (ci := 1) (v := .int (Nm_items x)) (C := RX1) (T := TX1) (N := 6) hx hb hts hiX1 hown hK hP 0 rfl rfl 4 (by decide) ww0 (fun _ h9 => h9) rfl dX1_join_20 ?_
        refine kg_icmp_ge (tgt := 92) hx hb hf dX1_join_23 (by decide) (fun hc hf => ?_) (fun hc hf => ?_)
        · obtain ⟨qq, hf, hqq⟩ := omap_some hf
          have hkq : qq = r0 := by rw [← hqq] at hk1; exact hk1
          rw [hkq] at hf
          clear hkq hqq
          refine lv_iconst (v := 0) hx hb dX1_join_92 (by decide) ?_
          refine lv_istore (lv' := [(5, .int 0), (0, .ref (A 0)), (1, .long v1), (3, .int v3), (4, .int v4)]) hx hb dX1_join_93 hl (by decide) rfl (fun ls hl => ?_)
          have hlp95 : ∀ (v4 : Int32), ∀ (n : Nat) (x : NmS) (v5 : Int32), iter (fun p : NmS × Int32 => Nm_m_join_s95 L v1 v4 p.1 p.2) n (x, v5) = some r0 → ∀ (H : Heap) (locs : List Loc) (ls : Array Slot), va_P (dC, dI) vwCl (wNm cI cJ L A x) H → va_D Q (wNm cI cJ L A x) → va_S Q s.heap H locs → lv_has ls 6 [(0, .ref (A 0)), (1, .long v1), (4, .int v4), (5, .int v5)] → W p l e ({ frames := 3, cells := 0, slots := 0, locals := 86 } : Room) s m args below meth c H locs 0 0 (MQ below (QWv (dC, dI) Q (wNm cI cJ L A r0)) args s 0 0 Q) (F0 m 95 ls []) := by
            intro v4 n
            induction n with
            | zero => intro x v5 hf; exact iter_zero hf
            | succ n ih1 =>
              intro x v5 hf H locs ls hP hD hS hl
              obtain ⟨q1, hf, hk1⟩ := iter_succ hf
              have hf : Nm_m_join_s95 L v1 v4 x v5 = some q1 := hf
              unfold Nm_m_join_s95 at hf
              refine lv_iload hx hb dX1_join_95 (lv_at hl 3 rfl) ?_
              refine lv_aload_n hx hb dX1_join_97 rfl (lv_at hl 0 rfl) ?_
              refine va_get (D := (dC, dI)) (ci := 1) (v := .int (Nm_items x)) (C := RX1) (T := TX1) (N := 6) hx hb hts hiX1 hown hK hP 0 rfl rfl 4 (by decide) ww0 (fun _ h9 => h9) rfl dX1_join_98 ?_
              refine kg_icmp_ge (tgt := 133) hx hb hf dX1_join_101 (by decide) (fun hc hf => ?_) (fun hc hf => ?_)
              · obtain ⟨qq, hf, hqq⟩ := omap_some hf
                have hkq : qq = r0 := by rw [← hqq] at hk1; exact hk1
                rw [hkq] at hf
                clear hkq hqq
                obtain rfl := Option.some.inj hf
                exact kg_vretW hx hb hr hlk hP hD hS dX1_join_133
              · refine lv_lload_n hx hb dX1_join_104 rfl (lv_at hl 1 rfl) ?_
                refine lv_aload_n hx hb dX1_join_105 rfl (lv_at hl 0 rfl) ?_
                refine va_get (D := (dC, dI)) (ci := 1) (v := .ref (A 1)) (C := RX1) (T := TX1) (N := 6) hx hb hts hiX1 hown hK hP 0 rfl rfl 0 (by decide) ww1 (fun _ h9 => h9) rfl dX1_join_106 ?_
                refine lv_iload hx hb dX1_join_109 (lv_at hl 3 rfl) ?_
                obtain ⟨g111, hv, hf⟩ := ob_bind hf
                refine kg_iald hx hb hK hP 1 0 rfl rfl hv dX1_join_111 ?_
                obtain ⟨g112, hc, hf⟩ := ob_bind hf
                have hPc : va_P (dC, dI) vwCl ([] : va_W) H := fun k q h => by cases h
                refine kg_retRi (va_runSN (As := [.long v1, .int g111]) (rest := []) ⟨hx, hb, hml, hown, hts⟩ (c_X5_holds l dC dI cI cJ  H v1 g111 _ hc) (⟨va_cnB 2 hts (gw_A wd_11_7) rfl rfl rfl hN.1 ww2 qX5_holds_n ⟨Nat.le_of_ble_eq_true rfl, Nat.le_of_ble_eq_true rfl⟩, ww3, trivial⟩) (kg_preSR hPc hK hN) rfl rfl hl.1 rfl (lv_room (Nat.le_of_ble_eq_true rfl)) dX1_join_112 ⟨Nat.zero_le _, Nat.zero_le _⟩) ?_
                refine kg_b_eq (tgt := 127) hx hb hf dX1_join_115 (by decide) (fun hc hf => ?_) (fun hc hf => ?_)
                · refine lv_iinc (v := (v5 + 1)) (lv' := [(5, .int (v5 + 1)), (0, .ref (A 0)), (1, .long v1), (4, .int v4)]) hx hb dX1_join_127 hl (k := 3) rfl rfl (by decide) rfl (fun ls hl => ?_)
                  refine lv_goto (tgt := 95) hx hb dX1_join_130 (by decide) ?_
                  obtain rfl := Option.some.inj hf
                  exact ih1 x (v5 + 1) hk1 _ _ _ hP hD hS (lv_sub hl [1, 2, 3, 0] rfl)
                · refine lv_aload_n hx hb dX1_join_118 rfl (lv_at hl 0 rfl) ?_
                  refine va_get (D := (dC, dI)) (ci := 1) (v := .ref (A 1)) (C := RX1) (T := TX1) (N := 6) hx hb hts hiX1 hown hK hP 0 rfl rfl 0 (by decide) ww1 (fun _ h9 => h9) rfl dX1_join_119 ?_
                  refine lv_iload hx hb dX1_join_122 (lv_at hl 3 rfl) ?_
                  refine lv_iload hx hb dX1_join_124 (lv_at hl 2 rfl) ?_
                  obtain ⟨f126, hv, hf⟩ := ob_bind hf
                  refine kg_iast (wz := (wNm cI cJ L A (Nm_set_of x f126))) hx hb hK hP hD hS 1 0 rfl rfl hv dX1_join_126 (sc_Nm_of _ _ _ _ _ _) (fun H locs hP hD hS => ?_)
                  refine lv_iinc (v := (v5 + 1)) (lv' := [(5, .int (v5 + 1)), (0, .ref (A 0)), (1, .long v1), (4, .int v4)]) hx hb dX1_join_127 hl (k := 3) rfl rfl (by decide) rfl (fun ls hl => ?_)
                  refine lv_goto (tgt := 95) hx hb dX1_join_130 (by decide) ?_
                  obtain rfl := Option.some.inj hf
                  exact ih1 (Nm_set_of x f126) (v5 + 1) hk1 _ _ _ hP hD hS (lv_sub hl [1, 2, 3, 0] rfl)
          exact hlp95 v4 FU x 0 hf _ _ _ hP hD hS (lv_sub hl [1, 2, 4, 0] rfl)
        · refine lv_iload hx hb dX1_join_26 (lv_at hl 4 rfl) ?_
          refine lv_iload hx hb dX1_join_28 (lv_at hl 3 rfl) ?_
          refine kg_icmp_eq (tgt := 86) hx hb hf dX1_join_30 (by decide) (fun hc hf => ?_) (fun hc hf => ?_)
          · refine lv_iinc (v := (v5 + 1)) (lv' := [(5, .int (v5 + 1)), (0, .ref (A 0)), (1, .long v1), (3, .int v3), (4, .int v4)]) hx hb dX1_join_86 hl (k := 4) rfl rfl (by decide) rfl (fun ls hl => ?_)
            refine lv_goto (tgt := 17) hx hb dX1_join_89 (by decide) ?_
            obtain rfl := Option.some.inj hf
            exact ih1 x (v5 + 1) hk1 _ _ _ hP hD hS (lv_sub hl [1, 2, 3, 4, 0] rfl)
          · refine lv_lload_n hx hb dX1_join_33 rfl (lv_at hl 1 rfl) ?_
            refine lv_iload hx hb dX1_join_34 (lv_at hl 4 rfl) ?_
            obtain ⟨g36, hc, hf⟩ := ob_bind hf
            have hPc : va_P (dC, dI) vwCl ([] : va_W) H := fun k q h => by cases h
            refine kg_retRi (va_runSN (As := [.long v1, .int v5]) (rest := []) ⟨hx, hb, hml, hown, hts⟩ (c_X5_holds l dC dI cI cJ  H v1 v5 _ hc) (⟨va_cnB 2 hts (gw_A wd_11_7) rfl rfl rfl hN.1 ww2 qX5_holds_n ⟨Nat.le_of_ble_eq_true rfl, Nat.le_of_ble_eq_true rfl⟩, ww3, trivial⟩) (kg_preSR hPc hK hN) rfl rfl hl.1 rfl (lv_room (Nat.le_of_ble_eq_true rfl)) dX1_join_36 ⟨Nat.zero_le _, Nat.zero_le _⟩) ?_
            refine kg_b_eq (tgt := 86) hx hb hf dX1_join_39 (by decide) (fun hc hf => ?_) (fun hc hf => ?_)
            · refine lv_iinc (v := (v5 + 1)) (lv' := [(5, .int (v5 + 1)), (0, .ref (A 0)), (1, .long v1), (3, .int v3), (4, .int v4)]) hx hb dX1_join_86 hl (k := 4) rfl rfl (by decide) rfl (fun ls hl => ?_)
              refine lv_goto (tgt := 17) hx hb dX1_join_89 (by decide) ?_
              obtain rfl := Option.some.inj hf
              exact ih1 x (v5 + 1) hk1 _ _ _ hP hD hS (lv_sub hl [1, 2, 3, 4, 0] rfl)
            · refine lv_aload_n hx hb dX1_join_42 rfl (lv_at hl 0 rfl) ?_
              refine va_get (D := (dC, dI)) (ci := 1) (v := .ref (A 3)) (C := RX1) (T := TX1) (N := 6) hx hb hts hiX1 hown hK hP 0 rfl rfl 2 (by decide) ww4 (fun _ h9 => h9) rfl dX1_join_43 ?_
              refine lv_iload hx hb dX1_join_46 (lv_at hl 4 rfl) ?_
              refine lv_iload_n hx hb dX1_join_48 rfl (lv_at hl 2 rfl) ?_
              obtain ⟨f49, hv, hf⟩ := ob_bind hf
              refine kg_iast (wz := (wNm cI cJ L A (Nm_set_endedBy x f49))) hx hb hK hP hD hS 3 0 rfl rfl hv dX1_join_49 (sc_Nm_endedBy _ _ _ _ _ _) (fun H locs hP hD hS => ?_)
              refine lv_aload_n hx hb dX1_join_50 rfl (lv_at hl 0 rfl) ?_
              refine va_get (D := (dC, dI)) (ci := 1) (v := .ref (A 4)) (C := RX1) (T := TX1) (N := 6) hx hb hts hiX1 hown hK hP 0 rfl rfl 3 (by decide) ww5 (fun _ h9 => h9) rfl dX1_join_51 ?_
              refine lv_iload hx hb dX1_join_54 (lv_at hl 4 rfl) ?_
              refine lv_iload hx hb dX1_join_56 (lv_at hl 3 rfl) ?_
              obtain ⟨f58, hv, hf⟩ := ob_bind hf
              refine kg_iast (wz := (wNm cI cJ L A (Nm_set_into (Nm_set_endedBy x f49) f58))) hx hb hK hP hD hS 4 0 rfl rfl hv dX1_join_58 (sc_Nm_into _ _ _ _ _ _) (fun H locs hP hD hS => ?_)
              refine lv_aload_n hx hb dX1_join_59 rfl (lv_at hl 0 rfl) ?_
              refine va_get (D := (dC, dI)) (ci := 1) (v := .ref (A 2)) (C := RX1) (T := TX1) (N := 6) hx hb hts hiX1 hown hK hP 0 rfl rfl 1 (by decide) ww6 (fun _ h9 => h9) rfl dX1_join_60 ?_
              refine lv_iload hx hb dX1_join_63 (lv_at hl 3 rfl) ?_
              refine lv_dup2_11 hx hb dX1_join_65 rfl rfl ?_
              obtain ⟨g66, hv, hf⟩ := ob_bind hf
              refine kg_iald hx hb hK hP 2 0 rfl rfl hv dX1_join_66 ?_
              refine lv_aload_n hx hb dX1_join_67 rfl (lv_at hl 0 rfl) ?_
              refine va_get (D := (dC, dI)) (ci := 1) (v := .ref (A 2)) (C := RX1) (T := TX1) (N := 6) hx hb hts hiX1 hown hK hP 0 rfl rfl 1 (by decide) ww6 (fun _ h9 => h9) rfl dX1_join_68 ?_
              refine lv_iload hx hb dX1_join_71 (lv_at hl 4 rfl) ?_
              obtain ⟨g73, hv, hf⟩ := ob_bind hf
              refine kg_iald hx hb hK hP 2 0 rfl rfl hv dX1_join_73 ?_
              refine lv_iadd hx hb dX1_join_74 ?_
              obtain ⟨f75, hv, hf⟩ := ob_bind hf
              refine kg_iast (wz := (wNm cI cJ L A (Nm_set_size (Nm_set_into (Nm_set_endedBy x f49) f58) f75))) hx hb hK hP hD hS 2 0 rfl rfl hv dX1_join_75 (sc_Nm_size _ _ _ _ _ _) (fun H locs hP hD hS => ?_)
              refine lv_aload_n hx hb dX1_join_76 rfl (lv_at hl 0 rfl) ?_
              refine lv_dup hx hb dX1_join_77 rfl ?_
              refine va_get (D := (dC, dI)) (ci := 1) (v := .int (Nm_groups (Nm_set_size (Nm_set_into (Nm_set_endedBy x f49) f58) f75))) (C := RX1) (T := TX1) (N := 6) hx hb hts hiX1 hown hK hP 0 rfl rfl 5 (by decide) ww7 (fun _ h9 => h9) rfl dX1_join_78 ?_
              refine lv_iconst (v := 1) hx hb dX1_join_81 (by decide) ?_
              refine lv_isub hx hb dX1_join_82 ?_
              refine kg_put (ci := 1) (v := .int ((Nm_groups (Nm_set_size (Nm_set_into (Nm_set_endedBy x f49) f58) f75)) - 1)) (ty := .int) (C := RX1) (T := TX1) (N := 6) (wz := (wNm cI cJ L A (Nm_set_groups (Nm_set_size (Nm_set_into (Nm_set_endedBy x f49) f58) f75) ((Nm_groups (Nm_set_size (Nm_set_into (Nm_set_endedBy x f49) f58) f75)) - 1)))) hx hb hts hiX1 tyX1 tyX1_ok nmX1 hown hK hP hD hS 0 rfl rfl 5 (by decide) ww7 (fun _ h9 => h9) rfl (tyX1_ok 5 (by decide)) rfl rfl (Nat.le_of_ble_eq_true rfl) dX1_join_83 (sc_Nm_groups _ _ _ _ _ _) (fun H locs hP hD hS => ?_)
              refine lv_iinc (v := (v5 + 1)) (lv' := [(5, .int (v5 + 1)), (0, .ref (A 0)), (1, .long v1), (3, .int v3), (4, .int v4)]) hx hb dX1_join_86 hl (k := 4) rfl rfl (by decide) rfl (fun ls hl => ?_)
              refine lv_goto (tgt := 17) hx hb dX1_join_89 (by decide) ?_
              obtain rfl := Option.some.inj hf
              exact ih1 (Nm_set_groups (Nm_set_size (Nm_set_into (Nm_set_endedBy x f49) f58) f75) ((Nm_groups (Nm_set_size (Nm_set_into (Nm_set_endedBy x f49) f58) f75)) - 1)) (v5 + 1) hk1 _ _ _ hP hD hS (lv_sub hl [1, 2, 3, 4, 0] rfl)
    exact hlp17 g2 FU x 0 hf _ _ _ hP hD hS (lv_sub hl [2, 3, 4, 1, 0] rfl)
  · obtain rfl := Option.some.inj hf
    exact kg_vretW hx hb hr hlk hP hD hS dX1_join_13
set_option maxHeartbeats 4000000 in
set_option maxRecDepth 100000 in
theorem c_X1_sizeOf (l : Launch) (dC : Nat → ClassId) (dI : Nat → Nat → Nat) (cI cJ : ClassId) (A : Nat → Nat) (hq : Heap) (L : Nat) (x : NmS) (v1 : Int64) (r0 : Int32) (hf : Nm_m_sizeOf L x v1 = some r0) : MRi l yX1_sizeOf (wAll yX1_sizeOf cX1_sizeOf 5 (some .int)) ({ frames := 2, cells := 0, slots := 0, locals := 62 } : Room) [.ref (A 0), .long v1] hq (dC, dI) (vTy cI cJ) (wNm cI cJ L A x) r0 := by
  refine kg_metR (cc := cX1_sizeOf) (maxL := 5) (ret := (some .int)) (by decide) rfl (Nat.le_of_ble_eq_true rfl) ?_
  intro p e s m args below meth c hx hb hr hts hown hlk hml hH hP hK hN ls hl
  subst hH
  have hl : lv_has ls 5 [(0, .ref (A 0)), (1, .long v1)] := hl
  have ww0 := hts (.fieldLink RX1 24 "SafeBlocks$Names" "items" "I") (List.mem_cons_of_mem _ wd_3_10)
  have ww1 := hts (.initialized RX5) (List.mem_cons_of_mem _ wd_1_2)
  have ww2 := hts (.static yX5_holds) (List.mem_cons_of_mem _ wd_11_6)
  have ww3 := hts (.fieldLink RX1 15 "SafeBlocks$Names" "size" "[I") (List.mem_cons_of_mem _ wd_3_7)
  have hiX1 : ∀ w ∈ u_ws RX1 TX1 6, w ∈ wAll yX1_sizeOf cX1_sizeOf 5 (some .int) := fun w h => List.mem_cons_of_mem _ (inlX1 w h)
  unfold Nm_m_sizeOf at hf
  refine lv_iconst (v := 0) hx hb dX1_sizeOf_0 (by decide) ?_
  refine lv_istore_n (lv' := [(3, .int 0), (0, .ref (A 0)), (1, .long v1)]) hx hb dX1_sizeOf_1 rfl hl (by decide) rfl (fun ls hl => ?_)
  refine lv_iconst (v := 0) hx hb dX1_sizeOf_2 (by decide) ?_
  refine lv_istore (lv' := [(4, .int 0), (3, .int 0), (0, .ref (A 0)), (1, .long v1)]) hx hb dX1_sizeOf_3 hl (by decide) rfl (fun ls hl => ?_)
  have hlp5 : ∀ (n : Nat) (v3 : Int32) (v4 : Int32), iter (fun p : Int32 × Int32 => Nm_m_sizeOf_s5 L x v1 p.1 p.2) n (v3, v4) = some r0 → ∀ (ls : Array Slot), lv_has ls 5 [(0, .ref (A 0)), (1, .long v1), (3, .int v3), (4, .int v4)] → W p l e ({ frames := 2, cells := 0, slots := 0, locals := 62 } : Room) s m args below meth c s.heap [] 0 0 (MQ below (QRi s.heap r0) args s 0 0 NoA) (F0 m 5 ls []) := by
    intro  n
    induction n with
    | zero => intro v3 v4 hf; exact iter_zero hf
    | succ n ih1 =>
      intro v3 v4 hf ls hl
      obtain ⟨q1, hf, hk1⟩ := iter_succ hf
      have hf : Nm_m_sizeOf_s5 L x v1 v3 v4 = some q1 := hf
      unfold Nm_m_sizeOf_s5 at hf
      refine lv_iload hx hb dX1_sizeOf_5 (lv_at hl 3 rfl) ?_
      refine lv_aload_n hx hb dX1_sizeOf_7 rfl (lv_at hl 0 rfl) ?_
      refine va_get (D := (dC, dI)) (ci := 1) (v := .int (Nm_items x)) (C := RX1) (T := TX1) (N := 6) hx hb hts hiX1 hown hK hP 0 rfl rfl 4 (by decide) ww0 (fun _ h9 => h9) rfl dX1_sizeOf_8 ?_
      refine kg_icmp_ge (tgt := 39) hx hb hf dX1_sizeOf_11 (by decide) (fun hc hf => ?_) (fun hc hf => ?_)
      · obtain ⟨qq, hf, hqq⟩ := omap_some hf
        have hkq : qq = r0 := by rw [← hqq] at hk1; exact hk1
        rw [hkq] at hf
        clear hkq hqq
        refine lv_iload_n hx hb dX1_sizeOf_39 rfl (lv_at hl 2 rfl) ?_
        obtain rfl := Option.some.inj hf
        exact kg_iretR hx hb hr hlk rfl dX1_sizeOf_40
      · refine lv_lload_n hx hb dX1_sizeOf_14 rfl (lv_at hl 1 rfl) ?_
        refine lv_iload hx hb dX1_sizeOf_15 (lv_at hl 3 rfl) ?_
        obtain ⟨g17, hc, hf⟩ := ob_bind hf
        have hPc : va_P (dC, dI) vwCl ([] : va_W) s.heap := fun k q h => by cases h
        refine kg_retRi (va_runSN (As := [.long v1, .int v4]) (rest := []) ⟨hx, hb, hml, hown, hts⟩ (c_X5_holds l dC dI cI cJ  s.heap v1 v4 _ hc) (⟨va_cnB 2 hts (gw_A wd_11_7) rfl rfl rfl hN.1 ww1 qX5_holds_n ⟨Nat.le_of_ble_eq_true rfl, Nat.le_of_ble_eq_true rfl⟩, ww2, trivial⟩) (kg_preSR hPc hK hN) rfl rfl hl.1 rfl (lv_room (Nat.le_of_ble_eq_true rfl)) dX1_sizeOf_17 ⟨Nat.zero_le _, Nat.zero_le _⟩) ?_
        refine kg_b_eq (tgt := 33) hx hb hf dX1_sizeOf_20 (by decide) (fun hc hf => ?_) (fun hc hf => ?_)
        · refine lv_iinc (v := (v4 + 1)) (lv' := [(4, .int (v4 + 1)), (0, .ref (A 0)), (1, .long v1), (3, .int v3)]) hx hb dX1_sizeOf_33 hl (k := 3) rfl rfl (by decide) rfl (fun ls hl => ?_)
          refine lv_goto (tgt := 5) hx hb dX1_sizeOf_36 (by decide) ?_
          obtain rfl := Option.some.inj hf
          exact ih1 v3 (v4 + 1) hk1 _ (lv_sub hl [1, 2, 3, 0] rfl)
        · refine lv_iload_n hx hb dX1_sizeOf_23 rfl (lv_at hl 2 rfl) ?_
          refine lv_aload_n hx hb dX1_sizeOf_24 rfl (lv_at hl 0 rfl) ?_
          refine va_get (D := (dC, dI)) (ci := 1) (v := .ref (A 2)) (C := RX1) (T := TX1) (N := 6) hx hb hts hiX1 hown hK hP 0 rfl rfl 1 (by decide) ww3 (fun _ h9 => h9) rfl dX1_sizeOf_25 ?_
          refine lv_iload hx hb dX1_sizeOf_28 (lv_at hl 3 rfl) ?_
          obtain ⟨g30, hv, hf⟩ := ob_bind hf
          refine kg_iald hx hb hK hP 2 0 rfl rfl hv dX1_sizeOf_30 ?_
          refine lv_iadd hx hb dX1_sizeOf_31 ?_
          refine lv_istore_n (lv' := [(3, .int (v3 + g30)), (0, .ref (A 0)), (1, .long v1), (4, .int v4)]) hx hb dX1_sizeOf_32 rfl hl (by decide) rfl (fun ls hl => ?_)
          refine lv_iinc (v := (v4 + 1)) (lv' := [(4, .int (v4 + 1)), (3, .int (v3 + g30)), (0, .ref (A 0)), (1, .long v1)]) hx hb dX1_sizeOf_33 hl (k := 3) rfl rfl (by decide) rfl (fun ls hl => ?_)
          refine lv_goto (tgt := 5) hx hb dX1_sizeOf_36 (by decide) ?_
          obtain rfl := Option.some.inj hf
          exact ih1 (v3 + g30) (v4 + 1) hk1 _ (lv_sub hl [2, 3, 1, 0] rfl)
  exact hlp5  FU 0 0 hf _ (lv_sub hl [2, 3, 1, 0] rfl)
set_option maxHeartbeats 4000000 in
set_option maxRecDepth 100000 in
theorem c_X1_heir (l : Launch) (dC : Nat → ClassId) (dI : Nat → Nat → Nat) (cI cJ : ClassId) (A : Nat → Nat) (hq : Heap) (L : Nat) (x : NmS) (v1 : Int32) (r0 : Int32) (hf : Nm_m_heir L x v1 = some r0) : MRi l yX1_heir (wAll yX1_heir cX1_heir 4 (some .int)) ({ frames := 1, cells := 0, slots := 0, locals := 40 } : Room) [.ref (A 0), .int v1] hq (dC, dI) (vTy cI cJ) (wNm cI cJ L A x) r0 := by
  refine kg_metR (cc := cX1_heir) (maxL := 4) (ret := (some .int)) (by decide) rfl (Nat.le_of_ble_eq_true rfl) ?_
  intro p e s m args below meth c hx hb hr hts hown hlk hml hH hP hK hN ls hl
  subst hH
  have hl : lv_has ls 4 [(0, .ref (A 0)), (1, .int v1)] := hl
  have ww0 := hts (.fieldLink RX1 24 "SafeBlocks$Names" "items" "I") (List.mem_cons_of_mem _ wd_3_10)
  have ww1 := hts (.fieldLink RX1 21 "SafeBlocks$Names" "into" "[I") (List.mem_cons_of_mem _ wd_3_9)
  have hiX1 : ∀ w ∈ u_ws RX1 TX1 6, w ∈ wAll yX1_heir cX1_heir 4 (some .int) := fun w h => List.mem_cons_of_mem _ (inlX1 w h)
  unfold Nm_m_heir at hf
  refine lv_iload_n hx hb dX1_heir_0 rfl (lv_at hl 1 rfl) ?_
  refine lv_istore_n (lv' := [(2, .int v1), (0, .ref (A 0)), (1, .int v1)]) hx hb dX1_heir_1 rfl hl (by decide) rfl (fun ls hl => ?_)
  refine lv_iconst (v := 0) hx hb dX1_heir_2 (by decide) ?_
  refine lv_istore_n (lv' := [(3, .int 0), (2, .int v1), (0, .ref (A 0)), (1, .int v1)]) hx hb dX1_heir_3 rfl hl (by decide) rfl (fun ls hl => ?_)
  have hlp4 : ∀ (n : Nat) (v2 : Int32) (v3 : Int32), iter (fun p : Int32 × Int32 => Nm_m_heir_s4 L x p.1 p.2) n (v2, v3) = some r0 → ∀ (ls : Array Slot), lv_has ls 4 [(0, .ref (A 0)), (2, .int v2), (3, .int v3)] → W p l e ({ frames := 1, cells := 0, slots := 0, locals := 40 } : Room) s m args below meth c s.heap [] 0 0 (MQ below (QRi s.heap r0) args s 0 0 NoA) (F0 m 4 ls []) := by
    intro  n
    induction n with
    | zero => intro v2 v3 hf; exact iter_zero hf
    | succ n ih1 =>
      intro v2 v3 hf ls hl
      obtain ⟨q1, hf, hk1⟩ := iter_succ hf
      have hf : Nm_m_heir_s4 L x v2 v3 = some q1 := hf
      unfold Nm_m_heir_s4 at hf
      refine lv_iload_n hx hb dX1_heir_4 rfl (lv_at hl 2 rfl) ?_
      refine lv_aload_n hx hb dX1_heir_5 rfl (lv_at hl 0 rfl) ?_
      refine va_get (D := (dC, dI)) (ci := 1) (v := .int (Nm_items x)) (C := RX1) (T := TX1) (N := 6) hx hb hts hiX1 hown hK hP 0 rfl rfl 4 (by decide) ww0 (fun _ h9 => h9) rfl dX1_heir_6 ?_
      refine kg_icmp_ge (tgt := 35) hx hb hf dX1_heir_9 (by decide) (fun hc hf => ?_) (fun hc hf => ?_)
      · obtain ⟨qq, hf, hqq⟩ := omap_some hf
        have hkq : qq = r0 := by rw [← hqq] at hk1; exact hk1
        rw [hkq] at hf
        clear hkq hqq
        refine lv_iload_n hx hb dX1_heir_35 rfl (lv_at hl 1 rfl) ?_
        obtain rfl := Option.some.inj hf
        exact kg_iretR hx hb hr hlk rfl dX1_heir_36
      · refine lv_aload_n hx hb dX1_heir_12 rfl (lv_at hl 0 rfl) ?_
        refine va_get (D := (dC, dI)) (ci := 1) (v := .ref (A 4)) (C := RX1) (T := TX1) (N := 6) hx hb hts hiX1 hown hK hP 0 rfl rfl 3 (by decide) ww1 (fun _ h9 => h9) rfl dX1_heir_13 ?_
        refine lv_iload_n hx hb dX1_heir_16 rfl (lv_at hl 1 rfl) ?_
        obtain ⟨g17, hv, hf⟩ := ob_bind hf
        refine kg_iald hx hb hK hP 4 0 rfl rfl hv dX1_heir_17 ?_
        refine lv_iconst (v := (-1)) hx hb dX1_heir_18 (by decide) ?_
        refine kg_icmp_eq (tgt := 35) hx hb hf dX1_heir_19 (by decide) (fun hc hf => ?_) (fun hc hf => ?_)
        · obtain ⟨qq, hf, hqq⟩ := omap_some hf
          have hkq : qq = r0 := by rw [← hqq] at hk1; exact hk1
          rw [hkq] at hf
          clear hkq hqq
          refine lv_iload_n hx hb dX1_heir_35 rfl (lv_at hl 1 rfl) ?_
          obtain rfl := Option.some.inj hf
          exact kg_iretR hx hb hr hlk rfl dX1_heir_36
        · refine lv_aload_n hx hb dX1_heir_22 rfl (lv_at hl 0 rfl) ?_
          refine va_get (D := (dC, dI)) (ci := 1) (v := .ref (A 4)) (C := RX1) (T := TX1) (N := 6) hx hb hts hiX1 hown hK hP 0 rfl rfl 3 (by decide) ww1 (fun _ h9 => h9) rfl dX1_heir_23 ?_
          refine lv_iload_n hx hb dX1_heir_26 rfl (lv_at hl 1 rfl) ?_
          obtain ⟨g27, hv, hf⟩ := ob_bind hf
          refine kg_iald hx hb hK hP 4 0 rfl rfl hv dX1_heir_27 ?_
          refine lv_istore_n (lv' := [(2, .int g27), (0, .ref (A 0)), (3, .int v3)]) hx hb dX1_heir_28 rfl hl (by decide) rfl (fun ls hl => ?_)
          refine lv_iinc (v := (v3 + 1)) (lv' := [(3, .int (v3 + 1)), (2, .int g27), (0, .ref (A 0))]) hx hb dX1_heir_29 hl (k := 2) rfl rfl (by decide) rfl (fun ls hl => ?_)
          refine lv_goto (tgt := 4) hx hb dX1_heir_32 (by decide) ?_
          obtain rfl := Option.some.inj hf
          exact ih1 g27 (v3 + 1) hk1 _ (lv_sub hl [2, 1, 0] rfl)
  exact hlp4  FU v1 0 hf _ (lv_sub hl [2, 1, 0] rfl)
set_option maxHeartbeats 4000000 in
set_option maxRecDepth 100000 in
theorem c_X1_endsBefore (l : Launch) (dC : Nat → ClassId) (dI : Nat → Nat → Nat) (cI cJ : ClassId) (A : Nat → Nat) (hq : Heap) (L : Nat) (x : NmS) (v1 : Int32) (v2 : Int32) (r0 : Bool) (hf : Nm_m_endsBefore L x v1 v2 = some r0) : MRi l yX1_endsBefore (wAll yX1_endsBefore cX1_endsBefore 3 (some .boolean)) ({ frames := 1, cells := 0, slots := 0, locals := 40 } : Room) [.ref (A 0), .int v1, .int v2] hq (dC, dI) (vTy cI cJ) (wNm cI cJ L A x) (b2i r0) := by
  refine kg_metR (cc := cX1_endsBefore) (maxL := 3) (ret := (some .boolean)) (by decide) rfl (Nat.le_of_ble_eq_true rfl) ?_
  intro p e s m args below meth c hx hb hr hts hown hlk hml hH hP hK hN ls hl
  subst hH
  have hl : lv_has ls 3 [(0, .ref (A 0)), (1, .int v1), (2, .int v2)] := hl
  have ww0 := hts (.fieldLink RX1 18 "SafeBlocks$Names" "endedBy" "[I") (List.mem_cons_of_mem _ wd_3_8)
  have hiX1 : ∀ w ∈ u_ws RX1 TX1 6, w ∈ wAll yX1_endsBefore cX1_endsBefore 3 (some .boolean) := fun w h => List.mem_cons_of_mem _ (inlX1 w h)
  unfold Nm_m_endsBefore at hf
  refine lv_aload_n hx hb dX1_endsBefore_0 rfl (lv_at hl 0 rfl) ?_
  refine va_get (D := (dC, dI)) (ci := 1) (v := .ref (A 3)) (C := RX1) (T := TX1) (N := 6) hx hb hts hiX1 hown hK hP 0 rfl rfl 2 (by decide) ww0 (fun _ h9 => h9) rfl dX1_endsBefore_1 ?_
  refine lv_iload_n hx hb dX1_endsBefore_4 rfl (lv_at hl 1 rfl) ?_
  obtain ⟨g5, hv, hf⟩ := ob_bind hf
  refine kg_iald hx hb hK hP 3 0 rfl rfl hv dX1_endsBefore_5 ?_
  refine lv_iconst (v := (-1)) hx hb dX1_endsBefore_6 (by decide) ?_
  refine kg_icmp_ne (tgt := 12) hx hb hf dX1_endsBefore_7 (by decide) (fun hc hf => ?_) (fun hc hf => ?_)
  · refine lv_aload_n hx hb dX1_endsBefore_12 rfl (lv_at hl 0 rfl) ?_
    refine va_get (D := (dC, dI)) (ci := 1) (v := .ref (A 3)) (C := RX1) (T := TX1) (N := 6) hx hb hts hiX1 hown hK hP 0 rfl rfl 2 (by decide) ww0 (fun _ h9 => h9) rfl dX1_endsBefore_13 ?_
    refine lv_iload_n hx hb dX1_endsBefore_16 rfl (lv_at hl 2 rfl) ?_
    obtain ⟨g17, hv, hf⟩ := ob_bind hf
    refine kg_iald hx hb hK hP 3 0 rfl rfl hv dX1_endsBefore_17 ?_
    refine lv_iconst (v := (-1)) hx hb dX1_endsBefore_18 (by decide) ?_
    refine kg_icmp_eq (tgt := 37) hx hb hf dX1_endsBefore_19 (by decide) (fun hc hf => ?_) (fun hc hf => ?_)
    · refine lv_iconst (v := 1) hx hb dX1_endsBefore_37 (by decide) ?_
      refine lv_goto (tgt := 42) hx hb dX1_endsBefore_38 (by decide) ?_
      obtain rfl := Option.some.inj hf
      exact kg_zretR (b := true) hx hb hr hlk rfl rfl dX1_endsBefore_42
    · refine lv_aload_n hx hb dX1_endsBefore_22 rfl (lv_at hl 0 rfl) ?_
      refine va_get (D := (dC, dI)) (ci := 1) (v := .ref (A 3)) (C := RX1) (T := TX1) (N := 6) hx hb hts hiX1 hown hK hP 0 rfl rfl 2 (by decide) ww0 (fun _ h9 => h9) rfl dX1_endsBefore_23 ?_
      refine lv_iload_n hx hb dX1_endsBefore_26 rfl (lv_at hl 1 rfl) ?_
      obtain ⟨g27, hv, hf⟩ := ob_bind hf
      refine kg_iald hx hb hK hP 3 0 rfl rfl hv dX1_endsBefore_27 ?_
      refine lv_aload_n hx hb dX1_endsBefore_28 rfl (lv_at hl 0 rfl) ?_
      refine va_get (D := (dC, dI)) (ci := 1) (v := .ref (A 3)) (C := RX1) (T := TX1) (N := 6) hx hb hts hiX1 hown hK hP 0 rfl rfl 2 (by decide) ww0 (fun _ h9 => h9) rfl dX1_endsBefore_29 ?_
      refine lv_iload_n hx hb dX1_endsBefore_32 rfl (lv_at hl 2 rfl) ?_
      obtain ⟨g33, hv, hf⟩ := ob_bind hf
      refine kg_iald hx hb hK hP 3 0 rfl rfl hv dX1_endsBefore_33 ?_
      refine kg_icmp_gt (tgt := 41) hx hb hf dX1_endsBefore_34 (by decide) (fun hc hf => ?_) (fun hc hf => ?_)
      · refine lv_iconst (v := 0) hx hb dX1_endsBefore_41 (by decide) ?_
        obtain rfl := Option.some.inj hf
        exact kg_zretR (b := false) hx hb hr hlk rfl rfl dX1_endsBefore_42
      · refine lv_iconst (v := 1) hx hb dX1_endsBefore_37 (by decide) ?_
        refine lv_goto (tgt := 42) hx hb dX1_endsBefore_38 (by decide) ?_
        obtain rfl := Option.some.inj hf
        exact kg_zretR (b := true) hx hb hr hlk rfl rfl dX1_endsBefore_42
  · refine lv_iconst (v := 0) hx hb dX1_endsBefore_10 (by decide) ?_
    obtain rfl := Option.some.inj hf
    exact kg_zretR (b := false) hx hb hr hlk rfl rfl dX1_endsBefore_11
set_option maxHeartbeats 4000000 in
set_option maxRecDepth 100000 in
theorem c_X1_meeting (l : Launch) (dC : Nat → ClassId) (dI : Nat → Nat → Nat) (cI cJ : ClassId) (A : Nat → Nat) (hq : Heap) (L : Nat) (x : NmS) (v1 : Int32) (v2 : Int32) (r0 : Int32) (hf : Nm_m_meeting L x v1 v2 = some r0) : MRi l yX1_meeting (wAll yX1_meeting cX1_meeting 8 (some .int)) ({ frames := 2, cells := 0, slots := 0, locals := 62 } : Room) [.ref (A 0), .int v1, .int v2] hq (dC, dI) (vTy cI cJ) (wNm cI cJ L A x) r0 := by
  refine kg_metR (cc := cX1_meeting) (maxL := 8) (ret := (some .int)) (by decide) rfl (Nat.le_of_ble_eq_true rfl) ?_
  intro p e s m args below meth c hx hb hr hts hown hlk hml hH hP hK hN ls hl
  subst hH
  have hl : lv_has ls 8 [(0, .ref (A 0)), (1, .int v1), (2, .int v2)] := hl
  have ww0 := hts (.fieldLink RX1 21 "SafeBlocks$Names" "into" "[I") (List.mem_cons_of_mem _ wd_3_9)
  have ww1 := hts (.fieldLink RX1 24 "SafeBlocks$Names" "items" "I") (List.mem_cons_of_mem _ wd_3_10)
  have ww2 := hts (.fieldLink RX1 18 "SafeBlocks$Names" "endedBy" "[I") (List.mem_cons_of_mem _ wd_3_8)
  have hiX1 : ∀ w ∈ u_ws RX1 TX1 6, w ∈ wAll yX1_meeting cX1_meeting 8 (some .int) := fun w h => List.mem_cons_of_mem _ (inlX1 w h)
  unfold Nm_m_meeting at hf
  refine lv_iload_n hx hb dX1_meeting_0 rfl (lv_at hl 1 rfl) ?_
  refine lv_istore_n (lv' := [(3, .int v1), (0, .ref (A 0)), (1, .int v1), (2, .int v2)]) hx hb dX1_meeting_1 rfl hl (by decide) rfl (fun ls hl => ?_)
  refine lv_iload_n hx hb dX1_meeting_2 rfl (lv_at hl 3 rfl) ?_
  refine lv_istore (lv' := [(4, .int v2), (3, .int v1), (0, .ref (A 0)), (1, .int v1), (2, .int v2)]) hx hb dX1_meeting_3 hl (by decide) rfl (fun ls hl => ?_)
  refine lv_iconst (v := (-1)) hx hb dX1_meeting_5 (by decide) ?_
  refine lv_istore (lv' := [(5, .int (-1)), (4, .int v2), (3, .int v1), (0, .ref (A 0)), (1, .int v1), (2, .int v2)]) hx hb dX1_meeting_6 hl (by decide) rfl (fun ls hl => ?_)
  refine lv_iconst (v := 0) hx hb dX1_meeting_8 (by decide) ?_
  refine lv_istore (lv' := [(6, .int 0), (5, .int (-1)), (4, .int v2), (3, .int v1), (0, .ref (A 0)), (1, .int v1), (2, .int v2)]) hx hb dX1_meeting_9 hl (by decide) rfl (fun ls hl => ?_)
  have hlp11 : ∀ (n : Nat) (v3 : Int32) (v4 : Int32) (v5 : Int32) (v6 : Int32), iter (fun p : Int32 × Int32 × Int32 × Int32 => Nm_m_meeting_s11 L x p.1 p.2.1 p.2.2.1 p.2.2.2) n (v3, v4, v5, v6) = some r0 → ∀ (ls : Array Slot), lv_has ls 8 [(0, .ref (A 0)), (3, .int v3), (4, .int v4), (5, .int v5), (6, .int v6)] → W p l e ({ frames := 2, cells := 0, slots := 0, locals := 62 } : Room) s m args below meth c s.heap [] 0 0 (MQ below (QRi s.heap r0) args s 0 0 NoA) (F0 m 11 ls []) := by
    intro  n
    induction n with
    | zero => intro v3 v4 v5 v6 hf; exact iter_zero hf
    | succ n ih1 =>
      intro v3 v4 v5 v6 hf ls hl
      obtain ⟨q1, hf, hk1⟩ := iter_succ hf
      have hf : Nm_m_meeting_s11 L x v3 v4 v5 v6 = some q1 := hf
      unfold Nm_m_meeting_s11 at hf
      have hj58 : ∀ (v3 : Int32) (v4 : Int32) (v6 : Int32) (v7 : Int32) (w0 : Int32), Nm_m_meeting_j58 L x v3 v4 v6 v7 w0 = some q1 → ∀ (ls : Array Slot), lv_has ls 8 [(0, .ref (A 0)), (3, .int v3), (4, .int v4), (6, .int v6), (7, .int v7)] → W p l e ({ frames := 2, cells := 0, slots := 0, locals := 62 } : Room) s m args below meth c s.heap [] 0 0 (MQ below (QRi s.heap r0) args s 0 0 NoA) (F0 m 58 ls [.int w0]) := by
        intro v3 v4 v6 v7 w0 hf ls hl
        unfold Nm_m_meeting_j58 at hf
        refine lv_istore (lv' := [(5, .int w0), (0, .ref (A 0)), (3, .int v3), (4, .int v4), (6, .int v6), (7, .int v7)]) hx hb dX1_meeting_58 hl (by decide) rfl (fun ls hl => ?_)
        refine lv_iload hx hb dX1_meeting_60 (lv_at hl 0 rfl) ?_
        refine lv_iconst (v := (-1)) hx hb dX1_meeting_62 (by decide) ?_
        refine kg_icmp_ne (tgt := 68) hx hb hf dX1_meeting_63 (by decide) (fun hc hf => ?_) (fun hc hf => ?_)
        · refine lv_iload hx hb dX1_meeting_68 (lv_at hl 5 rfl) ?_
          refine kg_if_eq (tgt := 83) hx hb hf dX1_meeting_70 (by decide) (fun hc hf => ?_) (fun hc hf => ?_)
          · refine lv_aload_n hx hb dX1_meeting_83 rfl (lv_at hl 1 rfl) ?_
            refine va_get (D := (dC, dI)) (ci := 1) (v := .ref (A 4)) (C := RX1) (T := TX1) (N := 6) hx hb hts hiX1 hown hK hP 0 rfl rfl 3 (by decide) ww0 (fun _ h9 => h9) rfl dX1_meeting_84 ?_
            refine lv_iload hx hb dX1_meeting_87 (lv_at hl 3 rfl) ?_
            obtain ⟨g89, hv, hf⟩ := ob_bind hf
            refine kg_iald hx hb hK hP 4 0 rfl rfl hv dX1_meeting_89 ?_
            refine lv_istore (lv' := [(4, .int g89), (5, .int w0), (0, .ref (A 0)), (3, .int v3), (6, .int v6), (7, .int v7)]) hx hb dX1_meeting_90 hl (by decide) rfl (fun ls hl => ?_)
            refine lv_iinc (v := (v6 + 1)) (lv' := [(6, .int (v6 + 1)), (4, .int g89), (5, .int w0), (0, .ref (A 0)), (3, .int v3), (7, .int v7)]) hx hb dX1_meeting_92 hl (k := 4) rfl rfl (by decide) rfl (fun ls hl => ?_)
            refine lv_goto (tgt := 11) hx hb dX1_meeting_95 (by decide) ?_
            obtain rfl := Option.some.inj hf
            exact ih1 v3 g89 w0 (v6 + 1) hk1 _ (lv_sub hl [3, 4, 1, 2, 0] rfl)
          · refine lv_aload_n hx hb dX1_meeting_73 rfl (lv_at hl 1 rfl) ?_
            refine va_get (D := (dC, dI)) (ci := 1) (v := .ref (A 4)) (C := RX1) (T := TX1) (N := 6) hx hb hts hiX1 hown hK hP 0 rfl rfl 3 (by decide) ww0 (fun _ h9 => h9) rfl dX1_meeting_74 ?_
            refine lv_iload_n hx hb dX1_meeting_77 rfl (lv_at hl 2 rfl) ?_
            obtain ⟨g78, hv, hf⟩ := ob_bind hf
            refine kg_iald hx hb hK hP 4 0 rfl rfl hv dX1_meeting_78 ?_
            refine lv_istore_n (lv' := [(3, .int g78), (5, .int w0), (0, .ref (A 0)), (4, .int v4), (6, .int v6), (7, .int v7)]) hx hb dX1_meeting_79 rfl hl (by decide) rfl (fun ls hl => ?_)
            refine lv_goto (tgt := 92) hx hb dX1_meeting_80 (by decide) ?_
            refine lv_iinc (v := (v6 + 1)) (lv' := [(6, .int (v6 + 1)), (3, .int g78), (5, .int w0), (0, .ref (A 0)), (4, .int v4), (7, .int v7)]) hx hb dX1_meeting_92 hl (k := 4) rfl rfl (by decide) rfl (fun ls hl => ?_)
            refine lv_goto (tgt := 11) hx hb dX1_meeting_95 (by decide) ?_
            obtain rfl := Option.some.inj hf
            exact ih1 g78 v4 w0 (v6 + 1) hk1 _ (lv_sub hl [3, 1, 4, 2, 0] rfl)
        · obtain ⟨qq, hf, hqq⟩ := omap_some hf
          have hkq : qq = r0 := by rw [← hqq] at hk1; exact hk1
          rw [hkq] at hf
          clear hkq hqq
          refine lv_iconst (v := (-1)) hx hb dX1_meeting_66 (by decide) ?_
          obtain rfl := Option.some.inj hf
          exact kg_iretR hx hb hr hlk rfl dX1_meeting_67
      refine lv_iload hx hb dX1_meeting_11 (lv_at hl 4 rfl) ?_
      refine lv_iconst (v := 2) hx hb dX1_meeting_13 (by decide) ?_
      refine lv_aload_n hx hb dX1_meeting_14 rfl (lv_at hl 0 rfl) ?_
      refine va_get (D := (dC, dI)) (ci := 1) (v := .int (Nm_items x)) (C := RX1) (T := TX1) (N := 6) hx hb hts hiX1 hown hK hP 0 rfl rfl 4 (by decide) ww1 (fun _ h9 => h9) rfl dX1_meeting_15 ?_
      refine lv_imul hx hb dX1_meeting_18 ?_
      refine kg_icmp_ge (tgt := 98) hx hb hf dX1_meeting_19 (by decide) (fun hc hf => ?_) (fun hc hf => ?_)
      · obtain ⟨qq, hf, hqq⟩ := omap_some hf
        have hkq : qq = r0 := by rw [← hqq] at hk1; exact hk1
        rw [hkq] at hf
        clear hkq hqq
        refine lv_iload hx hb dX1_meeting_98 (lv_at hl 3 rfl) ?_
        obtain rfl := Option.some.inj hf
        exact kg_iretR hx hb hr hlk rfl dX1_meeting_100
      · refine lv_iload_n hx hb dX1_meeting_22 rfl (lv_at hl 1 rfl) ?_
        refine lv_iload hx hb dX1_meeting_23 (lv_at hl 2 rfl) ?_
        refine kg_icmp_eq (tgt := 98) hx hb hf dX1_meeting_25 (by decide) (fun hc hf => ?_) (fun hc hf => ?_)
        · obtain ⟨qq, hf, hqq⟩ := omap_some hf
          have hkq : qq = r0 := by rw [← hqq] at hk1; exact hk1
          rw [hkq] at hf
          clear hkq hqq
          refine lv_iload hx hb dX1_meeting_98 (lv_at hl 3 rfl) ?_
          obtain rfl := Option.some.inj hf
          exact kg_iretR hx hb hr hlk rfl dX1_meeting_100
        · refine lv_aload_n hx hb dX1_meeting_28 rfl (lv_at hl 0 rfl) ?_
          refine lv_iload_n hx hb dX1_meeting_29 rfl (lv_at hl 1 rfl) ?_
          refine lv_iload hx hb dX1_meeting_30 (lv_at hl 2 rfl) ?_
          obtain ⟨g32, hc, hf⟩ := ob_bind hf
          have hPc : va_P (dC, dI) vwCl (wNm cI cJ L A x) s.heap := hP
          refine kg_retRi (va_runV (As := [.int v3, .int v4]) (rest := []) ⟨hx, hb, hml, hown, hts⟩ (c_X1_endsBefore l dC dI cI cJ A s.heap L x v3 v4 _ hc) (cwV 2 hts (gw_V wd_35_7 wd_35_4 wd_35_5 wd_35_6 wd_2_20) rfl rfl rfl qX1_endsBefore ⟨Nat.le_of_ble_eq_true rfl, Nat.le_of_ble_eq_true rfl⟩) (kg_preVR (ci := 1) (q := (RX1, TX1, 6)) (q0 := 0) hPc hK hN rfl rfl) rfl rfl hl.1 rfl (lv_room (Nat.le_of_ble_eq_true rfl)) dX1_meeting_32 ⟨Nat.zero_le _, Nat.zero_le _⟩) ?_
          refine lv_istore (lv' := [(7, .int (b2i g32)), (0, .ref (A 0)), (3, .int v3), (4, .int v4), (5, .int v5), (6, .int v6)]) hx hb dX1_meeting_35 hl (by decide) rfl (fun ls hl => ?_)
          refine lv_iload hx hb dX1_meeting_37 (lv_at hl 0 rfl) ?_
          refine kg_b_eq (tgt := 51) hx hb hf dX1_meeting_39 (by decide) (fun hc hf => ?_) (fun hc hf => ?_)
          · refine lv_aload_n hx hb dX1_meeting_51 rfl (lv_at hl 1 rfl) ?_
            refine va_get (D := (dC, dI)) (ci := 1) (v := .ref (A 3)) (C := RX1) (T := TX1) (N := 6) hx hb hts hiX1 hown hK hP 0 rfl rfl 2 (by decide) ww2 (fun _ h9 => h9) rfl dX1_meeting_52 ?_
            refine lv_iload hx hb dX1_meeting_55 (lv_at hl 3 rfl) ?_
            obtain ⟨g57, hv, hf⟩ := ob_bind hf
            refine kg_iald hx hb hK hP 3 0 rfl rfl hv dX1_meeting_57 ?_
            exact hj58 v3 v4 v6 (b2i g32) g57 hf _ (lv_sub hl [1, 2, 3, 5, 0] rfl)
          · refine lv_aload_n hx hb dX1_meeting_42 rfl (lv_at hl 1 rfl) ?_
            refine va_get (D := (dC, dI)) (ci := 1) (v := .ref (A 3)) (C := RX1) (T := TX1) (N := 6) hx hb hts hiX1 hown hK hP 0 rfl rfl 2 (by decide) ww2 (fun _ h9 => h9) rfl dX1_meeting_43 ?_
            refine lv_iload_n hx hb dX1_meeting_46 rfl (lv_at hl 2 rfl) ?_
            obtain ⟨g47, hv, hf⟩ := ob_bind hf
            refine kg_iald hx hb hK hP 3 0 rfl rfl hv dX1_meeting_47 ?_
            refine lv_goto (tgt := 58) hx hb dX1_meeting_48 (by decide) ?_
            exact hj58 v3 v4 v6 (b2i g32) g47 hf _ (lv_sub hl [1, 2, 3, 5, 0] rfl)
  exact hlp11  FU v1 v2 (-1) 0 hf _ (lv_sub hl [4, 3, 2, 1, 0] rfl)
set_option maxHeartbeats 4000000 in
set_option maxRecDepth 100000 in
theorem c_X1_pairs (l : Launch) (dC : Nat → ClassId) (dI : Nat → Nat → Nat) (cI cJ : ClassId) (A : Nat → Nat) (hq : Heap) (L : Nat) (x : NmS) (r0 : Int32) (hf : Nm_m_pairs L x = some r0) : MRi l yX1_pairs (wAll yX1_pairs cX1_pairs 3 (some .int)) ({ frames := 2, cells := 0, slots := 0, locals := 61 } : Room) [.ref (A 0)] hq (dC, dI) (vTy cI cJ) (wNm cI cJ L A x) r0 := by
  refine kg_metR (cc := cX1_pairs) (maxL := 3) (ret := (some .int)) (by decide) rfl (Nat.le_of_ble_eq_true rfl) ?_
  intro p e s m args below meth c hx hb hr hts hown hlk hml hH hP hK hN ls hl
  subst hH
  have hl : lv_has ls 3 [(0, .ref (A 0))] := hl
  have ww0 := hts (.fieldLink RX1 24 "SafeBlocks$Names" "items" "I") (List.mem_cons_of_mem _ wd_3_10)
  have ww1 := hts (.fieldLink RX1 15 "SafeBlocks$Names" "size" "[I") (List.mem_cons_of_mem _ wd_3_7)
  have hiX1 : ∀ w ∈ u_ws RX1 TX1 6, w ∈ wAll yX1_pairs cX1_pairs 3 (some .int) := fun w h => List.mem_cons_of_mem _ (inlX1 w h)
  unfold Nm_m_pairs at hf
  refine lv_iconst (v := 0) hx hb dX1_pairs_0 (by decide) ?_
  refine lv_istore_n (lv' := [(1, .int 0), (0, .ref (A 0))]) hx hb dX1_pairs_1 rfl hl (by decide) rfl (fun ls hl => ?_)
  refine lv_iconst (v := 0) hx hb dX1_pairs_2 (by decide) ?_
  refine lv_istore_n (lv' := [(2, .int 0), (1, .int 0), (0, .ref (A 0))]) hx hb dX1_pairs_3 rfl hl (by decide) rfl (fun ls hl => ?_)
  have hlp4 : ∀ (n : Nat) (v1 : Int32) (v2 : Int32), iter (fun p : Int32 × Int32 => Nm_m_pairs_s4 L x p.1 p.2) n (v1, v2) = some r0 → ∀ (ls : Array Slot), lv_has ls 3 [(0, .ref (A 0)), (1, .int v1), (2, .int v2)] → W p l e ({ frames := 2, cells := 0, slots := 0, locals := 61 } : Room) s m args below meth c s.heap [] 0 0 (MQ below (QRi s.heap r0) args s 0 0 NoA) (F0 m 4 ls []) := by
    intro  n
    induction n with
    | zero => intro v1 v2 hf; exact iter_zero hf
    | succ n ih1 =>
      intro v1 v2 hf ls hl
      obtain ⟨q1, hf, hk1⟩ := iter_succ hf
      have hf : Nm_m_pairs_s4 L x v1 v2 = some q1 := hf
      unfold Nm_m_pairs_s4 at hf
      refine lv_iload_n hx hb dX1_pairs_4 rfl (lv_at hl 2 rfl) ?_
      refine lv_aload_n hx hb dX1_pairs_5 rfl (lv_at hl 0 rfl) ?_
      refine va_get (D := (dC, dI)) (ci := 1) (v := .int (Nm_items x)) (C := RX1) (T := TX1) (N := 6) hx hb hts hiX1 hown hK hP 0 rfl rfl 4 (by decide) ww0 (fun _ h9 => h9) rfl dX1_pairs_6 ?_
      refine kg_icmp_ge (tgt := 46) hx hb hf dX1_pairs_9 (by decide) (fun hc hf => ?_) (fun hc hf => ?_)
      · obtain ⟨qq, hf, hqq⟩ := omap_some hf
        have hkq : qq = r0 := by rw [← hqq] at hk1; exact hk1
        rw [hkq] at hf
        clear hkq hqq
        refine lv_iload_n hx hb dX1_pairs_46 rfl (lv_at hl 1 rfl) ?_
        obtain rfl := Option.some.inj hf
        exact kg_iretR hx hb hr hlk rfl dX1_pairs_47
      · refine lv_aload_n hx hb dX1_pairs_12 rfl (lv_at hl 0 rfl) ?_
        refine lv_iload_n hx hb dX1_pairs_13 rfl (lv_at hl 2 rfl) ?_
        obtain ⟨g14, hc, hf⟩ := ob_bind hf
        have hPc : va_P (dC, dI) vwCl (wNm cI cJ L A x) s.heap := hP
        refine kg_retRi (va_runV (As := [.int v2]) (rest := []) ⟨hx, hb, hml, hown, hts⟩ (c_X1_lives l dC dI cI cJ A s.heap L x v2 _ hc) (cwV 1 hts (gw_V wd_6_18 wd_44_0 wd_6_16 wd_6_17 wd_2_20) rfl rfl rfl qX1_lives ⟨Nat.le_of_ble_eq_true rfl, Nat.le_of_ble_eq_true rfl⟩) (kg_preVR (ci := 1) (q := (RX1, TX1, 6)) (q0 := 0) hPc hK hN rfl rfl) rfl rfl hl.1 rfl (lv_room (Nat.le_of_ble_eq_true rfl)) dX1_pairs_14 ⟨Nat.zero_le _, Nat.zero_le _⟩) ?_
        refine kg_b_eq (tgt := 40) hx hb hf dX1_pairs_17 (by decide) (fun hc hf => ?_) (fun hc hf => ?_)
        · refine lv_iinc (v := (v2 + 1)) (lv' := [(2, .int (v2 + 1)), (0, .ref (A 0)), (1, .int v1)]) hx hb dX1_pairs_40 hl (k := 2) rfl rfl (by decide) rfl (fun ls hl => ?_)
          refine lv_goto (tgt := 4) hx hb dX1_pairs_43 (by decide) ?_
          obtain rfl := Option.some.inj hf
          exact ih1 v1 (v2 + 1) hk1 _ (lv_sub hl [1, 2, 0] rfl)
        · refine lv_iload_n hx hb dX1_pairs_20 rfl (lv_at hl 1 rfl) ?_
          refine lv_aload_n hx hb dX1_pairs_21 rfl (lv_at hl 0 rfl) ?_
          refine va_get (D := (dC, dI)) (ci := 1) (v := .ref (A 2)) (C := RX1) (T := TX1) (N := 6) hx hb hts hiX1 hown hK hP 0 rfl rfl 1 (by decide) ww1 (fun _ h9 => h9) rfl dX1_pairs_22 ?_
          refine lv_iload_n hx hb dX1_pairs_25 rfl (lv_at hl 2 rfl) ?_
          obtain ⟨g26, hv, hf⟩ := ob_bind hf
          refine kg_iald hx hb hK hP 2 0 rfl rfl hv dX1_pairs_26 ?_
          refine lv_aload_n hx hb dX1_pairs_27 rfl (lv_at hl 0 rfl) ?_
          refine va_get (D := (dC, dI)) (ci := 1) (v := .ref (A 2)) (C := RX1) (T := TX1) (N := 6) hx hb hts hiX1 hown hK hP 0 rfl rfl 1 (by decide) ww1 (fun _ h9 => h9) rfl dX1_pairs_28 ?_
          refine lv_iload_n hx hb dX1_pairs_31 rfl (lv_at hl 2 rfl) ?_
          obtain ⟨g32, hv, hf⟩ := ob_bind hf
          refine kg_iald hx hb hK hP 2 0 rfl rfl hv dX1_pairs_32 ?_
          refine lv_iconst (v := 1) hx hb dX1_pairs_33 (by decide) ?_
          refine lv_isub hx hb dX1_pairs_34 ?_
          refine lv_imul hx hb dX1_pairs_35 ?_
          refine lv_iconst (v := 2) hx hb dX1_pairs_36 (by decide) ?_
          obtain ⟨g37, hv, hf⟩ := ob_bind hf
          refine kg_idiv hx hb hv dX1_pairs_37 ?_
          refine lv_iadd hx hb dX1_pairs_38 ?_
          refine lv_istore_n (lv' := [(1, .int (v1 + g37)), (0, .ref (A 0)), (2, .int v2)]) hx hb dX1_pairs_39 rfl hl (by decide) rfl (fun ls hl => ?_)
          refine lv_iinc (v := (v2 + 1)) (lv' := [(2, .int (v2 + 1)), (1, .int (v1 + g37)), (0, .ref (A 0))]) hx hb dX1_pairs_40 hl (k := 2) rfl rfl (by decide) rfl (fun ls hl => ?_)
          refine lv_goto (tgt := 4) hx hb dX1_pairs_43 (by decide) ?_
          obtain rfl := Option.some.inj hf
          exact ih1 (v1 + g37) (v2 + 1) hk1 _ (lv_sub hl [2, 1, 0] rfl)
  exact hlp4  FU 0 0 hf _ (lv_sub hl [2, 1, 0] rfl)
set_option maxHeartbeats 4000000 in
set_option maxRecDepth 100000 in
theorem c_X5_bit (l : Launch) (dC : Nat → ClassId) (dI : Nat → Nat → Nat) (cI cJ : ClassId) (hq : Heap) (v0 : Int32) (r0 : Int64) (hf : SB_m_bit v0 = some r0) : MRj l yX5_bit (wAll yX5_bit cX5_bit 1 (some .long)) ({ frames := 1, cells := 0, slots := 0, locals := 40 } : Room) [.int v0] hq (dC, dI) (vTy cI cJ) ([] : va_W) r0 := by
  refine kg_metR (cc := cX5_bit) (maxL := 1) (ret := (some .long)) (by decide) rfl (Nat.le_of_ble_eq_true rfl) ?_
  intro p e s m args below meth c hx hb hr hts hown hlk hml hH hP hK hN ls hl
  subst hH
  have hl : lv_has ls 1 [(0, .int v0)] := hl
  unfold SB_m_bit at hf
  refine lv_lconst (v := 1) hx hb dX5_bit_0 (by decide) ?_
  refine lv_iload_n hx hb dX5_bit_1 rfl (lv_at hl 0 rfl) ?_
  refine lv_lshl hx hb dX5_bit_2 rfl ?_
  obtain rfl := Option.some.inj hf
  exact kg_lretR hx hb hr hlk rfl dX5_bit_3
set_option maxHeartbeats 4000000 in
set_option maxRecDepth 100000 in
theorem c_J13_bitCount (l : Launch) (dC : Nat → ClassId) (dI : Nat → Nat → Nat) (cI cJ : ClassId) (hq : Heap) (v0 : Int64) (r0 : Int32) (hf : Lg_m_bitCount v0 = some r0) : MRi l yJ13_bitCount_95d88 (wAll yJ13_bitCount_95d88 cJ13_bitCount_95d88 2 (some .int)) ({ frames := 1, cells := 0, slots := 0, locals := 40 } : Room) [.long v0] hq (dC, dI) (vTy cI cJ) ([] : va_W) r0 := by
  refine kg_metR (cc := cJ13_bitCount_95d88) (maxL := 2) (ret := (some .int)) (by decide) rfl (Nat.le_of_ble_eq_true rfl) ?_
  intro p e s m args below meth c hx hb hr hts hown hlk hml hH hP hK hN ls hl
  subst hH
  have hl : lv_has ls 2 [(0, .long v0)] := hl
  have ww0 := hts (.constantLong RJ13 314 (6148914691236517205)) (List.mem_cons_of_mem _ wd_22_8)
  have ww1 := hts (.constantLong RJ13 316 (3689348814741910323)) (List.mem_cons_of_mem _ wd_22_9)
  have ww2 := hts (.constantLong RJ13 318 (1085102592571150095)) (List.mem_cons_of_mem _ wd_22_10)
  unfold Lg_m_bitCount at hf
  refine lv_lload_n hx hb dJ13_bitCount_95d88_0 rfl (lv_at hl 0 rfl) ?_
  refine lv_lload_n hx hb dJ13_bitCount_95d88_1 rfl (lv_at hl 0 rfl) ?_
  refine lv_iconst (v := 1) hx hb dJ13_bitCount_95d88_2 (by decide) ?_
  refine lv_lushr hx hb dJ13_bitCount_95d88_3 rfl ?_
  refine lv_ldc2 (v := 6148914691236517205) hx hb hown ww0 dJ13_bitCount_95d88_4 ?_
  refine lv_land hx hb dJ13_bitCount_95d88_7 ?_
  refine lv_lsub hx hb dJ13_bitCount_95d88_8 ?_
  refine lv_lstore_n (lv' := [(0, .long (v0 - ((((v0 : Int64).toUInt64 >>> ((1 : Int32).toInt64.toUInt64 &&& Int64.toUInt64 63)).toInt64) &&& 6148914691236517205)))]) hx hb dJ13_bitCount_95d88_9 rfl hl (by decide) rfl (fun ls hl => ?_)
  refine lv_lload_n hx hb dJ13_bitCount_95d88_10 rfl (lv_at hl 0 rfl) ?_
  refine lv_ldc2 (v := 3689348814741910323) hx hb hown ww1 dJ13_bitCount_95d88_11 ?_
  refine lv_land hx hb dJ13_bitCount_95d88_14 ?_
  refine lv_lload_n hx hb dJ13_bitCount_95d88_15 rfl (lv_at hl 0 rfl) ?_
  refine lv_iconst (v := 2) hx hb dJ13_bitCount_95d88_16 (by decide) ?_
  refine lv_lushr hx hb dJ13_bitCount_95d88_17 rfl ?_
  refine lv_ldc2 (v := 3689348814741910323) hx hb hown ww1 dJ13_bitCount_95d88_18 ?_
  refine lv_land hx hb dJ13_bitCount_95d88_21 ?_
  refine lv_ladd hx hb dJ13_bitCount_95d88_22 ?_
  refine lv_lstore_n (lv' := [(0, .long (((v0 - ((((v0 : Int64).toUInt64 >>> ((1 : Int32).toInt64.toUInt64 &&& Int64.toUInt64 63)).toInt64) &&& 6148914691236517205)) &&& 3689348814741910323) + (((((v0 - ((((v0 : Int64).toUInt64 >>> ((1 : Int32).toInt64.toUInt64 &&& Int64.toUInt64 63)).toInt64) &&& 6148914691236517205)) : Int64).toUInt64 >>> ((2 : Int32).toInt64.toUInt64 &&& Int64.toUInt64 63)).toInt64) &&& 3689348814741910323)))]) hx hb dJ13_bitCount_95d88_23 rfl hl (by decide) rfl (fun ls hl => ?_)
  refine lv_lload_n hx hb dJ13_bitCount_95d88_24 rfl (lv_at hl 0 rfl) ?_
  refine lv_lload_n hx hb dJ13_bitCount_95d88_25 rfl (lv_at hl 0 rfl) ?_
  refine lv_iconst (v := 4) hx hb dJ13_bitCount_95d88_26 (by decide) ?_
  refine lv_lushr hx hb dJ13_bitCount_95d88_27 rfl ?_
  refine lv_ladd hx hb dJ13_bitCount_95d88_28 ?_
  refine lv_ldc2 (v := 1085102592571150095) hx hb hown ww2 dJ13_bitCount_95d88_29 ?_
  refine lv_land hx hb dJ13_bitCount_95d88_32 ?_
  refine lv_lstore_n (lv' := [(0, .long (((((v0 - ((((v0 : Int64).toUInt64 >>> ((1 : Int32).toInt64.toUInt64 &&& Int64.toUInt64 63)).toInt64) &&& 6148914691236517205)) &&& 3689348814741910323) + (((((v0 - ((((v0 : Int64).toUInt64 >>> ((1 : Int32).toInt64.toUInt64 &&& Int64.toUInt64 63)).toInt64) &&& 6148914691236517205)) : Int64).toUInt64 >>> ((2 : Int32).toInt64.toUInt64 &&& Int64.toUInt64 63)).toInt64) &&& 3689348814741910323)) + ((((((v0 - ((((v0 : Int64).toUInt64 >>> ((1 : Int32).toInt64.toUInt64 &&& Int64.toUInt64 63)).toInt64) &&& 6148914691236517205)) &&& 3689348814741910323) + (((((v0 - ((((v0 : Int64).toUInt64 >>> ((1 : Int32).toInt64.toUInt64 &&& Int64.toUInt64 63)).toInt64) &&& 6148914691236517205)) : Int64).toUInt64 >>> ((2 : Int32).toInt64.toUInt64 &&& Int64.toUInt64 63)).toInt64) &&& 3689348814741910323)) : Int64).toUInt64 >>> ((4 : Int32).toInt64.toUInt64 &&& Int64.toUInt64 63)).toInt64)) &&& 1085102592571150095))]) hx hb dJ13_bitCount_95d88_33 rfl hl (by decide) rfl (fun ls hl => ?_)
  refine lv_lload_n hx hb dJ13_bitCount_95d88_34 rfl (lv_at hl 0 rfl) ?_
  refine lv_lload_n hx hb dJ13_bitCount_95d88_35 rfl (lv_at hl 0 rfl) ?_
  refine lv_bipush (v := 8) hx hb dJ13_bitCount_95d88_36 (by decide) ?_
  refine lv_lushr hx hb dJ13_bitCount_95d88_38 rfl ?_
  refine lv_ladd hx hb dJ13_bitCount_95d88_39 ?_
  refine lv_lstore_n (lv' := [(0, .long ((((((v0 - ((((v0 : Int64).toUInt64 >>> ((1 : Int32).toInt64.toUInt64 &&& Int64.toUInt64 63)).toInt64) &&& 6148914691236517205)) &&& 3689348814741910323) + (((((v0 - ((((v0 : Int64).toUInt64 >>> ((1 : Int32).toInt64.toUInt64 &&& Int64.toUInt64 63)).toInt64) &&& 6148914691236517205)) : Int64).toUInt64 >>> ((2 : Int32).toInt64.toUInt64 &&& Int64.toUInt64 63)).toInt64) &&& 3689348814741910323)) + ((((((v0 - ((((v0 : Int64).toUInt64 >>> ((1 : Int32).toInt64.toUInt64 &&& Int64.toUInt64 63)).toInt64) &&& 6148914691236517205)) &&& 3689348814741910323) + (((((v0 - ((((v0 : Int64).toUInt64 >>> ((1 : Int32).toInt64.toUInt64 &&& Int64.toUInt64 63)).toInt64) &&& 6148914691236517205)) : Int64).toUInt64 >>> ((2 : Int32).toInt64.toUInt64 &&& Int64.toUInt64 63)).toInt64) &&& 3689348814741910323)) : Int64).toUInt64 >>> ((4 : Int32).toInt64.toUInt64 &&& Int64.toUInt64 63)).toInt64)) &&& 1085102592571150095) + ((((((((v0 - ((((v0 : Int64).toUInt64 >>> ((1 : Int32).toInt64.toUInt64 &&& Int64.toUInt64 63)).toInt64) &&& 6148914691236517205)) &&& 3689348814741910323) + (((((v0 - ((((v0 : Int64).toUInt64 >>> ((1 : Int32).toInt64.toUInt64 &&& Int64.toUInt64 63)).toInt64) &&& 6148914691236517205)) : Int64).toUInt64 >>> ((2 : Int32).toInt64.toUInt64 &&& Int64.toUInt64 63)).toInt64) &&& 3689348814741910323)) + ((((((v0 - ((((v0 : Int64).toUInt64 >>> ((1 : Int32).toInt64.toUInt64 &&& Int64.toUInt64 63)).toInt64) &&& 6148914691236517205)) &&& 3689348814741910323) + (((((v0 - ((((v0 : Int64).toUInt64 >>> ((1 : Int32).toInt64.toUInt64 &&& Int64.toUInt64 63)).toInt64) &&& 6148914691236517205)) : Int64).toUInt64 >>> ((2 : Int32).toInt64.toUInt64 &&& Int64.toUInt64 63)).toInt64) &&& 3689348814741910323)) : Int64).toUInt64 >>> ((4 : Int32).toInt64.toUInt64 &&& Int64.toUInt64 63)).toInt64)) &&& 1085102592571150095) : Int64).toUInt64 >>> ((8 : Int32).toInt64.toUInt64 &&& Int64.toUInt64 63)).toInt64)))]) hx hb dJ13_bitCount_95d88_40 rfl hl (by decide) rfl (fun ls hl => ?_)
  refine lv_lload_n hx hb dJ13_bitCount_95d88_41 rfl (lv_at hl 0 rfl) ?_
  refine lv_lload_n hx hb dJ13_bitCount_95d88_42 rfl (lv_at hl 0 rfl) ?_
  refine lv_bipush (v := 16) hx hb dJ13_bitCount_95d88_43 (by decide) ?_
  refine lv_lushr hx hb dJ13_bitCount_95d88_45 rfl ?_
  refine lv_ladd hx hb dJ13_bitCount_95d88_46 ?_
  refine lv_lstore_n (lv' := [(0, .long (((((((v0 - ((((v0 : Int64).toUInt64 >>> ((1 : Int32).toInt64.toUInt64 &&& Int64.toUInt64 63)).toInt64) &&& 6148914691236517205)) &&& 3689348814741910323) + (((((v0 - ((((v0 : Int64).toUInt64 >>> ((1 : Int32).toInt64.toUInt64 &&& Int64.toUInt64 63)).toInt64) &&& 6148914691236517205)) : Int64).toUInt64 >>> ((2 : Int32).toInt64.toUInt64 &&& Int64.toUInt64 63)).toInt64) &&& 3689348814741910323)) + ((((((v0 - ((((v0 : Int64).toUInt64 >>> ((1 : Int32).toInt64.toUInt64 &&& Int64.toUInt64 63)).toInt64) &&& 6148914691236517205)) &&& 3689348814741910323) + (((((v0 - ((((v0 : Int64).toUInt64 >>> ((1 : Int32).toInt64.toUInt64 &&& Int64.toUInt64 63)).toInt64) &&& 6148914691236517205)) : Int64).toUInt64 >>> ((2 : Int32).toInt64.toUInt64 &&& Int64.toUInt64 63)).toInt64) &&& 3689348814741910323)) : Int64).toUInt64 >>> ((4 : Int32).toInt64.toUInt64 &&& Int64.toUInt64 63)).toInt64)) &&& 1085102592571150095) + ((((((((v0 - ((((v0 : Int64).toUInt64 >>> ((1 : Int32).toInt64.toUInt64 &&& Int64.toUInt64 63)).toInt64) &&& 6148914691236517205)) &&& 3689348814741910323) + (((((v0 - ((((v0 : Int64).toUInt64 >>> ((1 : Int32).toInt64.toUInt64 &&& Int64.toUInt64 63)).toInt64) &&& 6148914691236517205)) : Int64).toUInt64 >>> ((2 : Int32).toInt64.toUInt64 &&& Int64.toUInt64 63)).toInt64) &&& 3689348814741910323)) + ((((((v0 - ((((v0 : Int64).toUInt64 >>> ((1 : Int32).toInt64.toUInt64 &&& Int64.toUInt64 63)).toInt64) &&& 6148914691236517205)) &&& 3689348814741910323) + (((((v0 - ((((v0 : Int64).toUInt64 >>> ((1 : Int32).toInt64.toUInt64 &&& Int64.toUInt64 63)).toInt64) &&& 6148914691236517205)) : Int64).toUInt64 >>> ((2 : Int32).toInt64.toUInt64 &&& Int64.toUInt64 63)).toInt64) &&& 3689348814741910323)) : Int64).toUInt64 >>> ((4 : Int32).toInt64.toUInt64 &&& Int64.toUInt64 63)).toInt64)) &&& 1085102592571150095) : Int64).toUInt64 >>> ((8 : Int32).toInt64.toUInt64 &&& Int64.toUInt64 63)).toInt64)) + (((((((((v0 - ((((v0 : Int64).toUInt64 >>> ((1 : Int32).toInt64.toUInt64 &&& Int64.toUInt64 63)).toInt64) &&& 6148914691236517205)) &&& 3689348814741910323) + (((((v0 - ((((v0 : Int64).toUInt64 >>> ((1 : Int32).toInt64.toUInt64 &&& Int64.toUInt64 63)).toInt64) &&& 6148914691236517205)) : Int64).toUInt64 >>> ((2 : Int32).toInt64.toUInt64 &&& Int64.toUInt64 63)).toInt64) &&& 3689348814741910323)) + ((((((v0 - ((((v0 : Int64).toUInt64 >>> ((1 : Int32).toInt64.toUInt64 &&& Int64.toUInt64 63)).toInt64) &&& 6148914691236517205)) &&& 3689348814741910323) + (((((v0 - ((((v0 : Int64).toUInt64 >>> ((1 : Int32).toInt64.toUInt64 &&& Int64.toUInt64 63)).toInt64) &&& 6148914691236517205)) : Int64).toUInt64 >>> ((2 : Int32).toInt64.toUInt64 &&& Int64.toUInt64 63)).toInt64) &&& 3689348814741910323)) : Int64).toUInt64 >>> ((4 : Int32).toInt64.toUInt64 &&& Int64.toUInt64 63)).toInt64)) &&& 1085102592571150095) + ((((((((v0 - ((((v0 : Int64).toUInt64 >>> ((1 : Int32).toInt64.toUInt64 &&& Int64.toUInt64 63)).toInt64) &&& 6148914691236517205)) &&& 3689348814741910323) + (((((v0 - ((((v0 : Int64).toUInt64 >>> ((1 : Int32).toInt64.toUInt64 &&& Int64.toUInt64 63)).toInt64) &&& 6148914691236517205)) : Int64).toUInt64 >>> ((2 : Int32).toInt64.toUInt64 &&& Int64.toUInt64 63)).toInt64) &&& 3689348814741910323)) + ((((((v0 - ((((v0 : Int64).toUInt64 >>> ((1 : Int32).toInt64.toUInt64 &&& Int64.toUInt64 63)).toInt64) &&& 6148914691236517205)) &&& 3689348814741910323) + (((((v0 - ((((v0 : Int64).toUInt64 >>> ((1 : Int32).toInt64.toUInt64 &&& Int64.toUInt64 63)).toInt64) &&& 6148914691236517205)) : Int64).toUInt64 >>> ((2 : Int32).toInt64.toUInt64 &&& Int64.toUInt64 63)).toInt64) &&& 3689348814741910323)) : Int64).toUInt64 >>> ((4 : Int32).toInt64.toUInt64 &&& Int64.toUInt64 63)).toInt64)) &&& 1085102592571150095) : Int64).toUInt64 >>> ((8 : Int32).toInt64.toUInt64 &&& Int64.toUInt64 63)).toInt64)) : Int64).toUInt64 >>> ((16 : Int32).toInt64.toUInt64 &&& Int64.toUInt64 63)).toInt64)))]) hx hb dJ13_bitCount_95d88_47 rfl hl (by decide) rfl (fun ls hl => ?_)
  refine lv_lload_n hx hb dJ13_bitCount_95d88_48 rfl (lv_at hl 0 rfl) ?_
  refine lv_lload_n hx hb dJ13_bitCount_95d88_49 rfl (lv_at hl 0 rfl) ?_
  refine lv_bipush (v := 32) hx hb dJ13_bitCount_95d88_50 (by decide) ?_
  refine lv_lushr hx hb dJ13_bitCount_95d88_52 rfl ?_
  refine lv_ladd hx hb dJ13_bitCount_95d88_53 ?_
  refine lv_lstore_n (lv' := [(0, .long ((((((((v0 - ((((v0 : Int64).toUInt64 >>> ((1 : Int32).toInt64.toUInt64 &&& Int64.toUInt64 63)).toInt64) &&& 6148914691236517205)) &&& 3689348814741910323) + (((((v0 - ((((v0 : Int64).toUInt64 >>> ((1 : Int32).toInt64.toUInt64 &&& Int64.toUInt64 63)).toInt64) &&& 6148914691236517205)) : Int64).toUInt64 >>> ((2 : Int32).toInt64.toUInt64 &&& Int64.toUInt64 63)).toInt64) &&& 3689348814741910323)) + ((((((v0 - ((((v0 : Int64).toUInt64 >>> ((1 : Int32).toInt64.toUInt64 &&& Int64.toUInt64 63)).toInt64) &&& 6148914691236517205)) &&& 3689348814741910323) + (((((v0 - ((((v0 : Int64).toUInt64 >>> ((1 : Int32).toInt64.toUInt64 &&& Int64.toUInt64 63)).toInt64) &&& 6148914691236517205)) : Int64).toUInt64 >>> ((2 : Int32).toInt64.toUInt64 &&& Int64.toUInt64 63)).toInt64) &&& 3689348814741910323)) : Int64).toUInt64 >>> ((4 : Int32).toInt64.toUInt64 &&& Int64.toUInt64 63)).toInt64)) &&& 1085102592571150095) + ((((((((v0 - ((((v0 : Int64).toUInt64 >>> ((1 : Int32).toInt64.toUInt64 &&& Int64.toUInt64 63)).toInt64) &&& 6148914691236517205)) &&& 3689348814741910323) + (((((v0 - ((((v0 : Int64).toUInt64 >>> ((1 : Int32).toInt64.toUInt64 &&& Int64.toUInt64 63)).toInt64) &&& 6148914691236517205)) : Int64).toUInt64 >>> ((2 : Int32).toInt64.toUInt64 &&& Int64.toUInt64 63)).toInt64) &&& 3689348814741910323)) + ((((((v0 - ((((v0 : Int64).toUInt64 >>> ((1 : Int32).toInt64.toUInt64 &&& Int64.toUInt64 63)).toInt64) &&& 6148914691236517205)) &&& 3689348814741910323) + (((((v0 - ((((v0 : Int64).toUInt64 >>> ((1 : Int32).toInt64.toUInt64 &&& Int64.toUInt64 63)).toInt64) &&& 6148914691236517205)) : Int64).toUInt64 >>> ((2 : Int32).toInt64.toUInt64 &&& Int64.toUInt64 63)).toInt64) &&& 3689348814741910323)) : Int64).toUInt64 >>> ((4 : Int32).toInt64.toUInt64 &&& Int64.toUInt64 63)).toInt64)) &&& 1085102592571150095) : Int64).toUInt64 >>> ((8 : Int32).toInt64.toUInt64 &&& Int64.toUInt64 63)).toInt64)) + (((((((((v0 - ((((v0 : Int64).toUInt64 >>> ((1 : Int32).toInt64.toUInt64 &&& Int64.toUInt64 63)).toInt64) &&& 6148914691236517205)) &&& 3689348814741910323) + (((((v0 - ((((v0 : Int64).toUInt64 >>> ((1 : Int32).toInt64.toUInt64 &&& Int64.toUInt64 63)).toInt64) &&& 6148914691236517205)) : Int64).toUInt64 >>> ((2 : Int32).toInt64.toUInt64 &&& Int64.toUInt64 63)).toInt64) &&& 3689348814741910323)) + ((((((v0 - ((((v0 : Int64).toUInt64 >>> ((1 : Int32).toInt64.toUInt64 &&& Int64.toUInt64 63)).toInt64) &&& 6148914691236517205)) &&& 3689348814741910323) + (((((v0 - ((((v0 : Int64).toUInt64 >>> ((1 : Int32).toInt64.toUInt64 &&& Int64.toUInt64 63)).toInt64) &&& 6148914691236517205)) : Int64).toUInt64 >>> ((2 : Int32).toInt64.toUInt64 &&& Int64.toUInt64 63)).toInt64) &&& 3689348814741910323)) : Int64).toUInt64 >>> ((4 : Int32).toInt64.toUInt64 &&& Int64.toUInt64 63)).toInt64)) &&& 1085102592571150095) + ((((((((v0 - ((((v0 : Int64).toUInt64 >>> ((1 : Int32).toInt64.toUInt64 &&& Int64.toUInt64 63)).toInt64) &&& 6148914691236517205)) &&& 3689348814741910323) + (((((v0 - ((((v0 : Int64).toUInt64 >>> ((1 : Int32).toInt64.toUInt64 &&& Int64.toUInt64 63)).toInt64) &&& 6148914691236517205)) : Int64).toUInt64 >>> ((2 : Int32).toInt64.toUInt64 &&& Int64.toUInt64 63)).toInt64) &&& 3689348814741910323)) + ((((((v0 - ((((v0 : Int64).toUInt64 >>> ((1 : Int32).toInt64.toUInt64 &&& Int64.toUInt64 63)).toInt64) &&& 6148914691236517205)) &&& 3689348814741910323) + (((((v0 - ((((v0 : Int64).toUInt64 >>> ((1 : Int32).toInt64.toUInt64 &&& Int64.toUInt64 63)).toInt64) &&& 6148914691236517205)) : Int64).toUInt64 >>> ((2 : Int32).toInt64.toUInt64 &&& Int64.toUInt64 63)).toInt64) &&& 3689348814741910323)) : Int64).toUInt64 >>> ((4 : Int32).toInt64.toUInt64 &&& Int64.toUInt64 63)).toInt64)) &&& 1085102592571150095) : Int64).toUInt64 >>> ((8 : Int32).toInt64.toUInt64 &&& Int64.toUInt64 63)).toInt64)) : Int64).toUInt64 >>> ((16 : Int32).toInt64.toUInt64 &&& Int64.toUInt64 63)).toInt64)) + ((((((((((v0 - ((((v0 : Int64).toUInt64 >>> ((1 : Int32).toInt64.toUInt64 &&& Int64.toUInt64 63)).toInt64) &&& 6148914691236517205)) &&& 3689348814741910323) + (((((v0 - ((((v0 : Int64).toUInt64 >>> ((1 : Int32).toInt64.toUInt64 &&& Int64.toUInt64 63)).toInt64) &&& 6148914691236517205)) : Int64).toUInt64 >>> ((2 : Int32).toInt64.toUInt64 &&& Int64.toUInt64 63)).toInt64) &&& 3689348814741910323)) + ((((((v0 - ((((v0 : Int64).toUInt64 >>> ((1 : Int32).toInt64.toUInt64 &&& Int64.toUInt64 63)).toInt64) &&& 6148914691236517205)) &&& 3689348814741910323) + (((((v0 - ((((v0 : Int64).toUInt64 >>> ((1 : Int32).toInt64.toUInt64 &&& Int64.toUInt64 63)).toInt64) &&& 6148914691236517205)) : Int64).toUInt64 >>> ((2 : Int32).toInt64.toUInt64 &&& Int64.toUInt64 63)).toInt64) &&& 3689348814741910323)) : Int64).toUInt64 >>> ((4 : Int32).toInt64.toUInt64 &&& Int64.toUInt64 63)).toInt64)) &&& 1085102592571150095) + ((((((((v0 - ((((v0 : Int64).toUInt64 >>> ((1 : Int32).toInt64.toUInt64 &&& Int64.toUInt64 63)).toInt64) &&& 6148914691236517205)) &&& 3689348814741910323) + (((((v0 - ((((v0 : Int64).toUInt64 >>> ((1 : Int32).toInt64.toUInt64 &&& Int64.toUInt64 63)).toInt64) &&& 6148914691236517205)) : Int64).toUInt64 >>> ((2 : Int32).toInt64.toUInt64 &&& Int64.toUInt64 63)).toInt64) &&& 3689348814741910323)) + ((((((v0 - ((((v0 : Int64).toUInt64 >>> ((1 : Int32).toInt64.toUInt64 &&& Int64.toUInt64 63)).toInt64) &&& 6148914691236517205)) &&& 3689348814741910323) + (((((v0 - ((((v0 : Int64).toUInt64 >>> ((1 : Int32).toInt64.toUInt64 &&& Int64.toUInt64 63)).toInt64) &&& 6148914691236517205)) : Int64).toUInt64 >>> ((2 : Int32).toInt64.toUInt64 &&& Int64.toUInt64 63)).toInt64) &&& 3689348814741910323)) : Int64).toUInt64 >>> ((4 : Int32).toInt64.toUInt64 &&& Int64.toUInt64 63)).toInt64)) &&& 1085102592571150095) : Int64).toUInt64 >>> ((8 : Int32).toInt64.toUInt64 &&& Int64.toUInt64 63)).toInt64)) + (((((((((v0 - ((((v0 : Int64).toUInt64 >>> ((1 : Int32).toInt64.toUInt64 &&& Int64.toUInt64 63)).toInt64) &&& 6148914691236517205)) &&& 3689348814741910323) + (((((v0 - ((((v0 : Int64).toUInt64 >>> ((1 : Int32).toInt64.toUInt64 &&& Int64.toUInt64 63)).toInt64) &&& 6148914691236517205)) : Int64).toUInt64 >>> ((2 : Int32).toInt64.toUInt64 &&& Int64.toUInt64 63)).toInt64) &&& 3689348814741910323)) + ((((((v0 - ((((v0 : Int64).toUInt64 >>> ((1 : Int32).toInt64.toUInt64 &&& Int64.toUInt64 63)).toInt64) &&& 6148914691236517205)) &&& 3689348814741910323) + (((((v0 - ((((v0 : Int64).toUInt64 >>> ((1 : Int32).toInt64.toUInt64 &&& Int64.toUInt64 63)).toInt64) &&& 6148914691236517205)) : Int64).toUInt64 >>> ((2 : Int32).toInt64.toUInt64 &&& Int64.toUInt64 63)).toInt64) &&& 3689348814741910323)) : Int64).toUInt64 >>> ((4 : Int32).toInt64.toUInt64 &&& Int64.toUInt64 63)).toInt64)) &&& 1085102592571150095) + ((((((((v0 - ((((v0 : Int64).toUInt64 >>> ((1 : Int32).toInt64.toUInt64 &&& Int64.toUInt64 63)).toInt64) &&& 6148914691236517205)) &&& 3689348814741910323) + (((((v0 - ((((v0 : Int64).toUInt64 >>> ((1 : Int32).toInt64.toUInt64 &&& Int64.toUInt64 63)).toInt64) &&& 6148914691236517205)) : Int64).toUInt64 >>> ((2 : Int32).toInt64.toUInt64 &&& Int64.toUInt64 63)).toInt64) &&& 3689348814741910323)) + ((((((v0 - ((((v0 : Int64).toUInt64 >>> ((1 : Int32).toInt64.toUInt64 &&& Int64.toUInt64 63)).toInt64) &&& 6148914691236517205)) &&& 3689348814741910323) + (((((v0 - ((((v0 : Int64).toUInt64 >>> ((1 : Int32).toInt64.toUInt64 &&& Int64.toUInt64 63)).toInt64) &&& 6148914691236517205)) : Int64).toUInt64 >>> ((2 : Int32).toInt64.toUInt64 &&& Int64.toUInt64 63)).toInt64) &&& 3689348814741910323)) : Int64).toUInt64 >>> ((4 : Int32).toInt64.toUInt64 &&& Int64.toUInt64 63)).toInt64)) &&& 1085102592571150095) : Int64).toUInt64 >>> ((8 : Int32).toInt64.toUInt64 &&& Int64.toUInt64 63)).toInt64)) : Int64).toUInt64 >>> ((16 : Int32).toInt64.toUInt64 &&& Int64.toUInt64 63)).toInt64)) : Int64).toUInt64 >>> ((32 : Int32).toInt64.toUInt64 &&& Int64.toUInt64 63)).toInt64)))]) hx hb dJ13_bitCount_95d88_54 rfl hl (by decide) rfl (fun ls hl => ?_)
  refine lv_lload_n hx hb dJ13_bitCount_95d88_55 rfl (lv_at hl 0 rfl) ?_
  refine lv_l2i hx hb dJ13_bitCount_95d88_56 rfl ?_
  refine lv_bipush (v := 127) hx hb dJ13_bitCount_95d88_57 (by decide) ?_
  refine lv_iand hx hb dJ13_bitCount_95d88_59 ?_
  obtain rfl := Option.some.inj hf
  exact kg_iretR hx hb hr hlk rfl dJ13_bitCount_95d88_60
