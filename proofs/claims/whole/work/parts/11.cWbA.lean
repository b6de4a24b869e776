set_option maxHeartbeats 4000000 in
set_option maxRecDepth 100000 in
theorem c_X4_isBridge (l : Launch) (dC : Nat → ClassId) (dI : Nat → Nat → Nat) (cI cJ : ClassId) (A : Nat → Nat) (hq : Heap) (x : WbS) (v1 : Int32) (r0 : Bool) (hf : Wb_m_isBridge x v1 = some r0) : MRi l yX4_isBridge (wAll yX4_isBridge cX4_isBridge 2 (some .boolean)) ({ frames := 1, cells := 0, slots := 0, locals := 40 } : Room) [.ref (A 0), .int v1] hq (dC, dI) (vTy cI cJ) (wWb cI cJ A x) (b2i r0) := by
  refine kg_metR (cc := cX4_isBridge) (maxL := 2) (ret := (some .boolean)) (by decide) rfl (Nat.le_of_ble_eq_true rfl) ?_
  intro p e s m args below meth c hx hb hr hts hown hlk hml hH hP hK hN ls hl
  subst hH
  have hl : lv_has ls 2 [(0, .ref (A 0)), (1, .int v1)] := hl
  have ww0 := hts (.fieldLink RX4 18 "SafeBlocks$Web" "endedBy" "[I") (List.mem_cons_of_mem _ wd_2_13)
  have hiX4 : ∀ w ∈ u_ws RX4 TX4 16, w ∈ wAll yX4_isBridge cX4_isBridge 2 (some .boolean) := fun w h => List.mem_cons_of_mem _ (inlX4 w h)
  unfold Wb_m_isBridge at hf
  refine lv_aload_n hx hb dX4_isBridge_0 rfl (lv_at hl 0 rfl) ?_
  refine va_get (D := (dC, dI)) (ci := 4) (v := .ref (A 3)) (C := RX4) (T := TX4) (N := 16) hx hb hts hiX4 hown hK hP 0 rfl rfl 2 (by decide) ww0 (fun _ h9 => h9) rfl dX4_isBridge_1 ?_
  refine lv_iload_n hx hb dX4_isBridge_4 rfl (lv_at hl 1 rfl) ?_
  obtain ⟨g5, hv, hf⟩ := ob_bind hf
  refine kg_iald hx hb hK hP 3 0 rfl rfl hv dX4_isBridge_5 ?_
  refine lv_iconst (v := (-1)) hx hb dX4_isBridge_6 (by decide) ?_
  refine kg_icmp_ne (tgt := 14) hx hb hf dX4_isBridge_7 (by decide) (fun hc hf => ?_) (fun hc hf => ?_)
  · refine lv_iconst (v := 0) hx hb dX4_isBridge_14 (by decide) ?_
    obtain rfl := Option.some.inj hf
    exact kg_zretR (b := false) hx hb hr hlk rfl rfl dX4_isBridge_15
  · refine lv_iconst (v := 1) hx hb dX4_isBridge_10 (by decide) ?_
    refine lv_goto (tgt := 15) hx hb dX4_isBridge_11 (by decide) ?_
    obtain rfl := Option.some.inj hf
    exact kg_zretR (b := true) hx hb hr hlk rfl rfl dX4_isBridge_15
set_option maxHeartbeats 4000000 in
set_option maxRecDepth 100000 in
theorem c_X4_isAt (l : Launch) (dC : Nat → ClassId) (dI : Nat → Nat → Nat) (cI cJ : ClassId) (A : Nat → Nat) (hq : Heap) (x : WbS) (v1 : Int32) (v2 : Int32) (r0 : Bool) (hf : Wb_m_isAt x v1 v2 = some r0) : MRi l yX4_isAt (wAll yX4_isAt cX4_isAt 3 (some .boolean)) ({ frames := 1, cells := 0, slots := 0, locals := 40 } : Room) [.ref (A 0), .int v1, .int v2] hq (dC, dI) (vTy cI cJ) (wWb cI cJ A x) (b2i r0) := by
  refine kg_metR (cc := cX4_isAt) (maxL := 3) (ret := (some .boolean)) (by decide) rfl (Nat.le_of_ble_eq_true rfl) ?_
  intro p e s m args below meth c hx hb hr hts hown hlk hml hH hP hK hN ls hl
  subst hH
  have hl : lv_has ls 3 [(0, .ref (A 0)), (1, .int v1), (2, .int v2)] := hl
  have ww0 := hts (.fieldLink RX4 9 "SafeBlocks$Web" "first" "[I") (List.mem_cons_of_mem _ wd_2_11)
  have ww1 := hts (.fieldLink RX4 15 "SafeBlocks$Web" "second" "[I") (List.mem_cons_of_mem _ wd_2_12)
  have hiX4 : ∀ w ∈ u_ws RX4 TX4 16, w ∈ wAll yX4_isAt cX4_isAt 3 (some .boolean) := fun w h => List.mem_cons_of_mem _ (inlX4 w h)
  unfold Wb_m_isAt at hf
  refine lv_aload_n hx hb dX4_isAt_0 rfl (lv_at hl 0 rfl) ?_
  refine va_get (D := (dC, dI)) (ci := 4) (v := .ref (A 1)) (C := RX4) (T := TX4) (N := 16) hx hb hts hiX4 hown hK hP 0 rfl rfl 0 (by decide) ww0 (fun _ h9 => h9) rfl dX4_isAt_1 ?_
  refine lv_iload_n hx hb dX4_isAt_4 rfl (lv_at hl 1 rfl) ?_
  obtain ⟨g5, hv, hf⟩ := ob_bind hf
  refine kg_iald hx hb hK hP 1 0 rfl rfl hv dX4_isAt_5 ?_
  refine lv_iload_n hx hb dX4_isAt_6 rfl (lv_at hl 2 rfl) ?_
  refine kg_icmp_eq (tgt := 20) hx hb hf dX4_isAt_7 (by decide) (fun hc hf => ?_) (fun hc hf => ?_)
  · refine lv_iconst (v := 1) hx hb dX4_isAt_20 (by decide) ?_
    refine lv_goto (tgt := 25) hx hb dX4_isAt_21 (by decide) ?_
    obtain rfl := Option.some.inj hf
    exact kg_zretR (b := true) hx hb hr hlk rfl rfl dX4_isAt_25
  · refine lv_aload_n hx hb dX4_isAt_10 rfl (lv_at hl 0 rfl) ?_
    refine va_get (D := (dC, dI)) (ci := 4) (v := .ref (A 2)) (C := RX4) (T := TX4) (N := 16) hx hb hts hiX4 hown hK hP 0 rfl rfl 1 (by decide) ww1 (fun _ h9 => h9) rfl dX4_isAt_11 ?_
    refine lv_iload_n hx hb dX4_isAt_14 rfl (lv_at hl 1 rfl) ?_
    obtain ⟨g15, hv, hf⟩ := ob_bind hf
    refine kg_iald hx hb hK hP 2 0 rfl rfl hv dX4_isAt_15 ?_
    refine lv_iload_n hx hb dX4_isAt_16 rfl (lv_at hl 2 rfl) ?_
    refine kg_icmp_ne (tgt := 24) hx hb hf dX4_isAt_17 (by decide) (fun hc hf => ?_) (fun hc hf => ?_)
    · refine lv_iconst (v := 0) hx hb dX4_isAt_24 (by decide) ?_
      obtain rfl := Option.some.inj hf
      exact kg_zretR (b := false) hx hb hr hlk rfl rfl dX4_isAt_25
    · refine lv_iconst (v := 1) hx hb dX4_isAt_20 (by decide) ?_
      refine lv_goto (tgt := 25) hx hb dX4_isAt_21 (by decide) ?_
      obtain rfl := Option.some.inj hf
      exact kg_zretR (b := true) hx hb hr hlk rfl rfl dX4_isAt_25
set_option maxHeartbeats 4000000 in
set_option maxRecDepth 100000 in
theorem c_X4_high (l : Launch) (dC : Nat → ClassId) (dI : Nat → Nat → Nat) (cI cJ : ClassId) (A : Nat → Nat) (hq : Heap) (x : WbS) (v1 : Int32) (r0 : Int32) (hf : Wb_m_high x v1 = some r0) : MRi l yX4_high (wAll yX4_high cX4_high 4 (some .int)) ({ frames := 1, cells := 0, slots := 0, locals := 40 } : Room) [.ref (A 0), .int v1] hq (dC, dI) (vTy cI cJ) (wWb cI cJ A x) r0 := by
  refine kg_metR (cc := cX4_high) (maxL := 4) (ret := (some .int)) (by decide) rfl (Nat.le_of_ble_eq_true rfl) ?_
  intro p e s m args below meth c hx hb hr hts hown hlk hml hH hP hK hN ls hl
  subst hH
  have hl : lv_has ls 4 [(0, .ref (A 0)), (1, .int v1)] := hl
  have ww0 := hts (.fieldLink RX4 21 "SafeBlocks$Web" "up" "[I") (List.mem_cons_of_mem _ wd_2_14)
  have ww1 := hts (.fieldLink RX4 48 "SafeBlocks$Web" "nodes" "I") (List.mem_cons_of_mem _ wd_3_0)
  have hiX4 : ∀ w ∈ u_ws RX4 TX4 16, w ∈ wAll yX4_high cX4_high 4 (some .int) := fun w h => List.mem_cons_of_mem _ (inlX4 w h)
  unfold Wb_m_high at hf
  refine lv_aload_n hx hb dX4_high_0 rfl (lv_at hl 0 rfl) ?_
  refine va_get (D := (dC, dI)) (ci := 4) (v := .ref (A 4)) (C := RX4) (T := TX4) (N := 16) hx hb hts hiX4 hown hK hP 0 rfl rfl 3 (by decide) ww0 (fun _ h9 => h9) rfl dX4_high_1 ?_
  refine lv_iload_n hx hb dX4_high_4 rfl (lv_at hl 1 rfl) ?_
  obtain ⟨g5, hv, hf⟩ := ob_bind hf
  refine kg_iald hx hb hK hP 4 0 rfl rfl hv dX4_high_5 ?_
  refine lv_istore_n (lv' := [(2, .int g5), (0, .ref (A 0)), (1, .int v1)]) hx hb dX4_high_6 rfl hl (by decide) rfl (fun ls hl => ?_)
  refine lv_iconst (v := 0) hx hb dX4_high_7 (by decide) ?_
  refine lv_istore_n (lv' := [(3, .int 0), (2, .int g5), (0, .ref (A 0)), (1, .int v1)]) hx hb dX4_high_8 rfl hl (by decide) rfl (fun ls hl => ?_)
  have hlp9 : ∀ (n : Nat) (v2 : Int32) (v3 : Int32), iter (fun p : Int32 × Int32 => Wb_m_high_s9 x p.1 p.2) n (v2, v3) = some r0 → ∀ (ls : Array Slot), lv_has ls 4 [(0, .ref (A 0)), (2, .int v2), (3, .int v3)] → W p l e ({ frames := 1, cells := 0, slots := 0, locals := 40 } : Room) s m args below meth c s.heap [] 0 0 (MQ below (QRi s.heap r0) args s 0 0 NoA) (F0 m 9 ls []) := by
    intro  n
    induction n with
    | zero => intro v2 v3 hf; exact iter_zero hf
    | succ n ih1 =>
      intro v2 v3 hf ls hl
      obtain ⟨q1, hf, hk1⟩ := iter_succ hf
      have hf : Wb_m_high_s9 x v2 v3 = some q1 := hf
      unfold Wb_m_high_s9 at hf
      refine lv_iload_n hx hb dX4_high_9 rfl (lv_at hl 2 rfl) ?_
      refine lv_aload_n hx hb dX4_high_10 rfl (lv_at hl 0 rfl) ?_
      refine va_get (D := (dC, dI)) (ci := 4) (v := .int (Wb_nodes x)) (C := RX4) (T := TX4) (N := 16) hx hb hts hiX4 hown hK hP 0 rfl rfl 10 (by decide) ww1 (fun _ h9 => h9) rfl dX4_high_11 ?_
      refine kg_icmp_ge (tgt := 35) hx hb hf dX4_high_14 (by decide) (fun hc hf => ?_) (fun hc hf => ?_)
      · obtain ⟨qq, hf, hqq⟩ := omap_some hf
        have hkq : qq = r0 := by rw [← hqq] at hk1; exact hk1
        rw [hkq] at hf
        clear hkq hqq
        refine lv_iload_n hx hb dX4_high_35 rfl (lv_at hl 2 rfl) ?_
        obtain rfl := Option.some.inj hf
        exact kg_iretR hx hb hr hlk rfl dX4_high_36
      · refine lv_iload_n hx hb dX4_high_17 rfl (lv_at hl 1 rfl) ?_
        refine lv_iconst (v := (-1)) hx hb dX4_high_18 (by decide) ?_
        refine kg_icmp_eq (tgt := 35) hx hb hf dX4_high_19 (by decide) (fun hc hf => ?_) (fun hc hf => ?_)
        · obtain ⟨qq, hf, hqq⟩ := omap_some hf
          have hkq : qq = r0 := by rw [← hqq] at hk1; exact hk1
          rw [hkq] at hf
          clear hkq hqq
          refine lv_iload_n hx hb dX4_high_35 rfl (lv_at hl 2 rfl) ?_
          obtain rfl := Option.some.inj hf
          exact kg_iretR hx hb hr hlk rfl dX4_high_36
        · refine lv_aload_n hx hb dX4_high_22 rfl (lv_at hl 0 rfl) ?_
          refine va_get (D := (dC, dI)) (ci := 4) (v := .ref (A 4)) (C := RX4) (T := TX4) (N := 16) hx hb hts hiX4 hown hK hP 0 rfl rfl 3 (by decide) ww0 (fun _ h9 => h9) rfl dX4_high_23 ?_
          refine lv_iload_n hx hb dX4_high_26 rfl (lv_at hl 1 rfl) ?_
          obtain ⟨g27, hv, hf⟩ := ob_bind hf
          refine kg_iald hx hb hK hP 4 0 rfl rfl hv dX4_high_27 ?_
          refine lv_istore_n (lv' := [(2, .int g27), (0, .ref (A 0)), (3, .int v3)]) hx hb dX4_high_28 rfl hl (by decide) rfl (fun ls hl => ?_)
          refine lv_iinc (v := (v3 + 1)) (lv' := [(3, .int (v3 + 1)), (2, .int g27), (0, .ref (A 0))]) hx hb dX4_high_29 hl (k := 2) rfl rfl (by decide) rfl (fun ls hl => ?_)
          refine lv_goto (tgt := 9) hx hb dX4_high_32 (by decide) ?_
          obtain rfl := Option.some.inj hf
          exact ih1 g27 (v3 + 1) hk1 _ (lv_sub hl [2, 1, 0] rfl)
  exact hlp9  FU g5 0 hf _ (lv_sub hl [2, 1, 0] rfl)
set_option maxHeartbeats 4000000 in
set_option maxRecDepth 100000 in
theorem c_X4_apart (l : Launch) (dC : Nat → ClassId) (dI : Nat → Nat → Nat) (cI cJ : ClassId) (A : Nat → Nat) (hq : Heap) (x : WbS) (v1 : Int32) (v2 : Int32) (v3 : Int32) (v4 : Int32) (r0 : Int32) (hf : Wb_m_apart x v1 v2 v3 v4 = some r0) : MRi l yX4_apart (wAll yX4_apart cX4_apart 10 (some .int)) ({ frames := 1, cells := 0, slots := 0, locals := 40 } : Room) [.ref (A 0), .int v1, .int v2, .int v3, .int v4] hq (dC, dI) (vTy cI cJ) (wWb cI cJ A x) r0 := by
  refine kg_metR (cc := cX4_apart) (maxL := 10) (ret := (some .int)) (by decide) rfl (Nat.le_of_ble_eq_true rfl) ?_
  intro p e s m args below meth c hx hb hr hts hown hlk hml hH hP hK hN ls hl
  subst hH
  have hl : lv_has ls 10 [(0, .ref (A 0)), (1, .int v1), (2, .int v2), (3, .int v3), (4, .int v4)] := hl
  have ww0 := hts (.fieldLink RX4 48 "SafeBlocks$Web" "nodes" "I") (List.mem_cons_of_mem _ wd_3_0)
  have ww1 := hts (.fieldLink RX4 21 "SafeBlocks$Web" "up" "[I") (List.mem_cons_of_mem _ wd_2_14)
  have hiX4 : ∀ w ∈ u_ws RX4 TX4 16, w ∈ wAll yX4_apart cX4_apart 10 (some .int) := fun w h => List.mem_cons_of_mem _ (inlX4 w h)
  unfold Wb_m_apart at hf
  refine lv_iload_n hx hb dX4_apart_0 rfl (lv_at hl 1 rfl) ?_
  refine lv_istore (lv' := [(5, .int v1), (0, .ref (A 0)), (1, .int v1), (2, .int v2), (3, .int v3), (4, .int v4)]) hx hb dX4_apart_1 hl (by decide) rfl (fun ls hl => ?_)
  refine lv_iload_n hx hb dX4_apart_3 rfl (lv_at hl 3 rfl) ?_
  refine lv_istore (lv' := [(6, .int v2), (5, .int v1), (0, .ref (A 0)), (1, .int v1), (2, .int v2), (3, .int v3), (4, .int v4)]) hx hb dX4_apart_4 hl (by decide) rfl (fun ls hl => ?_)
  refine lv_iload_n hx hb dX4_apart_6 rfl (lv_at hl 5 rfl) ?_
  refine lv_istore (lv' := [(7, .int v3), (6, .int v2), (5, .int v1), (0, .ref (A 0)), (1, .int v1), (2, .int v2), (3, .int v3), (4, .int v4)]) hx hb dX4_apart_7 hl (by decide) rfl (fun ls hl => ?_)
  refine lv_iload hx hb dX4_apart_9 (lv_at hl 7 rfl) ?_
  refine lv_istore (lv' := [(8, .int v4), (7, .int v3), (6, .int v2), (5, .int v1), (0, .ref (A 0)), (1, .int v1), (2, .int v2), (3, .int v3), (4, .int v4)]) hx hb dX4_apart_11 hl (by decide) rfl (fun ls hl => ?_)
  refine lv_iconst (v := 0) hx hb dX4_apart_13 (by decide) ?_
  refine lv_istore (lv' := [(9, .int 0), (8, .int v4), (7, .int v3), (6, .int v2), (5, .int v1), (0, .ref (A 0)), (1, .int v1), (2, .int v2), (3, .int v3), (4, .int v4)]) hx hb dX4_apart_14 hl (by decide) rfl (fun ls hl => ?_)
  have hlp16 : ∀ (n : Nat) (v5 : Int32) (v6 : Int32) (v7 : Int32) (v8 : Int32) (v9 : Int32), iter (fun p : Int32 × Int32 × Int32 × Int32 × Int32 => Wb_m_apart_s16 x p.1 p.2.1 p.2.2.1 p.2.2.2.1 p.2.2.2.2) n (v5, v6, v7, v8, v9) = some r0 → ∀ (ls : Array Slot), lv_has ls 10 [(0, .ref (A 0)), (5, .int v5), (6, .int v6), (7, .int v7), (8, .int v8), (9, .int v9)] → W p l e ({ frames := 1, cells := 0, slots := 0, locals := 40 } : Room) s m args below meth c s.heap [] 0 0 (MQ below (QRi s.heap r0) args s 0 0 NoA) (F0 m 16 ls []) := by
    intro  n
    induction n with
    | zero => intro v5 v6 v7 v8 v9 hf; exact iter_zero hf
    | succ n ih1 =>
      intro v5 v6 v7 v8 v9 hf ls hl
      obtain ⟨q1, hf, hk1⟩ := iter_succ hf
      have hf : Wb_m_apart_s16 x v5 v6 v7 v8 v9 = some q1 := hf
      unfold Wb_m_apart_s16 at hf
      refine lv_iload hx hb dX4_apart_16 (lv_at hl 5 rfl) ?_
      refine lv_aload_n hx hb dX4_apart_18 rfl (lv_at hl 0 rfl) ?_
      refine va_get (D := (dC, dI)) (ci := 4) (v := .int (Wb_nodes x)) (C := RX4) (T := TX4) (N := 16) hx hb hts hiX4 hown hK hP 0 rfl rfl 10 (by decide) ww0 (fun _ h9 => h9) rfl dX4_apart_19 ?_
      refine lv_iconst (v := 1) hx hb dX4_apart_22 (by decide) ?_
      refine lv_isub hx hb dX4_apart_23 ?_
      refine kg_icmp_ge (tgt := 86) hx hb hf dX4_apart_24 (by decide) (fun hc hf => ?_) (fun hc hf => ?_)
      · obtain ⟨qq, hf, hqq⟩ := omap_some hf
        have hkq : qq = r0 := by rw [← hqq] at hk1; exact hk1
        rw [hkq] at hf
        clear hkq hqq
        refine lv_iload hx hb dX4_apart_86 (lv_at hl 5 rfl) ?_
        obtain rfl := Option.some.inj hf
        exact kg_iretR hx hb hr hlk rfl dX4_apart_88
      · refine lv_iload hx hb dX4_apart_27 (lv_at hl 1 rfl) ?_
        refine lv_iload hx hb dX4_apart_29 (lv_at hl 2 rfl) ?_
        refine kg_icmp_eq (tgt := 86) hx hb hf dX4_apart_31 (by decide) (fun hc hf => ?_) (fun hc hf => ?_)
        · obtain ⟨qq, hf, hqq⟩ := omap_some hf
          have hkq : qq = r0 := by rw [← hqq] at hk1; exact hk1
          rw [hkq] at hf
          clear hkq hqq
          refine lv_iload hx hb dX4_apart_86 (lv_at hl 5 rfl) ?_
          obtain rfl := Option.some.inj hf
          exact kg_iretR hx hb hr hlk rfl dX4_apart_88
        · refine lv_iload hx hb dX4_apart_34 (lv_at hl 1 rfl) ?_
          refine lv_iconst (v := (-1)) hx hb dX4_apart_36 (by decide) ?_
          refine kg_icmp_eq (tgt := 86) hx hb hf dX4_apart_37 (by decide) (fun hc hf => ?_) (fun hc hf => ?_)
          · obtain ⟨qq, hf, hqq⟩ := omap_some hf
            have hkq : qq = r0 := by rw [← hqq] at hk1; exact hk1
            rw [hkq] at hf
            clear hkq hqq
            refine lv_iload hx hb dX4_apart_86 (lv_at hl 5 rfl) ?_
            obtain rfl := Option.some.inj hf
            exact kg_iretR hx hb hr hlk rfl dX4_apart_88
          · refine lv_iload hx hb dX4_apart_40 (lv_at hl 2 rfl) ?_
            refine lv_iconst (v := (-1)) hx hb dX4_apart_42 (by decide) ?_
            refine kg_icmp_eq (tgt := 86) hx hb hf dX4_apart_43 (by decide) (fun hc hf => ?_) (fun hc hf => ?_)
            · obtain ⟨qq, hf, hqq⟩ := omap_some hf
              have hkq : qq = r0 := by rw [← hqq] at hk1; exact hk1
              rw [hkq] at hf
              clear hkq hqq
              refine lv_iload hx hb dX4_apart_86 (lv_at hl 5 rfl) ?_
              obtain rfl := Option.some.inj hf
              exact kg_iretR hx hb hr hlk rfl dX4_apart_88
            · refine lv_iload hx hb dX4_apart_46 (lv_at hl 3 rfl) ?_
              refine lv_iload hx hb dX4_apart_48 (lv_at hl 4 rfl) ?_
              refine kg_icmp_lt (tgt := 68) hx hb hf dX4_apart_50 (by decide) (fun hc hf => ?_) (fun hc hf => ?_)
              · refine lv_aload_n hx hb dX4_apart_68 rfl (lv_at hl 0 rfl) ?_
                refine va_get (D := (dC, dI)) (ci := 4) (v := .ref (A 4)) (C := RX4) (T := TX4) (N := 16) hx hb hts hiX4 hown hK hP 0 rfl rfl 3 (by decide) ww1 (fun _ h9 => h9) rfl dX4_apart_69 ?_
                refine lv_iload hx hb dX4_apart_72 (lv_at hl 2 rfl) ?_
                obtain ⟨g74, hv, hf⟩ := ob_bind hf
                refine kg_iald hx hb hK hP 4 0 rfl rfl hv dX4_apart_74 ?_
                refine lv_istore (lv' := [(6, .int g74), (0, .ref (A 0)), (5, .int v5), (7, .int v7), (8, .int v8), (9, .int v9)]) hx hb dX4_apart_75 hl (by decide) rfl (fun ls hl => ?_)
                refine lv_iinc (v := (v8 + (-1))) (lv' := [(8, .int (v8 + (-1))), (6, .int g74), (0, .ref (A 0)), (5, .int v5), (7, .int v7), (9, .int v9)]) hx hb dX4_apart_77 hl (k := 4) rfl rfl (by decide) rfl (fun ls hl => ?_)
                refine lv_iinc (v := (v9 + 1)) (lv' := [(9, .int (v9 + 1)), (8, .int (v8 + (-1))), (6, .int g74), (0, .ref (A 0)), (5, .int v5), (7, .int v7)]) hx hb dX4_apart_80 hl (k := 5) rfl rfl (by decide) rfl (fun ls hl => ?_)
                refine lv_goto (tgt := 16) hx hb dX4_apart_83 (by decide) ?_
                obtain rfl := Option.some.inj hf
                exact ih1 v5 g74 v7 (v8 + (-1)) (v9 + 1) hk1 _ (lv_sub hl [3, 4, 2, 5, 1, 0] rfl)
              · refine lv_aload_n hx hb dX4_apart_53 rfl (lv_at hl 0 rfl) ?_
                refine va_get (D := (dC, dI)) (ci := 4) (v := .ref (A 4)) (C := RX4) (T := TX4) (N := 16) hx hb hts hiX4 hown hK hP 0 rfl rfl 3 (by decide) ww1 (fun _ h9 => h9) rfl dX4_apart_54 ?_
                refine lv_iload hx hb dX4_apart_57 (lv_at hl 1 rfl) ?_
                obtain ⟨g59, hv, hf⟩ := ob_bind hf
                refine kg_iald hx hb hK hP 4 0 rfl rfl hv dX4_apart_59 ?_
                refine lv_istore (lv' := [(5, .int g59), (0, .ref (A 0)), (6, .int v6), (7, .int v7), (8, .int v8), (9, .int v9)]) hx hb dX4_apart_60 hl (by decide) rfl (fun ls hl => ?_)
                refine lv_iinc (v := (v7 + (-1))) (lv' := [(7, .int (v7 + (-1))), (5, .int g59), (0, .ref (A 0)), (6, .int v6), (8, .int v8), (9, .int v9)]) hx hb dX4_apart_62 hl (k := 3) rfl rfl (by decide) rfl (fun ls hl => ?_)
                refine lv_goto (tgt := 80) hx hb dX4_apart_65 (by decide) ?_
                refine lv_iinc (v := (v9 + 1)) (lv' := [(9, .int (v9 + 1)), (7, .int (v7 + (-1))), (5, .int g59), (0, .ref (A 0)), (6, .int v6), (8, .int v8)]) hx hb dX4_apart_80 hl (k := 5) rfl rfl (by decide) rfl (fun ls hl => ?_)
                refine lv_goto (tgt := 16) hx hb dX4_apart_83 (by decide) ?_
                obtain rfl := Option.some.inj hf
                exact ih1 g59 v6 (v7 + (-1)) v8 (v9 + 1) hk1 _ (lv_sub hl [3, 2, 4, 1, 5, 0] rfl)
  exact hlp16  FU v1 v2 v3 v4 0 hf _ (lv_sub hl [5, 4, 3, 2, 1, 0] rfl)
set_option maxHeartbeats 4000000 in
set_option maxRecDepth 100000 in
theorem c_X4_blocksOnWay (l : Launch) (dC : Nat → ClassId) (dI : Nat → Nat → Nat) (cI cJ : ClassId) (A : Nat → Nat) (hq : Heap) (x : WbS) (v1 : Int32) (r0 : Int64) (hf : Wb_m_blocksOnWay x v1 = some r0) : MRj l yX4_blocksOnWay (wAll yX4_blocksOnWay cX4_blocksOnWay 5 (some .long)) ({ frames := 2, cells := 0, slots := 0, locals := 60 } : Room) [.ref (A 0), .int v1] hq (dC, dI) (vTy cI cJ) (wWb cI cJ A x) r0 := by
  refine kg_metR (cc := cX4_blocksOnWay) (maxL := 5) (ret := (some .long)) (by decide) rfl (Nat.le_of_ble_eq_true rfl) ?_
  intro p e s m args below meth c hx hb hr hts hown hlk hml hH hP hK hN ls hl
  subst hH
  have hl : lv_has ls 5 [(0, .ref (A 0)), (1, .int v1)] := hl
  have ww0 := hts (.fieldLink RX4 38 "SafeBlocks$Web" "blocks" "LSafeBlocks$Names;") (List.mem_cons_of_mem _ wd_2_21)
  have ww1 := hts (.fieldLink RX4 67 "SafeBlocks$Names" "of" "[I") (List.mem_cons_of_mem _ wd_10_5)
  have ww2 := hts (.fieldLink RX4 27 "SafeBlocks$Web" "wayNode" "[I") (List.mem_cons_of_mem _ wd_2_16)
  have ww3 := hts (.initialized RX5) (List.mem_cons_of_mem _ wd_1_2)
  have ww4 := hts (.static yX5_bit) (List.mem_cons_of_mem _ wd_7_16)
  have hiX4 : ∀ w ∈ u_ws RX4 TX4 16, w ∈ wAll yX4_blocksOnWay cX4_blocksOnWay 5 (some .long) := fun w h => List.mem_cons_of_mem _ (inlX4 w h)
  have hiX1 : ∀ w ∈ u_ws RX1 TX1 6, w ∈ wAll yX4_blocksOnWay cX4_blocksOnWay 5 (some .long) := fun w h => List.mem_cons_of_mem _ (inlX1 w h)
  unfold Wb_m_blocksOnWay at hf
  refine lv_lconst (v := 0) hx hb dX4_blocksOnWay_0 (by decide) ?_
  refine lv_lstore_n (lv' := [(2, .long 0), (0, .ref (A 0)), (1, .int v1)]) hx hb dX4_blocksOnWay_1 rfl hl (by decide) rfl (fun ls hl => ?_)
  refine lv_iconst (v := 0) hx hb dX4_blocksOnWay_2 (by decide) ?_
  refine lv_istore (lv' := [(4, .int 0), (2, .long 0), (0, .ref (A 0)), (1, .int v1)]) hx hb dX4_blocksOnWay_3 hl (by decide) rfl (fun ls hl => ?_)
  have hlp5 : ∀ (n : Nat) (v2 : Int64) (v4 : Int32), iter (fun p : Int64 × Int32 => Wb_m_blocksOnWay_s5 x v1 p.1 p.2) n (v2, v4) = some r0 → ∀ (ls : Array Slot), lv_has ls 5 [(0, .ref (A 0)), (1, .int v1), (2, .long v2), (4, .int v4)] → W p l e ({ frames := 2, cells := 0, slots := 0, locals := 60 } : Room) s m args below meth c s.heap [] 0 0 (MQ below (QRj s.heap r0) args s 0 0 NoA) (F0 m 5 ls []) := by
    intro  n
    induction n with
    | zero => intro v2 v4 hf; exact iter_zero hf
    | succ n ih1 =>
      intro v2 v4 hf ls hl
      obtain ⟨q1, hf, hk1⟩ := iter_succ hf
      have hf : Wb_m_blocksOnWay_s5 x v1 v2 v4 = some q1 := hf
      unfold Wb_m_blocksOnWay_s5 at hf
      refine lv_iload hx hb dX4_blocksOnWay_5 (lv_at hl 3 rfl) ?_
      refine lv_iload_n hx hb dX4_blocksOnWay_7 rfl (lv_at hl 1 rfl) ?_
      refine kg_icmp_gt (tgt := 38) hx hb hf dX4_blocksOnWay_8 (by decide) (fun hc hf => ?_) (fun hc hf => ?_)
      · obtain ⟨qq, hf, hqq⟩ := omap_some hf
        have hkq : qq = r0 := by rw [← hqq] at hk1; exact hk1
        rw [hkq] at hf
        clear hkq hqq
        refine lv_lload_n hx hb dX4_blocksOnWay_38 rfl (lv_at hl 2 rfl) ?_
        obtain rfl := Option.some.inj hf
        exact kg_lretR hx hb hr hlk rfl dX4_blocksOnWay_39
      · refine lv_lload_n hx hb dX4_blocksOnWay_11 rfl (lv_at hl 2 rfl) ?_
        refine lv_aload_n hx hb dX4_blocksOnWay_12 rfl (lv_at hl 0 rfl) ?_
        refine va_get (D := (dC, dI)) (ci := 4) (v := .ref (A 8)) (C := RX4) (T := TX4) (N := 16) hx hb hts hiX4 hown hK hP 0 rfl rfl 7 (by decide) ww0 (fun _ h9 => h9) rfl dX4_blocksOnWay_13 ?_
        refine va_get (D := (dC, dI)) (ci := 1) (v := .ref (A 9)) (C := RX1) (T := TX1) (N := 6) hx hb hts hiX1 hown hK hP 8 rfl rfl 0 (by decide) ww1 (fun _ h9 => h9) rfl dX4_blocksOnWay_16 ?_
        refine lv_aload_n hx hb dX4_blocksOnWay_19 rfl (lv_at hl 0 rfl) ?_
        refine va_get (D := (dC, dI)) (ci := 4) (v := .ref (A 6)) (C := RX4) (T := TX4) (N := 16) hx hb hts hiX4 hown hK hP 0 rfl rfl 5 (by decide) ww2 (fun _ h9 => h9) rfl dX4_blocksOnWay_20 ?_
        refine lv_iload hx hb dX4_blocksOnWay_23 (lv_at hl 3 rfl) ?_
        obtain ⟨g25, hv, hf⟩ := ob_bind hf
        refine kg_iald hx hb hK hP 6 0 rfl rfl hv dX4_blocksOnWay_25 ?_
        obtain ⟨g26, hv, hf⟩ := ob_bind hf
        refine kg_iald hx hb hK hP 9 0 rfl rfl hv dX4_blocksOnWay_26 ?_
        obtain ⟨g27, hc, hf⟩ := ob_bind hf
        have hPc : va_P (dC, dI) vwCl ([] : va_W) s.heap := fun k q h => by cases h
        refine kg_retRj (va_runSN (As := [.int g26]) (rest := [.long v2]) ⟨hx, hb, hml, hown, hts⟩ (c_X5_bit l dC dI cI cJ  s.heap g26 _ hc) (⟨va_cnB 1 hts (gw_A wd_7_17) rfl rfl rfl hN.2.2.2 ww3 qX5_bit_n ⟨Nat.le_of_ble_eq_true rfl, Nat.le_of_ble_eq_true rfl⟩, ww4, trivial⟩) (kg_preSR hPc hK hN) rfl rfl hl.1 rfl (lv_room (Nat.le_of_ble_eq_true rfl)) dX4_blocksOnWay_27 ⟨Nat.zero_le _, Nat.zero_le _⟩) ?_
        refine lv_lor hx hb dX4_blocksOnWay_30 ?_
        refine lv_lstore_n (lv' := [(2, .long (v2 ||| g27)), (0, .ref (A 0)), (1, .int v1), (4, .int v4)]) hx hb dX4_blocksOnWay_31 rfl hl (by decide) rfl (fun ls hl => ?_)
        refine lv_iinc (v := (v4 + 1)) (lv' := [(4, .int (v4 + 1)), (2, .long (v2 ||| g27)), (0, .ref (A 0)), (1, .int v1)]) hx hb dX4_blocksOnWay_32 hl (k := 3) rfl rfl (by decide) rfl (fun ls hl => ?_)
        refine lv_goto (tgt := 5) hx hb dX4_blocksOnWay_35 (by decide) ?_
        obtain rfl := Option.some.inj hf
        exact ih1 (v2 ||| g27) (v4 + 1) hk1 _ (lv_sub hl [2, 3, 1, 0] rfl)
  exact hlp5  FU 0 0 hf _ (lv_sub hl [2, 3, 1, 0] rfl)
set_option maxHeartbeats 4000000 in
set_option maxRecDepth 100000 in
theorem c_X4_linksAt (l : Launch) (dC : Nat → ClassId) (dI : Nat → Nat → Nat) (cI cJ : ClassId) (A : Nat → Nat) (hq : Heap) (x : WbS) (v1 : Int32) (r0 : Int32) (hf : Wb_m_linksAt x v1 = some r0) : MRi l yX4_linksAt (wAll yX4_linksAt cX4_linksAt 4 (some .int)) ({ frames := 2, cells := 0, slots := 0, locals := 62 } : Room) [.ref (A 0), .int v1] hq (dC, dI) (vTy cI cJ) (wWb cI cJ A x) r0 := by
  refine kg_metR (cc := cX4_linksAt) (maxL := 4) (ret := (some .int)) (by decide) rfl (Nat.le_of_ble_eq_true rfl) ?_
  intro p e s m args below meth c hx hb hr hts hown hlk hml hH hP hK hN ls hl
  subst hH
  have hl : lv_has ls 4 [(0, .ref (A 0)), (1, .int v1)] := hl
  have ww0 := hts (.fieldLink RX4 52 "SafeBlocks$Web" "links" "I") (List.mem_cons_of_mem _ wd_3_1)
  have hiX4 : ∀ w ∈ u_ws RX4 TX4 16, w ∈ wAll yX4_linksAt cX4_linksAt 4 (some .int) := fun w h => List.mem_cons_of_mem _ (inlX4 w h)
  unfold Wb_m_linksAt at hf
  refine lv_iconst (v := 0) hx hb dX4_linksAt_0 (by decide) ?_
  refine lv_istore_n (lv' := [(2, .int 0), (0, .ref (A 0)), (1, .int v1)]) hx hb dX4_linksAt_1 rfl hl (by decide) rfl (fun ls hl => ?_)
  refine lv_iconst (v := 0) hx hb dX4_linksAt_2 (by decide) ?_
  refine lv_istore_n (lv' := [(3, .int 0), (2, .int 0), (0, .ref (A 0)), (1, .int v1)]) hx hb dX4_linksAt_3 rfl hl (by decide) rfl (fun ls hl => ?_)
  have hlp4 : ∀ (n : Nat) (v2 : Int32) (v3 : Int32), iter (fun p : Int32 × Int32 => Wb_m_linksAt_s4 x v1 p.1 p.2) n (v2, v3) = some r0 → ∀ (ls : Array Slot), lv_has ls 4 [(0, .ref (A 0)), (1, .int v1), (2, .int v2), (3, .int v3)] → W p l e ({ frames := 2, cells := 0, slots := 0, locals := 62 } : Room) s m args below meth c s.heap [] 0 0 (MQ below (QRi s.heap r0) args s 0 0 NoA) (F0 m 4 ls []) := by
    intro  n
    induction n with
    | zero => intro v2 v3 hf; exact iter_zero hf
    | succ n ih1 =>
      intro v2 v3 hf ls hl
      obtain ⟨q1, hf, hk1⟩ := iter_succ hf
      have hf : Wb_m_linksAt_s4 x v1 v2 v3 = some q1 := hf
      unfold Wb_m_linksAt_s4 at hf
      refine lv_iload_n hx hb dX4_linksAt_4 rfl (lv_at hl 3 rfl) ?_
      refine lv_aload_n hx hb dX4_linksAt_5 rfl (lv_at hl 0 rfl) ?_
      refine va_get (D := (dC, dI)) (ci := 4) (v := .int (Wb_links x)) (C := RX4) (T := TX4) (N := 16) hx hb hts hiX4 hown hK hP 0 rfl rfl 11 (by decide) ww0 (fun _ h9 => h9) rfl dX4_linksAt_6 ?_
      refine kg_icmp_ge (tgt := 30) hx hb hf dX4_linksAt_9 (by decide) (fun hc hf => ?_) (fun hc hf => ?_)
      · obtain ⟨qq, hf, hqq⟩ := omap_some hf
        have hkq : qq = r0 := by rw [← hqq] at hk1; exact hk1
        rw [hkq] at hf
        clear hkq hqq
        refine lv_iload_n hx hb dX4_linksAt_30 rfl (lv_at hl 2 rfl) ?_
        obtain rfl := Option.some.inj hf
        exact kg_iretR hx hb hr hlk rfl dX4_linksAt_31
      · refine lv_aload_n hx hb dX4_linksAt_12 rfl (lv_at hl 0 rfl) ?_
        refine lv_iload_n hx hb dX4_linksAt_13 rfl (lv_at hl 3 rfl) ?_
        refine lv_iload_n hx hb dX4_linksAt_14 rfl (lv_at hl 1 rfl) ?_
        obtain ⟨g15, hc, hf⟩ := ob_bind hf
        have hPc : va_P (dC, dI) vwCl (wWb cI cJ A x) s.heap := hP
        refine kg_retRi (va_runV (As := [.int v3, .int v1]) (rest := []) ⟨hx, hb, hml, hown, hts⟩ (c_X4_isAt l dC dI cI cJ A s.heap x v3 v1 _ hc) (cwV 2 hts (gw_V wd_21_23 wd_21_20 wd_21_21 wd_21_22 wd_1_14) rfl rfl rfl qX4_isAt ⟨Nat.le_of_ble_eq_true rfl, Nat.le_of_ble_eq_true rfl⟩) (kg_preVR (ci := 4) (q := (RX4, TX4, 16)) (q0 := 0) hPc hK hN rfl rfl) rfl rfl hl.1 rfl (lv_room (Nat.le_of_ble_eq_true rfl)) dX4_linksAt_15 ⟨Nat.zero_le _, Nat.zero_le _⟩) ?_
        refine kg_b_eq (tgt := 24) hx hb hf dX4_linksAt_18 (by decide) (fun hc hf => ?_) (fun hc hf => ?_)
        · refine lv_iinc (v := (v3 + 1)) (lv' := [(3, .int (v3 + 1)), (0, .ref (A 0)), (1, .int v1), (2, .int v2)]) hx hb dX4_linksAt_24 hl (k := 3) rfl rfl (by decide) rfl (fun ls hl => ?_)
          refine lv_goto (tgt := 4) hx hb dX4_linksAt_27 (by decide) ?_
          obtain rfl := Option.some.inj hf
          exact ih1 v2 (v3 + 1) hk1 _ (lv_sub hl [1, 2, 3, 0] rfl)
        · refine lv_iinc (v := (v2 + 1)) (lv' := [(2, .int (v2 + 1)), (0, .ref (A 0)), (1, .int v1), (3, .int v3)]) hx hb dX4_linksAt_21 hl (k := 2) rfl rfl (by decide) rfl (fun ls hl => ?_)
          refine lv_iinc (v := (v3 + 1)) (lv' := [(3, .int (v3 + 1)), (2, .int (v2 + 1)), (0, .ref (A 0)), (1, .int v1)]) hx hb dX4_linksAt_24 hl (k := 3) rfl rfl (by decide) rfl (fun ls hl => ?_)
          refine lv_goto (tgt := 4) hx hb dX4_linksAt_27 (by decide) ?_
          obtain rfl := Option.some.inj hf
          exact ih1 (v2 + 1) (v3 + 1) hk1 _ (lv_sub hl [2, 3, 1, 0] rfl)
  exact hlp4  FU 0 0 hf _ (lv_sub hl [2, 3, 1, 0] rfl)
set_option maxHeartbeats 4000000 in
set_option maxRecDepth 100000 in
theorem c_X4_bridgesAt (l : Launch) (dC : Nat → ClassId) (dI : Nat → Nat → Nat) (cI cJ : ClassId) (A : Nat → Nat) (hq : Heap) (x : WbS) (v1 : Int32) (r0 : Int32) (hf : Wb_m_bridgesAt x v1 = some r0) : MRi l yX4_bridgesAt (wAll yX4_bridgesAt cX4_bridgesAt 4 (some .int)) ({ frames := 2, cells := 0, slots := 0, locals := 62 } : Room) [.ref (A 0), .int v1] hq (dC, dI) (vTy cI cJ) (wWb cI cJ A x) r0 := by
  refine kg_metR (cc := cX4_bridgesAt) (maxL := 4) (ret := (some .int)) (by decide) rfl (Nat.le_of_ble_eq_true rfl) ?_
  intro p e s m args below meth c hx hb hr hts hown hlk hml hH hP hK hN ls hl
  subst hH
  have hl : lv_has ls 4 [(0, .ref (A 0)), (1, .int v1)] := hl
  have ww0 := hts (.fieldLink RX4 52 "SafeBlocks$Web" "links" "I") (List.mem_cons_of_mem _ wd_3_1)
  have hiX4 : ∀ w ∈ u_ws RX4 TX4 16, w ∈ wAll yX4_bridgesAt cX4_bridgesAt 4 (some .int) := fun w h => List.mem_cons_of_mem _ (inlX4 w h)
  unfold Wb_m_bridgesAt at hf
  refine lv_iconst (v := 0) hx hb dX4_bridgesAt_0 (by decide) ?_
  refine lv_istore_n (lv' := [(2, .int 0), (0, .ref (A 0)), (1, .int v1)]) hx hb dX4_bridgesAt_1 rfl hl (by decide) rfl (fun ls hl => ?_)
  refine lv_iconst (v := 0) hx hb dX4_bridgesAt_2 (by decide) ?_
  refine lv_istore_n (lv' := [(3, .int 0), (2, .int 0), (0, .ref (A 0)), (1, .int v1)]) hx hb dX4_bridgesAt_3 rfl hl (by decide) rfl (fun ls hl => ?_)
  have hlp4 : ∀ (n : Nat) (v2 : Int32) (v3 : Int32), iter (fun p : Int32 × Int32 => Wb_m_bridgesAt_s4 x v1 p.1 p.2) n (v2, v3) = some r0 → ∀ (ls : Array Slot), lv_has ls 4 [(0, .ref (A 0)), (1, .int v1), (2, .int v2), (3, .int v3)] → W p l e ({ frames := 2, cells := 0, slots := 0, locals := 62 } : Room) s m args below meth c s.heap [] 0 0 (MQ below (QRi s.heap r0) args s 0 0 NoA) (F0 m 4 ls []) := by
    intro  n
    induction n with
    | zero => intro v2 v3 hf; exact iter_zero hf
    | succ n ih1 =>
      intro v2 v3 hf ls hl
      obtain ⟨q1, hf, hk1⟩ := iter_succ hf
      have hf : Wb_m_bridgesAt_s4 x v1 v2 v3 = some q1 := hf
      unfold Wb_m_bridgesAt_s4 at hf
      refine lv_iload_n hx hb dX4_bridgesAt_4 rfl (lv_at hl 3 rfl) ?_
      refine lv_aload_n hx hb dX4_bridgesAt_5 rfl (lv_at hl 0 rfl) ?_
      refine va_get (D := (dC, dI)) (ci := 4) (v := .int (Wb_links x)) (C := RX4) (T := TX4) (N := 16) hx hb hts hiX4 hown hK hP 0 rfl rfl 11 (by decide) ww0 (fun _ h9 => h9) rfl dX4_bridgesAt_6 ?_
      refine kg_icmp_ge (tgt := 38) hx hb hf dX4_bridgesAt_9 (by decide) (fun hc hf => ?_) (fun hc hf => ?_)
      · obtain ⟨qq, hf, hqq⟩ := omap_some hf
        have hkq : qq = r0 := by rw [← hqq] at hk1; exact hk1
        rw [hkq] at hf
        clear hkq hqq
        refine lv_iload_n hx hb dX4_bridgesAt_38 rfl (lv_at hl 2 rfl) ?_
        obtain rfl := Option.some.inj hf
        exact kg_iretR hx hb hr hlk rfl dX4_bridgesAt_39
      · refine lv_aload_n hx hb dX4_bridgesAt_12 rfl (lv_at hl 0 rfl) ?_
        refine lv_iload_n hx hb dX4_bridgesAt_13 rfl (lv_at hl 3 rfl) ?_
        refine lv_iload_n hx hb dX4_bridgesAt_14 rfl (lv_at hl 1 rfl) ?_
        obtain ⟨g15, hc, hf⟩ := ob_bind hf
        have hPc : va_P (dC, dI) vwCl (wWb cI cJ A x) s.heap := hP
        refine kg_retRi (va_runV (As := [.int v3, .int v1]) (rest := []) ⟨hx, hb, hml, hown, hts⟩ (c_X4_isAt l dC dI cI cJ A s.heap x v3 v1 _ hc) (cwV 2 hts (gw_V wd_21_23 wd_21_20 wd_21_21 wd_21_22 wd_1_14) rfl rfl rfl qX4_isAt ⟨Nat.le_of_ble_eq_true rfl, Nat.le_of_ble_eq_true rfl⟩) (kg_preVR (ci := 4) (q := (RX4, TX4, 16)) (q0 := 0) hPc hK hN rfl rfl) rfl rfl hl.1 rfl (lv_room (Nat.le_of_ble_eq_true rfl)) dX4_bridgesAt_15 ⟨Nat.zero_le _, Nat.zero_le _⟩) ?_
        refine kg_b_eq (tgt := 32) hx hb hf dX4_bridgesAt_18 (by decide) (fun hc hf => ?_) (fun hc hf => ?_)
        · refine lv_iinc (v := (v3 + 1)) (lv' := [(3, .int (v3 + 1)), (0, .ref (A 0)), (1, .int v1), (2, .int v2)]) hx hb dX4_bridgesAt_32 hl (k := 3) rfl rfl (by decide) rfl (fun ls hl => ?_)
          refine lv_goto (tgt := 4) hx hb dX4_bridgesAt_35 (by decide) ?_
          obtain rfl := Option.some.inj hf
          exact ih1 v2 (v3 + 1) hk1 _ (lv_sub hl [1, 2, 3, 0] rfl)
        · refine lv_aload_n hx hb dX4_bridgesAt_21 rfl (lv_at hl 0 rfl) ?_
          refine lv_iload_n hx hb dX4_bridgesAt_22 rfl (lv_at hl 3 rfl) ?_
          obtain ⟨g23, hc, hf⟩ := ob_bind hf
          have hPc : va_P (dC, dI) vwCl (wWb cI cJ A x) s.heap := hP
          refine kg_retRi (va_runV (As := [.int v3]) (rest := []) ⟨hx, hb, hml, hown, hts⟩ (c_X4_isBridge l dC dI cI cJ A s.heap x v3 _ hc) (cwV 1 hts (gw_V wd_6_6 wd_11_12 wd_6_4 wd_6_5 wd_1_14) rfl rfl rfl qX4_isBridge ⟨Nat.le_of_ble_eq_true rfl, Nat.le_of_ble_eq_true rfl⟩) (kg_preVR (ci := 4) (q := (RX4, TX4, 16)) (q0 := 0) hPc hK hN rfl rfl) rfl rfl hl.1 rfl (lv_room (Nat.le_of_ble_eq_true rfl)) dX4_bridgesAt_23 ⟨Nat.zero_le _, Nat.zero_le _⟩) ?_
          refine kg_b_eq (tgt := 32) hx hb hf dX4_bridgesAt_26 (by decide) (fun hc hf => ?_) (fun hc hf => ?_)
          · refine lv_iinc (v := (v3 + 1)) (lv' := [(3, .int (v3 + 1)), (0, .ref (A 0)), (1, .int v1), (2, .int v2)]) hx hb dX4_bridgesAt_32 hl (k := 3) rfl rfl (by decide) rfl (fun ls hl => ?_)
            refine lv_goto (tgt := 4) hx hb dX4_bridgesAt_35 (by decide) ?_
            obtain rfl := Option.some.inj hf
            exact ih1 v2 (v3 + 1) hk1 _ (lv_sub hl [1, 2, 3, 0] rfl)
          · refine lv_iinc (v := (v2 + 1)) (lv' := [(2, .int (v2 + 1)), (0, .ref (A 0)), (1, .int v1), (3, .int v3)]) hx hb dX4_bridgesAt_29 hl (k := 2) rfl rfl (by decide) rfl (fun ls hl => ?_)
            refine lv_iinc (v := (v3 + 1)) (lv' := [(3, .int (v3 + 1)), (2, .int (v2 + 1)), (0, .ref (A 0)), (1, .int v1)]) hx hb dX4_bridgesAt_32 hl (k := 3) rfl rfl (by decide) rfl (fun ls hl => ?_)
            refine lv_goto (tgt := 4) hx hb dX4_bridgesAt_35 (by decide) ?_
            obtain rfl := Option.some.inj hf
            exact ih1 (v2 + 1) (v3 + 1) hk1 _ (lv_sub hl [2, 3, 1, 0] rfl)
  exact hlp4  FU 0 0 hf _ (lv_sub hl [2, 3, 1, 0] rfl)
set_option maxHeartbeats 4000000 in
set_option maxRecDepth 100000 in
theorem c_X4_linksWithin (l : Launch) (dC : Nat → ClassId) (dI : Nat → Nat → Nat) (cI cJ : ClassId) (A : Nat → Nat) (hq : Heap) (x : WbS) (v1 : Int32) (r0 : Int32) (hf : Wb_m_linksWithin x v1 = some r0) : MRi l yX4_linksWithin (wAll yX4_linksWithin cX4_linksWithin 4 (some .int)) ({ frames := 2, cells := 0, slots := 0, locals := 61 } : Room) [.ref (A 0), .int v1] hq (dC, dI) (vTy cI cJ) (wWb cI cJ A x) r0 := by
  refine kg_metR (cc := cX4_linksWithin) (maxL := 4) (ret := (some .int)) (by decide) rfl (Nat.le_of_ble_eq_true rfl) ?_
  intro p e s m args below meth c hx hb hr hts hown hlk hml hH hP hK hN ls hl
  subst hH
  have hl : lv_has ls 4 [(0, .ref (A 0)), (1, .int v1)] := hl
  have ww0 := hts (.fieldLink RX4 52 "SafeBlocks$Web" "links" "I") (List.mem_cons_of_mem _ wd_3_1)
  have ww1 := hts (.fieldLink RX4 38 "SafeBlocks$Web" "blocks" "LSafeBlocks$Names;") (List.mem_cons_of_mem _ wd_2_21)
  have ww2 := hts (.fieldLink RX4 67 "SafeBlocks$Names" "of" "[I") (List.mem_cons_of_mem _ wd_10_5)
  have ww3 := hts (.fieldLink RX4 9 "SafeBlocks$Web" "first" "[I") (List.mem_cons_of_mem _ wd_2_11)
  have hiX4 : ∀ w ∈ u_ws RX4 TX4 16, w ∈ wAll yX4_linksWithin cX4_linksWithin 4 (some .int) := fun w h => List.mem_cons_of_mem _ (inlX4 w h)
  have hiX1 : ∀ w ∈ u_ws RX1 TX1 6, w ∈ wAll yX4_linksWithin cX4_linksWithin 4 (some .int) := fun w h => List.mem_cons_of_mem _ (inlX1 w h)
  unfold Wb_m_linksWithin at hf
  refine lv_iconst (v := 0) hx hb dX4_linksWithin_0 (by decide) ?_
  refine lv_istore_n (lv' := [(2, .int 0), (0, .ref (A 0)), (1, .int v1)]) hx hb dX4_linksWithin_1 rfl hl (by decide) rfl (fun ls hl => ?_)
  refine lv_iconst (v := 0) hx hb dX4_linksWithin_2 (by decide) ?_
  refine lv_istore_n (lv' := [(3, .int 0), (2, .int 0), (0, .ref (A 0)), (1, .int v1)]) hx hb dX4_linksWithin_3 rfl hl (by decide) rfl (fun ls hl => ?_)
  have hlp4 : ∀ (n : Nat) (v2 : Int32) (v3 : Int32), iter (fun p : Int32 × Int32 => Wb_m_linksWithin_s4 x v1 p.1 p.2) n (v2, v3) = some r0 → ∀ (ls : Array Slot), lv_has ls 4 [(0, .ref (A 0)), (1, .int v1), (2, .int v2), (3, .int v3)] → W p l e ({ frames := 2, cells := 0, slots := 0, locals := 61 } : Room) s m args below meth c s.heap [] 0 0 (MQ below (QRi s.heap r0) args s 0 0 NoA) (F0 m 4 ls []) := by
    intro  n
    induction n with
    | zero => intro v2 v3 hf; exact iter_zero hf
    | succ n ih1 =>
      intro v2 v3 hf ls hl
      obtain ⟨q1, hf, hk1⟩ := iter_succ hf
      have hf : Wb_m_linksWithin_s4 x v1 v2 v3 = some q1 := hf
      unfold Wb_m_linksWithin_s4 at hf
      refine lv_iload_n hx hb dX4_linksWithin_4 rfl (lv_at hl 3 rfl) ?_
      refine lv_aload_n hx hb dX4_linksWithin_5 rfl (lv_at hl 0 rfl) ?_
      refine va_get (D := (dC, dI)) (ci := 4) (v := .int (Wb_links x)) (C := RX4) (T := TX4) (N := 16) hx hb hts hiX4 hown hK hP 0 rfl rfl 11 (by decide) ww0 (fun _ h9 => h9) rfl dX4_linksWithin_6 ?_
      refine kg_icmp_ge (tgt := 47) hx hb hf dX4_linksWithin_9 (by decide) (fun hc hf => ?_) (fun hc hf => ?_)
      · obtain ⟨qq, hf, hqq⟩ := omap_some hf
        have hkq : qq = r0 := by rw [← hqq] at hk1; exact hk1
        rw [hkq] at hf
        clear hkq hqq
        refine lv_iload_n hx hb dX4_linksWithin_47 rfl (lv_at hl 2 rfl) ?_
        obtain rfl := Option.some.inj hf
        exact kg_iretR hx hb hr hlk rfl dX4_linksWithin_48
      · refine lv_aload_n hx hb dX4_linksWithin_12 rfl (lv_at hl 0 rfl) ?_
        refine lv_iload_n hx hb dX4_linksWithin_13 rfl (lv_at hl 3 rfl) ?_
        obtain ⟨g14, hc, hf⟩ := ob_bind hf
        have hPc : va_P (dC, dI) vwCl (wWb cI cJ A x) s.heap := hP
        refine kg_retRi (va_runV (As := [.int v3]) (rest := []) ⟨hx, hb, hml, hown, hts⟩ (c_X4_isBridge l dC dI cI cJ A s.heap x v3 _ hc) (cwV 1 hts (gw_V wd_6_6 wd_11_12 wd_6_4 wd_6_5 wd_1_14) rfl rfl rfl qX4_isBridge ⟨Nat.le_of_ble_eq_true rfl, Nat.le_of_ble_eq_true rfl⟩) (kg_preVR (ci := 4) (q := (RX4, TX4, 16)) (q0 := 0) hPc hK hN rfl rfl) rfl rfl hl.1 rfl (lv_room (Nat.le_of_ble_eq_true rfl)) dX4_linksWithin_14 ⟨Nat.zero_le _, Nat.zero_le _⟩) ?_
        refine kg_b_ne (tgt := 41) hx hb hf dX4_linksWithin_17 (by decide) (fun hc hf => ?_) (fun hc hf => ?_)
        · refine lv_iinc (v := (v3 + 1)) (lv' := [(3, .int (v3 + 1)), (0, .ref (A 0)), (1, .int v1), (2, .int v2)]) hx hb dX4_linksWithin_41 hl (k := 3) rfl rfl (by decide) rfl (fun ls hl => ?_)
          refine lv_goto (tgt := 4) hx hb dX4_linksWithin_44 (by decide) ?_
          obtain rfl := Option.some.inj hf
          exact ih1 v2 (v3 + 1) hk1 _ (lv_sub hl [1, 2, 3, 0] rfl)
        · refine lv_aload_n hx hb dX4_linksWithin_20 rfl (lv_at hl 0 rfl) ?_
          refine va_get (D := (dC, dI)) (ci := 4) (v := .ref (A 8)) (C := RX4) (T := TX4) (N := 16) hx hb hts hiX4 hown hK hP 0 rfl rfl 7 (by decide) ww1 (fun _ h9 => h9) rfl dX4_linksWithin_21 ?_
          refine va_get (D := (dC, dI)) (ci := 1) (v := .ref (A 9)) (C := RX1) (T := TX1) (N := 6) hx hb hts hiX1 hown hK hP 8 rfl rfl 0 (by decide) ww2 (fun _ h9 => h9) rfl dX4_linksWithin_24 ?_
          refine lv_aload_n hx hb dX4_linksWithin_27 rfl (lv_at hl 0 rfl) ?_
          refine va_get (D := (dC, dI)) (ci := 4) (v := .ref (A 1)) (C := RX4) (T := TX4) (N := 16) hx hb hts hiX4 hown hK hP 0 rfl rfl 0 (by decide) ww3 (fun _ h9 => h9) rfl dX4_linksWithin_28 ?_
          refine lv_iload_n hx hb dX4_linksWithin_31 rfl (lv_at hl 3 rfl) ?_
          obtain ⟨g32, hv, hf⟩ := ob_bind hf
          refine kg_iald hx hb hK hP 1 0 rfl rfl hv dX4_linksWithin_32 ?_
          obtain ⟨g33, hv, hf⟩ := ob_bind hf
          refine kg_iald hx hb hK hP 9 0 rfl rfl hv dX4_linksWithin_33 ?_
          refine lv_iload_n hx hb dX4_linksWithin_34 rfl (lv_at hl 1 rfl) ?_
          refine kg_icmp_ne (tgt := 41) hx hb hf dX4_linksWithin_35 (by decide) (fun hc hf => ?_) (fun hc hf => ?_)
          · refine lv_iinc (v := (v3 + 1)) (lv' := [(3, .int (v3 + 1)), (0, .ref (A 0)), (1, .int v1), (2, .int v2)]) hx hb dX4_linksWithin_41 hl (k := 3) rfl rfl (by decide) rfl (fun ls hl => ?_)
            refine lv_goto (tgt := 4) hx hb dX4_linksWithin_44 (by decide) ?_
            obtain rfl := Option.some.inj hf
            exact ih1 v2 (v3 + 1) hk1 _ (lv_sub hl [1, 2, 3, 0] rfl)
          · refine lv_iinc (v := (v2 + 1)) (lv' := [(2, .int (v2 + 1)), (0, .ref (A 0)), (1, .int v1), (3, .int v3)]) hx hb dX4_linksWithin_38 hl (k := 2) rfl rfl (by decide) rfl (fun ls hl => ?_)
            refine lv_iinc (v := (v3 + 1)) (lv' := [(3, .int (v3 + 1)), (2, .int (v2 + 1)), (0, .ref (A 0)), (1, .int v1)]) hx hb dX4_linksWithin_41 hl (k := 3) rfl rfl (by decide) rfl (fun ls hl => ?_)
            refine lv_goto (tgt := 4) hx hb dX4_linksWithin_44 (by decide) ?_
            obtain rfl := Option.some.inj hf
            exact ih1 (v2 + 1) (v3 + 1) hk1 _ (lv_sub hl [2, 3, 1, 0] rfl)
  exact hlp4  FU 0 0 hf _ (lv_sub hl [2, 3, 1, 0] rfl)
set_option maxHeartbeats 4000000 in
set_option maxRecDepth 100000 in
theorem c_X4_linksOf (l : Launch) (dC : Nat → ClassId) (dI : Nat → Nat → Nat) (cI cJ : ClassId) (A : Nat → Nat) (hq : Heap) (x : WbS) (v1 : Int32) (r0 : Int32) (hf : Wb_m_linksOf x v1 = some r0) : MRi l yX4_linksOf (wAll yX4_linksOf cX4_linksOf 4 (some .int)) ({ frames := 1, cells := 0, slots := 0, locals := 40 } : Room) [.ref (A 0), .int v1] hq (dC, dI) (vTy cI cJ) (wWb cI cJ A x) r0 := by
  refine kg_metR (cc := cX4_linksOf) (maxL := 4) (ret := (some .int)) (by decide) rfl (Nat.le_of_ble_eq_true rfl) ?_
  intro p e s m args below meth c hx hb hr hts hown hlk hml hH hP hK hN ls hl
  subst hH
  have hl : lv_has ls 4 [(0, .ref (A 0)), (1, .int v1)] := hl
  have ww0 := hts (.fieldLink RX4 52 "SafeBlocks$Web" "links" "I") (List.mem_cons_of_mem _ wd_3_1)
  have ww1 := hts (.fieldLink RX4 42 "SafeBlocks$Web" "lands" "LSafeBlocks$Names;") (List.mem_cons_of_mem _ wd_2_22)
  have ww2 := hts (.fieldLink RX4 67 "SafeBlocks$Names" "of" "[I") (List.mem_cons_of_mem _ wd_10_5)
  have ww3 := hts (.fieldLink RX4 9 "SafeBlocks$Web" "first" "[I") (List.mem_cons_of_mem _ wd_2_11)
  have hiX4 : ∀ w ∈ u_ws RX4 TX4 16, w ∈ wAll yX4_linksOf cX4_linksOf 4 (some .int) := fun w h => List.mem_cons_of_mem _ (inlX4 w h)
  have hiX1 : ∀ w ∈ u_ws RX1 TX1 6, w ∈ wAll yX4_linksOf cX4_linksOf 4 (some .int) := fun w h => List.mem_cons_of_mem _ (inlX1 w h)
  unfold Wb_m_linksOf at hf
  refine lv_iconst (v := 0) hx hb dX4_linksOf_0 (by decide) ?_
  refine lv_istore_n (lv' := [(2, .int 0), (0, .ref (A 0)), (1, .int v1)]) hx hb dX4_linksOf_1 rfl hl (by decide) rfl (fun ls hl => ?_)
  refine lv_iconst (v := 0) hx hb dX4_linksOf_2 (by decide) ?_
  refine lv_istore_n (lv' := [(3, .int 0), (2, .int 0), (0, .ref (A 0)), (1, .int v1)]) hx hb dX4_linksOf_3 rfl hl (by decide) rfl (fun ls hl => ?_)
  have hlp4 : ∀ (n : Nat) (v2 : Int32) (v3 : Int32), iter (fun p : Int32 × Int32 => Wb_m_linksOf_s4 x v1 p.1 p.2) n (v2, v3) = some r0 → ∀ (ls : Array Slot), lv_has ls 4 [(0, .ref (A 0)), (1, .int v1), (2, .int v2), (3, .int v3)] → W p l e ({ frames := 1, cells := 0, slots := 0, locals := 40 } : Room) s m args below meth c s.heap [] 0 0 (MQ below (QRi s.heap r0) args s 0 0 NoA) (F0 m 4 ls []) := by
    intro  n
    induction n with
    | zero => intro v2 v3 hf; exact iter_zero hf
    | succ n ih1 =>
      intro v2 v3 hf ls hl
      obtain ⟨q1, hf, hk1⟩ := iter_succ hf
      have hf : Wb_m_linksOf_s4 x v1 v2 v3 = some q1 := hf
      unfold Wb_m_linksOf_s4 at hf
      refine lv_iload_n hx hb dX4_linksOf_4 rfl (lv_at hl 3 rfl) ?_
      refine lv_aload_n hx hb dX4_linksOf_5 rfl (lv_at hl 0 rfl) ?_
      refine va_get (D := (dC, dI)) (ci := 4) (v := .int (Wb_links x)) (C := RX4) (T := TX4) (N := 16) hx hb hts hiX4 hown hK hP 0 rfl rfl 11 (by decide) ww0 (fun _ h9 => h9) rfl dX4_linksOf_6 ?_
      refine kg_icmp_ge (tgt := 39) hx hb hf dX4_linksOf_9 (by decide) (fun hc hf => ?_) (fun hc hf => ?_)
      · obtain ⟨qq, hf, hqq⟩ := omap_some hf
        have hkq : qq = r0 := by rw [← hqq] at hk1; exact hk1
        rw [hkq] at hf
        clear hkq hqq
        refine lv_iload_n hx hb dX4_linksOf_39 rfl (lv_at hl 2 rfl) ?_
        obtain rfl := Option.some.inj hf
        exact kg_iretR hx hb hr hlk rfl dX4_linksOf_40
      · refine lv_aload_n hx hb dX4_linksOf_12 rfl (lv_at hl 0 rfl) ?_
        refine va_get (D := (dC, dI)) (ci := 4) (v := .ref (A 13)) (C := RX4) (T := TX4) (N := 16) hx hb hts hiX4 hown hK hP 0 rfl rfl 8 (by decide) ww1 (fun _ h9 => h9) rfl dX4_linksOf_13 ?_
        refine va_get (D := (dC, dI)) (ci := 1) (v := .ref (A 14)) (C := RX1) (T := TX1) (N := 6) hx hb hts hiX1 hown hK hP 13 rfl rfl 0 (by decide) ww2 (fun _ h9 => h9) rfl dX4_linksOf_16 ?_
        refine lv_aload_n hx hb dX4_linksOf_19 rfl (lv_at hl 0 rfl) ?_
        refine va_get (D := (dC, dI)) (ci := 4) (v := .ref (A 1)) (C := RX4) (T := TX4) (N := 16) hx hb hts hiX4 hown hK hP 0 rfl rfl 0 (by decide) ww3 (fun _ h9 => h9) rfl dX4_linksOf_20 ?_
        refine lv_iload_n hx hb dX4_linksOf_23 rfl (lv_at hl 3 rfl) ?_
        obtain ⟨g24, hv, hf⟩ := ob_bind hf
        refine kg_iald hx hb hK hP 1 0 rfl rfl hv dX4_linksOf_24 ?_
        obtain ⟨g25, hv, hf⟩ := ob_bind hf
        refine kg_iald hx hb hK hP 14 0 rfl rfl hv dX4_linksOf_25 ?_
        refine lv_iload_n hx hb dX4_linksOf_26 rfl (lv_at hl 1 rfl) ?_
        refine kg_icmp_ne (tgt := 33) hx hb hf dX4_linksOf_27 (by decide) (fun hc hf => ?_) (fun hc hf => ?_)
        · refine lv_iinc (v := (v3 + 1)) (lv' := [(3, .int (v3 + 1)), (0, .ref (A 0)), (1, .int v1), (2, .int v2)]) hx hb dX4_linksOf_33 hl (k := 3) rfl rfl (by decide) rfl (fun ls hl => ?_)
          refine lv_goto (tgt := 4) hx hb dX4_linksOf_36 (by decide) ?_
          obtain rfl := Option.some.inj hf
          exact ih1 v2 (v3 + 1) hk1 _ (lv_sub hl [1, 2, 3, 0] rfl)
        · refine lv_iinc (v := (v2 + 1)) (lv' := [(2, .int (v2 + 1)), (0, .ref (A 0)), (1, .int v1), (3, .int v3)]) hx hb dX4_linksOf_30 hl (k := 2) rfl rfl (by decide) rfl (fun ls hl => ?_)
          refine lv_iinc (v := (v3 + 1)) (lv' := [(3, .int (v3 + 1)), (2, .int (v2 + 1)), (0, .ref (A 0)), (1, .int v1)]) hx hb dX4_linksOf_33 hl (k := 3) rfl rfl (by decide) rfl (fun ls hl => ?_)
          refine lv_goto (tgt := 4) hx hb dX4_linksOf_36 (by decide) ?_
          obtain rfl := Option.some.inj hf
          exact ih1 (v2 + 1) (v3 + 1) hk1 _ (lv_sub hl [2, 3, 1, 0] rfl)
  exact hlp4  FU 0 0 hf _ (lv_sub hl [2, 3, 1, 0] rfl)
set_option maxHeartbeats 4000000 in
set_option maxRecDepth 100000 in
theorem c_X4_bridgesOf (l : Launch) (dC : Nat → ClassId) (dI : Nat → Nat → Nat) (cI cJ : ClassId) (A : Nat → Nat) (hq : Heap) (x : WbS) (v1 : Int32) (r0 : Int32) (hf : Wb_m_bridgesOf x v1 = some r0) : MRi l yX4_bridgesOf (wAll yX4_bridgesOf cX4_bridgesOf 4 (some .int)) ({ frames := 2, cells := 0, slots := 0, locals := 61 } : Room) [.ref (A 0), .int v1] hq (dC, dI) (vTy cI cJ) (wWb cI cJ A x) r0 := by
  refine kg_metR (cc := cX4_bridgesOf) (maxL := 4) (ret := (some .int)) (by decide) rfl (Nat.le_of_ble_eq_true rfl) ?_
  intro p e s m args below meth c hx hb hr hts hown hlk hml hH hP hK hN ls hl
  subst hH
  have hl : lv_has ls 4 [(0, .ref (A 0)), (1, .int v1)] := hl
  have ww0 := hts (.fieldLink RX4 52 "SafeBlocks$Web" "links" "I") (List.mem_cons_of_mem _ wd_3_1)
  have ww1 := hts (.fieldLink RX4 42 "SafeBlocks$Web" "lands" "LSafeBlocks$Names;") (List.mem_cons_of_mem _ wd_2_22)
  have ww2 := hts (.fieldLink RX4 67 "SafeBlocks$Names" "of" "[I") (List.mem_cons_of_mem _ wd_10_5)
  have ww3 := hts (.fieldLink RX4 9 "SafeBlocks$Web" "first" "[I") (List.mem_cons_of_mem _ wd_2_11)
  have hiX4 : ∀ w ∈ u_ws RX4 TX4 16, w ∈ wAll yX4_bridgesOf cX4_bridgesOf 4 (some .int) := fun w h => List.mem_cons_of_mem _ (inlX4 w h)
  have hiX1 : ∀ w ∈ u_ws RX1 TX1 6, w ∈ wAll yX4_bridgesOf cX4_bridgesOf 4 (some .int) := fun w h => List.mem_cons_of_mem _ (inlX1 w h)
  unfold Wb_m_bridgesOf at hf
  refine lv_iconst (v := 0) hx hb dX4_bridgesOf_0 (by decide) ?_
  refine lv_istore_n (lv' := [(2, .int 0), (0, .ref (A 0)), (1, .int v1)]) hx hb dX4_bridgesOf_1 rfl hl (by decide) rfl (fun ls hl => ?_)
  refine lv_iconst (v := 0) hx hb dX4_bridgesOf_2 (by decide) ?_
  refine lv_istore_n (lv' := [(3, .int 0), (2, .int 0), (0, .ref (A 0)), (1, .int v1)]) hx hb dX4_bridgesOf_3 rfl hl (by decide) rfl (fun ls hl => ?_)
  have hlp4 : ∀ (n : Nat) (v2 : Int32) (v3 : Int32), iter (fun p : Int32 × Int32 => Wb_m_bridgesOf_s4 x v1 p.1 p.2) n (v2, v3) = some r0 → ∀ (ls : Array Slot), lv_has ls 4 [(0, .ref (A 0)), (1, .int v1), (2, .int v2), (3, .int v3)] → W p l e ({ frames := 2, cells := 0, slots := 0, locals := 61 } : Room) s m args below meth c s.heap [] 0 0 (MQ below (QRi s.heap r0) args s 0 0 NoA) (F0 m 4 ls []) := by
    intro  n
    induction n with
    | zero => intro v2 v3 hf; exact iter_zero hf
    | succ n ih1 =>
      intro v2 v3 hf ls hl
      obtain ⟨q1, hf, hk1⟩ := iter_succ hf
      have hf : Wb_m_bridgesOf_s4 x v1 v2 v3 = some q1 := hf
      unfold Wb_m_bridgesOf_s4 at hf
      refine lv_iload_n hx hb dX4_bridgesOf_4 rfl (lv_at hl 3 rfl) ?_
      refine lv_aload_n hx hb dX4_bridgesOf_5 rfl (lv_at hl 0 rfl) ?_
      refine va_get (D := (dC, dI)) (ci := 4) (v := .int (Wb_links x)) (C := RX4) (T := TX4) (N := 16) hx hb hts hiX4 hown hK hP 0 rfl rfl 11 (by decide) ww0 (fun _ h9 => h9) rfl dX4_bridgesOf_6 ?_
      refine kg_icmp_ge (tgt := 47) hx hb hf dX4_bridgesOf_9 (by decide) (fun hc hf => ?_) (fun hc hf => ?_)
      · obtain ⟨qq, hf, hqq⟩ := omap_some hf
        have hkq : qq = r0 := by rw [← hqq] at hk1; exact hk1
        rw [hkq] at hf
        clear hkq hqq
        refine lv_iload_n hx hb dX4_bridgesOf_47 rfl (lv_at hl 2 rfl) ?_
        obtain rfl := Option.some.inj hf
        exact kg_iretR hx hb hr hlk rfl dX4_bridgesOf_48
      · refine lv_aload_n hx hb dX4_bridgesOf_12 rfl (lv_at hl 0 rfl) ?_
        refine lv_iload_n hx hb dX4_bridgesOf_13 rfl (lv_at hl 3 rfl) ?_
        obtain ⟨g14, hc, hf⟩ := ob_bind hf
        have hPc : va_P (dC, dI) vwCl (wWb cI cJ A x) s.heap := hP
        refine kg_retRi (va_runV (As := [.int v3]) (rest := []) ⟨hx, hb, hml, hown, hts⟩ (c_X4_isBridge l dC dI cI cJ A s.heap x v3 _ hc) (cwV 1 hts (gw_V wd_6_6 wd_11_12 wd_6_4 wd_6_5 wd_1_14) rfl rfl rfl qX4_isBridge ⟨Nat.le_of_ble_eq_true rfl, Nat.le_of_ble_eq_true rfl⟩) (kg_preVR (ci := 4) (q := (RX4, TX4, 16)) (q0 := 0) hPc hK hN rfl rfl) rfl rfl hl.1 rfl (lv_room (Nat.le_of_ble_eq_true rfl)) dX4_bridgesOf_14 ⟨Nat.zero_le _, Nat.zero_le _⟩) ?_
        refine kg_b_eq (tgt := 41) hx hb hf dX4_bridgesOf_17 (by decide) (fun hc hf => ?_) (fun hc hf => ?_)
        · refine lv_iinc (v := (v3 + 1)) (lv' := [(3, .int (v3 + 1)), (0, .ref (A 0)), (1, .int v1), (2, .int v2)]) hx hb dX4_bridgesOf_41 hl (k := 3) rfl rfl (by decide) rfl (fun ls hl => ?_)
          refine lv_goto (tgt := 4) hx hb dX4_bridgesOf_44 (by decide) ?_
          obtain rfl := Option.some.inj hf
          exact ih1 v2 (v3 + 1) hk1 _ (lv_sub hl [1, 2, 3, 0] rfl)
        · refine lv_aload_n hx hb dX4_bridgesOf_20 rfl (lv_at hl 0 rfl) ?_
          refine va_get (D := (dC, dI)) (ci := 4) (v := .ref (A 13)) (C := RX4) (T := TX4) (N := 16) hx hb hts hiX4 hown hK hP 0 rfl rfl 8 (by decide) ww1 (fun _ h9 => h9) rfl dX4_bridgesOf_21 ?_
          refine va_get (D := (dC, dI)) (ci := 1) (v := .ref (A 14)) (C := RX1) (T := TX1) (N := 6) hx hb hts hiX1 hown hK hP 13 rfl rfl 0 (by decide) ww2 (fun _ h9 => h9) rfl dX4_bridgesOf_24 ?_
          refine lv_aload_n hx hb dX4_bridgesOf_27 rfl (lv_at hl 0 rfl) ?_
          refine va_get (D := (dC, dI)) (ci := 4) (v := .ref (A 1)) (C := RX4) (T := TX4) (N := 16) hx hb hts hiX4 hown hK hP 0 rfl rfl 0 (by decide) ww3 (fun _ h9 => h9) rfl dX4_bridgesOf_28 ?_
          refine lv_iload_n hx hb dX4_bridgesOf_31 rfl (lv_at hl 3 rfl) ?_
          obtain ⟨g32, hv, hf⟩ := ob_bind hf
          refine kg_iald hx hb hK hP 1 0 rfl rfl hv dX4_bridgesOf_32 ?_
          obtain ⟨g33, hv, hf⟩ := ob_bind hf
          refine kg_iald hx hb hK hP 14 0 rfl rfl hv dX4_bridgesOf_33 ?_
          refine lv_iload_n hx hb dX4_bridgesOf_34 rfl (lv_at hl 1 rfl) ?_
          refine kg_icmp_ne (tgt := 41) hx hb hf dX4_bridgesOf_35 (by decide) (fun hc hf => ?_) (fun hc hf => ?_)
          · refine lv_iinc (v := (v3 + 1)) (lv' := [(3, .int (v3 + 1)), (0, .ref (A 0)), (1, .int v1), (2, .int v2)]) hx hb dX4_bridgesOf_41 hl (k := 3) rfl rfl (by decide) rfl (fun ls hl => ?_)
            refine lv_goto (tgt := 4) hx hb dX4_bridgesOf_44 (by decide) ?_
            obtain rfl := Option.some.inj hf
            exact ih1 v2 (v3 + 1) hk1 _ (lv_sub hl [1, 2, 3, 0] rfl)
          · refine lv_iinc (v := (v2 + 1)) (lv' := [(2, .int (v2 + 1)), (0, .ref (A 0)), (1, .int v1), (3, .int v3)]) hx hb dX4_bridgesOf_38 hl (k := 2) rfl rfl (by decide) rfl (fun ls hl => ?_)
            refine lv_iinc (v := (v3 + 1)) (lv' := [(3, .int (v3 + 1)), (2, .int (v2 + 1)), (0, .ref (A 0)), (1, .int v1)]) hx hb dX4_bridgesOf_41 hl (k := 3) rfl rfl (by decide) rfl (fun ls hl => ?_)
            refine lv_goto (tgt := 4) hx hb dX4_bridgesOf_44 (by decide) ?_
            obtain rfl := Option.some.inj hf
            exact ih1 (v2 + 1) (v3 + 1) hk1 _ (lv_sub hl [2, 3, 1, 0] rfl)
  exact hlp4  FU 0 0 hf _ (lv_sub hl [2, 3, 1, 0] rfl)
set_option maxHeartbeats 4000000 in
set_option maxRecDepth 100000 in
theorem c_X4_bridgesAmong (l : Launch) (dC : Nat → ClassId) (dI : Nat → Nat → Nat) (cI cJ : ClassId) (A : Nat → Nat) (hq : Heap) (x : WbS) (v1 : Int32) (r0 : Int32) (hf : Wb_m_bridgesAmong x v1 = some r0) : MRi l yX4_bridgesAmong (wAll yX4_bridgesAmong cX4_bridgesAmong 4 (some .int)) ({ frames := 2, cells := 0, slots := 0, locals := 61 } : Room) [.ref (A 0), .int v1] hq (dC, dI) (vTy cI cJ) (wWb cI cJ A x) r0 := by
  refine kg_metR (cc := cX4_bridgesAmong) (maxL := 4) (ret := (some .int)) (by decide) rfl (Nat.le_of_ble_eq_true rfl) ?_
  intro p e s m args below meth c hx hb hr hts hown hlk hml hH hP hK hN ls hl
  subst hH
  have hl : lv_has ls 4 [(0, .ref (A 0)), (1, .int v1)] := hl
  have ww0 := hts (.fieldLink RX4 52 "SafeBlocks$Web" "links" "I") (List.mem_cons_of_mem _ wd_3_1)
  have ww1 := hts (.fieldLink RX4 18 "SafeBlocks$Web" "endedBy" "[I") (List.mem_cons_of_mem _ wd_2_13)
  have hiX4 : ∀ w ∈ u_ws RX4 TX4 16, w ∈ wAll yX4_bridgesAmong cX4_bridgesAmong 4 (some .int) := fun w h => List.mem_cons_of_mem _ (inlX4 w h)
  unfold Wb_m_bridgesAmong at hf
  refine lv_iconst (v := 0) hx hb dX4_bridgesAmong_0 (by decide) ?_
  refine lv_istore_n (lv' := [(2, .int 0), (0, .ref (A 0)), (1, .int v1)]) hx hb dX4_bridgesAmong_1 rfl hl (by decide) rfl (fun ls hl => ?_)
  refine lv_iconst (v := 0) hx hb dX4_bridgesAmong_2 (by decide) ?_
  refine lv_istore_n (lv' := [(3, .int 0), (2, .int 0), (0, .ref (A 0)), (1, .int v1)]) hx hb dX4_bridgesAmong_3 rfl hl (by decide) rfl (fun ls hl => ?_)
  have hlp4 : ∀ (n : Nat) (v2 : Int32) (v3 : Int32), iter (fun p : Int32 × Int32 => Wb_m_bridgesAmong_s4 x v1 p.1 p.2) n (v2, v3) = some r0 → ∀ (ls : Array Slot), lv_has ls 4 [(0, .ref (A 0)), (1, .int v1), (2, .int v2), (3, .int v3)] → W p l e ({ frames := 2, cells := 0, slots := 0, locals := 61 } : Room) s m args below meth c s.heap [] 0 0 (MQ below (QRi s.heap r0) args s 0 0 NoA) (F0 m 4 ls []) := by
    intro  n
    induction n with
    | zero => intro v2 v3 hf; exact iter_zero hf
    | succ n ih1 =>
      intro v2 v3 hf ls hl
      obtain ⟨q1, hf, hk1⟩ := iter_succ hf
      have hf : Wb_m_bridgesAmong_s4 x v1 v2 v3 = some q1 := hf
      unfold Wb_m_bridgesAmong_s4 at hf
      refine lv_iload_n hx hb dX4_bridgesAmong_4 rfl (lv_at hl 3 rfl) ?_
      refine lv_iload_n hx hb dX4_bridgesAmong_5 rfl (lv_at hl 1 rfl) ?_
      refine kg_icmp_ge (tgt := 44) hx hb hf dX4_bridgesAmong_6 (by decide) (fun hc hf => ?_) (fun hc hf => ?_)
      · obtain ⟨qq, hf, hqq⟩ := omap_some hf
        have hkq : qq = r0 := by rw [← hqq] at hk1; exact hk1
        rw [hkq] at hf
        clear hkq hqq
        refine lv_iload_n hx hb dX4_bridgesAmong_44 rfl (lv_at hl 2 rfl) ?_
        obtain rfl := Option.some.inj hf
        exact kg_iretR hx hb hr hlk rfl dX4_bridgesAmong_45
      · refine lv_iload_n hx hb dX4_bridgesAmong_9 rfl (lv_at hl 3 rfl) ?_
        refine lv_aload_n hx hb dX4_bridgesAmong_10 rfl (lv_at hl 0 rfl) ?_
        refine va_get (D := (dC, dI)) (ci := 4) (v := .int (Wb_links x)) (C := RX4) (T := TX4) (N := 16) hx hb hts hiX4 hown hK hP 0 rfl rfl 11 (by decide) ww0 (fun _ h9 => h9) rfl dX4_bridgesAmong_11 ?_
        refine kg_icmp_ge (tgt := 44) hx hb hf dX4_bridgesAmong_14 (by decide) (fun hc hf => ?_) (fun hc hf => ?_)
        · obtain ⟨qq, hf, hqq⟩ := omap_some hf
          have hkq : qq = r0 := by rw [← hqq] at hk1; exact hk1
          rw [hkq] at hf
          clear hkq hqq
          refine lv_iload_n hx hb dX4_bridgesAmong_44 rfl (lv_at hl 2 rfl) ?_
          obtain rfl := Option.some.inj hf
          exact kg_iretR hx hb hr hlk rfl dX4_bridgesAmong_45
        · refine lv_aload_n hx hb dX4_bridgesAmong_17 rfl (lv_at hl 0 rfl) ?_
          refine lv_iload_n hx hb dX4_bridgesAmong_18 rfl (lv_at hl 3 rfl) ?_
          obtain ⟨g19, hc, hf⟩ := ob_bind hf
          have hPc : va_P (dC, dI) vwCl (wWb cI cJ A x) s.heap := hP
          refine kg_retRi (va_runV (As := [.int v3]) (rest := []) ⟨hx, hb, hml, hown, hts⟩ (c_X4_isBridge l dC dI cI cJ A s.heap x v3 _ hc) (cwV 1 hts (gw_V wd_6_6 wd_11_12 wd_6_4 wd_6_5 wd_1_14) rfl rfl rfl qX4_isBridge ⟨Nat.le_of_ble_eq_true rfl, Nat.le_of_ble_eq_true rfl⟩) (kg_preVR (ci := 4) (q := (RX4, TX4, 16)) (q0 := 0) hPc hK hN rfl rfl) rfl rfl hl.1 rfl (lv_room (Nat.le_of_ble_eq_true rfl)) dX4_bridgesAmong_19 ⟨Nat.zero_le _, Nat.zero_le _⟩) ?_
          refine kg_b_ne (tgt := 35) hx hb hf dX4_bridgesAmong_22 (by decide) (fun hc hf => ?_) (fun hc hf => ?_)
          · refine lv_iinc (v := (v2 + 1)) (lv' := [(2, .int (v2 + 1)), (0, .ref (A 0)), (1, .int v1), (3, .int v3)]) hx hb dX4_bridgesAmong_35 hl (k := 2) rfl rfl (by decide) rfl (fun ls hl => ?_)
            refine lv_iinc (v := (v3 + 1)) (lv' := [(3, .int (v3 + 1)), (2, .int (v2 + 1)), (0, .ref (A 0)), (1, .int v1)]) hx hb dX4_bridgesAmong_38 hl (k := 3) rfl rfl (by decide) rfl (fun ls hl => ?_)
            refine lv_goto (tgt := 4) hx hb dX4_bridgesAmong_41 (by decide) ?_
            obtain rfl := Option.some.inj hf
            exact ih1 (v2 + 1) (v3 + 1) hk1 _ (lv_sub hl [2, 3, 1, 0] rfl)
          · refine lv_aload_n hx hb dX4_bridgesAmong_25 rfl (lv_at hl 0 rfl) ?_
            refine va_get (D := (dC, dI)) (ci := 4) (v := .ref (A 3)) (C := RX4) (T := TX4) (N := 16) hx hb hts hiX4 hown hK hP 0 rfl rfl 2 (by decide) ww1 (fun _ h9 => h9) rfl dX4_bridgesAmong_26 ?_
            refine lv_iload_n hx hb dX4_bridgesAmong_29 rfl (lv_at hl 3 rfl) ?_
            obtain ⟨g30, hv, hf⟩ := ob_bind hf
            refine kg_iald hx hb hK hP 3 0 rfl rfl hv dX4_bridgesAmong_30 ?_
            refine lv_iload_n hx hb dX4_bridgesAmong_31 rfl (lv_at hl 1 rfl) ?_
            refine kg_icmp_lt (tgt := 38) hx hb hf dX4_bridgesAmong_32 (by decide) (fun hc hf => ?_) (fun hc hf => ?_)
            · refine lv_iinc (v := (v3 + 1)) (lv' := [(3, .int (v3 + 1)), (0, .ref (A 0)), (1, .int v1), (2, .int v2)]) hx hb dX4_bridgesAmong_38 hl (k := 3) rfl rfl (by decide) rfl (fun ls hl => ?_)
              refine lv_goto (tgt := 4) hx hb dX4_bridgesAmong_41 (by decide) ?_
              obtain rfl := Option.some.inj hf
              exact ih1 v2 (v3 + 1) hk1 _ (lv_sub hl [1, 2, 3, 0] rfl)
            · refine lv_iinc (v := (v2 + 1)) (lv' := [(2, .int (v2 + 1)), (0, .ref (A 0)), (1, .int v1), (3, .int v3)]) hx hb dX4_bridgesAmong_35 hl (k := 2) rfl rfl (by decide) rfl (fun ls hl => ?_)
              refine lv_iinc (v := (v3 + 1)) (lv' := [(3, .int (v3 + 1)), (2, .int (v2 + 1)), (0, .ref (A 0)), (1, .int v1)]) hx hb dX4_bridgesAmong_38 hl (k := 3) rfl rfl (by decide) rfl (fun ls hl => ?_)
              refine lv_goto (tgt := 4) hx hb dX4_bridgesAmong_41 (by decide) ?_
              obtain rfl := Option.some.inj hf
              exact ih1 (v2 + 1) (v3 + 1) hk1 _ (lv_sub hl [2, 3, 1, 0] rfl)
  exact hlp4  FU 0 0 hf _ (lv_sub hl [2, 3, 1, 0] rfl)
set_option maxHeartbeats 4000000 in
set_option maxRecDepth 100000 in
theorem c_X4_bridgesOnWay (l : Launch) (dC : Nat → ClassId) (dI : Nat → Nat → Nat) (cI cJ : ClassId) (A : Nat → Nat) (hq : Heap) (x : WbS) (v1 : Int32) (r0 : Int32) (hf : Wb_m_bridgesOnWay x v1 = some r0) : MRi l yX4_bridgesOnWay (wAll yX4_bridgesOnWay cX4_bridgesOnWay 4 (some .int)) ({ frames := 2, cells := 0, slots := 0, locals := 61 } : Room) [.ref (A 0), .int v1] hq (dC, dI) (vTy cI cJ) (wWb cI cJ A x) r0 := by
  refine kg_metR (cc := cX4_bridgesOnWay) (maxL := 4) (ret := (some .int)) (by decide) rfl (Nat.le_of_ble_eq_true rfl) ?_
  intro p e s m args below meth c hx hb hr hts hown hlk hml hH hP hK hN ls hl
  subst hH
  have hl : lv_has ls 4 [(0, .ref (A 0)), (1, .int v1)] := hl
  have ww0 := hts (.fieldLink RX4 30 "SafeBlocks$Web" "wayLink" "[I") (List.mem_cons_of_mem _ wd_2_17)
  have hiX4 : ∀ w ∈ u_ws RX4 TX4 16, w ∈ wAll yX4_bridgesOnWay cX4_bridgesOnWay 4 (some .int) := fun w h => List.mem_cons_of_mem _ (inlX4 w h)
  unfold Wb_m_bridgesOnWay at hf
  refine lv_iconst (v := 0) hx hb dX4_bridgesOnWay_0 (by decide) ?_
  refine lv_istore_n (lv' := [(2, .int 0), (0, .ref (A 0)), (1, .int v1)]) hx hb dX4_bridgesOnWay_1 rfl hl (by decide) rfl (fun ls hl => ?_)
  refine lv_iconst (v := 0) hx hb dX4_bridgesOnWay_2 (by decide) ?_
  refine lv_istore_n (lv' := [(3, .int 0), (2, .int 0), (0, .ref (A 0)), (1, .int v1)]) hx hb dX4_bridgesOnWay_3 rfl hl (by decide) rfl (fun ls hl => ?_)
  have hlp4 : ∀ (n : Nat) (v2 : Int32) (v3 : Int32), iter (fun p : Int32 × Int32 => Wb_m_bridgesOnWay_s4 x v1 p.1 p.2) n (v2, v3) = some r0 → ∀ (ls : Array Slot), lv_has ls 4 [(0, .ref (A 0)), (1, .int v1), (2, .int v2), (3, .int v3)] → W p l e ({ frames := 2, cells := 0, slots := 0, locals := 61 } : Room) s m args below meth c s.heap [] 0 0 (MQ below (QRi s.heap r0) args s 0 0 NoA) (F0 m 4 ls []) := by
    intro  n
    induction n with
    | zero => intro v2 v3 hf; exact iter_zero hf
    | succ n ih1 =>
      intro v2 v3 hf ls hl
      obtain ⟨q1, hf, hk1⟩ := iter_succ hf
      have hf : Wb_m_bridgesOnWay_s4 x v1 v2 v3 = some q1 := hf
      unfold Wb_m_bridgesOnWay_s4 at hf
      refine lv_iload_n hx hb dX4_bridgesOnWay_4 rfl (lv_at hl 3 rfl) ?_
      refine lv_iload_n hx hb dX4_bridgesOnWay_5 rfl (lv_at hl 1 rfl) ?_
      refine kg_icmp_ge (tgt := 31) hx hb hf dX4_bridgesOnWay_6 (by decide) (fun hc hf => ?_) (fun hc hf => ?_)
      · obtain ⟨qq, hf, hqq⟩ := omap_some hf
        have hkq : qq = r0 := by rw [← hqq] at hk1; exact hk1
        rw [hkq] at hf
        clear hkq hqq
        refine lv_iload_n hx hb dX4_bridgesOnWay_31 rfl (lv_at hl 2 rfl) ?_
        obtain rfl := Option.some.inj hf
        exact kg_iretR hx hb hr hlk rfl dX4_bridgesOnWay_32
      · refine lv_aload_n hx hb dX4_bridgesOnWay_9 rfl (lv_at hl 0 rfl) ?_
        refine lv_aload_n hx hb dX4_bridgesOnWay_10 rfl (lv_at hl 0 rfl) ?_
        refine va_get (D := (dC, dI)) (ci := 4) (v := .ref (A 7)) (C := RX4) (T := TX4) (N := 16) hx hb hts hiX4 hown hK hP 0 rfl rfl 6 (by decide) ww0 (fun _ h9 => h9) rfl dX4_bridgesOnWay_11 ?_
        refine lv_iload_n hx hb dX4_bridgesOnWay_14 rfl (lv_at hl 3 rfl) ?_
        obtain ⟨g15, hv, hf⟩ := ob_bind hf
        refine kg_iald hx hb hK hP 7 0 rfl rfl hv dX4_bridgesOnWay_15 ?_
        obtain ⟨g16, hc, hf⟩ := ob_bind hf
        have hPc : va_P (dC, dI) vwCl (wWb cI cJ A x) s.heap := hP
        refine kg_retRi (va_runV (As := [.int g15]) (rest := []) ⟨hx, hb, hml, hown, hts⟩ (c_X4_isBridge l dC dI cI cJ A s.heap x g15 _ hc) (cwV 1 hts (gw_V wd_6_6 wd_11_12 wd_6_4 wd_6_5 wd_1_14) rfl rfl rfl qX4_isBridge ⟨Nat.le_of_ble_eq_true rfl, Nat.le_of_ble_eq_true rfl⟩) (kg_preVR (ci := 4) (q := (RX4, TX4, 16)) (q0 := 0) hPc hK hN rfl rfl) rfl rfl hl.1 rfl (lv_room (Nat.le_of_ble_eq_true rfl)) dX4_bridgesOnWay_16 ⟨Nat.zero_le _, Nat.zero_le _⟩) ?_
        refine kg_b_eq (tgt := 25) hx hb hf dX4_bridgesOnWay_19 (by decide) (fun hc hf => ?_) (fun hc hf => ?_)
        · refine lv_iinc (v := (v3 + 1)) (lv' := [(3, .int (v3 + 1)), (0, .ref (A 0)), (1, .int v1), (2, .int v2)]) hx hb dX4_bridgesOnWay_25 hl (k := 3) rfl rfl (by decide) rfl (fun ls hl => ?_)
          refine lv_goto (tgt := 4) hx hb dX4_bridgesOnWay_28 (by decide) ?_
          obtain rfl := Option.some.inj hf
          exact ih1 v2 (v3 + 1) hk1 _ (lv_sub hl [1, 2, 3, 0] rfl)
        · refine lv_iinc (v := (v2 + 1)) (lv' := [(2, .int (v2 + 1)), (0, .ref (A 0)), (1, .int v1), (3, .int v3)]) hx hb dX4_bridgesOnWay_22 hl (k := 2) rfl rfl (by decide) rfl (fun ls hl => ?_)
          refine lv_iinc (v := (v3 + 1)) (lv' := [(3, .int (v3 + 1)), (2, .int (v2 + 1)), (0, .ref (A 0)), (1, .int v1)]) hx hb dX4_bridgesOnWay_25 hl (k := 3) rfl rfl (by decide) rfl (fun ls hl => ?_)
          refine lv_goto (tgt := 4) hx hb dX4_bridgesOnWay_28 (by decide) ?_
          obtain rfl := Option.some.inj hf
          exact ih1 (v2 + 1) (v3 + 1) hk1 _ (lv_sub hl [2, 3, 1, 0] rfl)
  exact hlp4  FU 0 0 hf _ (lv_sub hl [2, 3, 1, 0] rfl)
set_option maxHeartbeats 4000000 in
set_option maxRecDepth 100000 in
theorem c_X4_leavesPart (l : Launch) (dC : Nat → ClassId) (dI : Nat → Nat → Nat) (cI cJ : ClassId) (A : Nat → Nat) (hq : Heap) (x : WbS) (v1 : Int32) (r0 : Bool) (hf : Wb_m_leavesPart x v1 = some r0) : MRi l yX4_leavesPart (wAll yX4_leavesPart cX4_leavesPart 2 (some .boolean)) ({ frames := 1, cells := 0, slots := 0, locals := 40 } : Room) [.ref (A 0), .int v1] hq (dC, dI) (vTy cI cJ) (wWb cI cJ A x) (b2i r0) := by
  refine kg_metR (cc := cX4_leavesPart) (maxL := 2) (ret := (some .boolean)) (by decide) rfl (Nat.le_of_ble_eq_true rfl) ?_
  intro p e s m args below meth c hx hb hr hts hown hlk hml hH hP hK hN ls hl
  subst hH
  have hl : lv_has ls 2 [(0, .ref (A 0)), (1, .int v1)] := hl
  have ww0 := hts (.fieldLink RX4 45 "SafeBlocks$Web" "parts" "LSafeBlocks$Names;") (List.mem_cons_of_mem _ wd_2_23)
  have ww1 := hts (.fieldLink RX4 67 "SafeBlocks$Names" "of" "[I") (List.mem_cons_of_mem _ wd_10_5)
  have ww2 := hts (.fieldLink RX4 30 "SafeBlocks$Web" "wayLink" "[I") (List.mem_cons_of_mem _ wd_2_17)
  have hiX4 : ∀ w ∈ u_ws RX4 TX4 16, w ∈ wAll yX4_leavesPart cX4_leavesPart 2 (some .boolean) := fun w h => List.mem_cons_of_mem _ (inlX4 w h)
  have hiX1 : ∀ w ∈ u_ws RX1 TX1 6, w ∈ wAll yX4_leavesPart cX4_leavesPart 2 (some .boolean) := fun w h => List.mem_cons_of_mem _ (inlX1 w h)
  unfold Wb_m_leavesPart at hf
  refine lv_iload_n hx hb dX4_leavesPart_0 rfl (lv_at hl 1 rfl) ?_
  refine kg_if_le (tgt := 41) hx hb hf dX4_leavesPart_1 (by decide) (fun hc hf => ?_) (fun hc hf => ?_)
  · refine lv_iconst (v := 0) hx hb dX4_leavesPart_41 (by decide) ?_
    obtain rfl := Option.some.inj hf
    exact kg_zretR (b := false) hx hb hr hlk rfl rfl dX4_leavesPart_42
  · refine lv_aload_n hx hb dX4_leavesPart_4 rfl (lv_at hl 0 rfl) ?_
    refine va_get (D := (dC, dI)) (ci := 4) (v := .ref (A 18)) (C := RX4) (T := TX4) (N := 16) hx hb hts hiX4 hown hK hP 0 rfl rfl 9 (by decide) ww0 (fun _ h9 => h9) rfl dX4_leavesPart_5 ?_
    refine va_get (D := (dC, dI)) (ci := 1) (v := .ref (A 19)) (C := RX1) (T := TX1) (N := 6) hx hb hts hiX1 hown hK hP 18 rfl rfl 0 (by decide) ww1 (fun _ h9 => h9) rfl dX4_leavesPart_8 ?_
    refine lv_aload_n hx hb dX4_leavesPart_11 rfl (lv_at hl 0 rfl) ?_
    refine va_get (D := (dC, dI)) (ci := 4) (v := .ref (A 7)) (C := RX4) (T := TX4) (N := 16) hx hb hts hiX4 hown hK hP 0 rfl rfl 6 (by decide) ww2 (fun _ h9 => h9) rfl dX4_leavesPart_12 ?_
    refine lv_iload_n hx hb dX4_leavesPart_15 rfl (lv_at hl 1 rfl) ?_
    refine lv_iconst (v := 1) hx hb dX4_leavesPart_16 (by decide) ?_
    refine lv_isub hx hb dX4_leavesPart_17 ?_
    obtain ⟨g18, hv, hf⟩ := ob_bind hf
    refine kg_iald hx hb hK hP 7 0 rfl rfl hv dX4_leavesPart_18 ?_
    obtain ⟨g19, hv, hf⟩ := ob_bind hf
    refine kg_iald hx hb hK hP 19 0 rfl rfl hv dX4_leavesPart_19 ?_
    refine lv_aload_n hx hb dX4_leavesPart_20 rfl (lv_at hl 0 rfl) ?_
    refine va_get (D := (dC, dI)) (ci := 4) (v := .ref (A 18)) (C := RX4) (T := TX4) (N := 16) hx hb hts hiX4 hown hK hP 0 rfl rfl 9 (by decide) ww0 (fun _ h9 => h9) rfl dX4_leavesPart_21 ?_
    refine va_get (D := (dC, dI)) (ci := 1) (v := .ref (A 19)) (C := RX1) (T := TX1) (N := 6) hx hb hts hiX1 hown hK hP 18 rfl rfl 0 (by decide) ww1 (fun _ h9 => h9) rfl dX4_leavesPart_24 ?_
    refine lv_aload_n hx hb dX4_leavesPart_27 rfl (lv_at hl 0 rfl) ?_
    refine va_get (D := (dC, dI)) (ci := 4) (v := .ref (A 7)) (C := RX4) (T := TX4) (N := 16) hx hb hts hiX4 hown hK hP 0 rfl rfl 6 (by decide) ww2 (fun _ h9 => h9) rfl dX4_leavesPart_28 ?_
    refine lv_iload_n hx hb dX4_leavesPart_31 rfl (lv_at hl 1 rfl) ?_
    obtain ⟨g32, hv, hf⟩ := ob_bind hf
    refine kg_iald hx hb hK hP 7 0 rfl rfl hv dX4_leavesPart_32 ?_
    obtain ⟨g33, hv, hf⟩ := ob_bind hf
    refine kg_iald hx hb hK hP 19 0 rfl rfl hv dX4_leavesPart_33 ?_
    refine kg_icmp_eq (tgt := 41) hx hb hf dX4_leavesPart_34 (by decide) (fun hc hf => ?_) (fun hc hf => ?_)
    · refine lv_iconst (v := 0) hx hb dX4_leavesPart_41 (by decide) ?_
      obtain rfl := Option.some.inj hf
      exact kg_zretR (b := false) hx hb hr hlk rfl rfl dX4_leavesPart_42
    · refine lv_iconst (v := 1) hx hb dX4_leavesPart_37 (by decide) ?_
      refine lv_goto (tgt := 42) hx hb dX4_leavesPart_38 (by decide) ?_
      obtain rfl := Option.some.inj hf
      exact kg_zretR (b := true) hx hb hr hlk rfl rfl dX4_leavesPart_42
set_option maxHeartbeats 4000000 in
set_option maxRecDepth 100000 in
theorem c_X4_landSince (l : Launch) (dC : Nat → ClassId) (dI : Nat → Nat → Nat) (cI cJ : ClassId) (A : Nat → Nat) (hq : Heap) (x : WbS) (v1 : Int32) (r0 : Int32) (hf : Wb_m_landSince x v1 = some r0) : MRi l yX4_landSince (wAll yX4_landSince cX4_landSince 4 (some .int)) ({ frames := 1, cells := 0, slots := 0, locals := 40 } : Room) [.ref (A 0), .int v1] hq (dC, dI) (vTy cI cJ) (wWb cI cJ A x) r0 := by
  refine kg_metR (cc := cX4_landSince) (maxL := 4) (ret := (some .int)) (by decide) rfl (Nat.le_of_ble_eq_true rfl) ?_
  intro p e s m args below meth c hx hb hr hts hown hlk hml hH hP hK hN ls hl
  subst hH
  have hl : lv_has ls 4 [(0, .ref (A 0)), (1, .int v1)] := hl
  have ww0 := hts (.fieldLink RX4 30 "SafeBlocks$Web" "wayLink" "[I") (List.mem_cons_of_mem _ wd_2_17)
  have ww1 := hts (.methodLink RX4 126 Lib.Math.max.name) (List.mem_cons_of_mem _ wd_34_14)
  have ww2 := hts (.static Lib.Math.max.name) (List.mem_cons_of_mem _ wd_14_7)
  have ww3 := hts (.initialized "java/lang/Math") (List.mem_cons_of_mem _ wd_14_8)
  have ww4 := hts (.code Lib.Math.max.name Lib.Math.max.code 2 (some .int)) (List.mem_cons_of_mem _ wd_14_9)
  have hiX4 : ∀ w ∈ u_ws RX4 TX4 16, w ∈ wAll yX4_landSince cX4_landSince 4 (some .int) := fun w h => List.mem_cons_of_mem _ (inlX4 w h)
  unfold Wb_m_landSince at hf
  refine lv_iconst (v := (-1)) hx hb dX4_landSince_0 (by decide) ?_
  refine lv_istore_n (lv' := [(2, .int (-1)), (0, .ref (A 0)), (1, .int v1)]) hx hb dX4_landSince_1 rfl hl (by decide) rfl (fun ls hl => ?_)
  refine lv_iconst (v := 0) hx hb dX4_landSince_2 (by decide) ?_
  refine lv_istore_n (lv' := [(3, .int 0), (2, .int (-1)), (0, .ref (A 0)), (1, .int v1)]) hx hb dX4_landSince_3 rfl hl (by decide) rfl (fun ls hl => ?_)
  have hlp4 : ∀ (n : Nat) (v2 : Int32) (v3 : Int32), iter (fun p : Int32 × Int32 => Wb_m_landSince_s4 x v1 p.1 p.2) n (v2, v3) = some r0 → ∀ (ls : Array Slot), lv_has ls 4 [(0, .ref (A 0)), (1, .int v1), (2, .int v2), (3, .int v3)] → W p l e ({ frames := 1, cells := 0, slots := 0, locals := 40 } : Room) s m args below meth c s.heap [] 0 0 (MQ below (QRi s.heap r0) args s 0 0 NoA) (F0 m 4 ls []) := by
    intro  n
    induction n with
    | zero => intro v2 v3 hf; exact iter_zero hf
    | succ n ih1 =>
      intro v2 v3 hf ls hl
      obtain ⟨q1, hf, hk1⟩ := iter_succ hf
      have hf : Wb_m_landSince_s4 x v1 v2 v3 = some q1 := hf
      unfold Wb_m_landSince_s4 at hf
      refine lv_iload_n hx hb dX4_landSince_4 rfl (lv_at hl 3 rfl) ?_
      refine lv_iload_n hx hb dX4_landSince_5 rfl (lv_at hl 1 rfl) ?_
      refine kg_icmp_ge (tgt := 26) hx hb hf dX4_landSince_6 (by decide) (fun hc hf => ?_) (fun hc hf => ?_)
      · obtain ⟨qq, hf, hqq⟩ := omap_some hf
        have hkq : qq = r0 := by rw [← hqq] at hk1; exact hk1
        rw [hkq] at hf
        clear hkq hqq
        refine lv_iload_n hx hb dX4_landSince_26 rfl (lv_at hl 2 rfl) ?_
        refine lv_iconst (v := 1) hx hb dX4_landSince_27 (by decide) ?_
        refine lv_iadd hx hb dX4_landSince_28 ?_
        obtain rfl := Option.some.inj hf
        exact kg_iretR hx hb hr hlk rfl dX4_landSince_29
      · refine lv_iload_n hx hb dX4_landSince_9 rfl (lv_at hl 2 rfl) ?_
        refine lv_aload_n hx hb dX4_landSince_10 rfl (lv_at hl 0 rfl) ?_
        refine va_get (D := (dC, dI)) (ci := 4) (v := .ref (A 7)) (C := RX4) (T := TX4) (N := 16) hx hb hts hiX4 hown hK hP 0 rfl rfl 6 (by decide) ww0 (fun _ h9 => h9) rfl dX4_landSince_11 ?_
        refine lv_iload_n hx hb dX4_landSince_14 rfl (lv_at hl 3 rfl) ?_
        obtain ⟨g15, hv, hf⟩ := ob_bind hf
        refine kg_iald hx hb hK hP 7 0 rfl rfl hv dX4_landSince_15 ?_
        refine va_mmax hx hb (by rw [hml]; exact hl.1.symm) hown ww1 ww2 ww3 ww4 (Nat.le_of_ble_eq_true rfl) (Nat.le_of_ble_eq_true rfl) (Nat.zero_le _) (Nat.zero_le _) dX4_landSince_16 ?_
        refine lv_istore_n (lv' := [(2, .int (if v2 < g15 then g15 else v2)), (0, .ref (A 0)), (1, .int v1), (3, .int v3)]) hx hb dX4_landSince_19 rfl hl (by decide) rfl (fun ls hl => ?_)
        refine lv_iinc (v := (v3 + 1)) (lv' := [(3, .int (v3 + 1)), (2, .int (if v2 < g15 then g15 else v2)), (0, .ref (A 0)), (1, .int v1)]) hx hb dX4_landSince_20 hl (k := 3) rfl rfl (by decide) rfl (fun ls hl => ?_)
        refine lv_goto (tgt := 4) hx hb dX4_landSince_23 (by decide) ?_
        obtain rfl := Option.some.inj hf
        exact ih1 (if v2 < g15 then g15 else v2) (v3 + 1) hk1 _ (lv_sub hl [2, 3, 1, 0] rfl)
  exact hlp4  FU (-1) 0 hf _ (lv_sub hl [2, 3, 1, 0] rfl)
set_option maxHeartbeats 4000000 in
set_option maxRecDepth 100000 in
theorem c_X4_blockSince (l : Launch) (dC : Nat → ClassId) (dI : Nat → Nat → Nat) (cI cJ : ClassId) (A : Nat → Nat) (hq : Heap) (x : WbS) (v1 : Int32) (r0 : Int32) (hf : Wb_m_blockSince x v1 = some r0) : MRi l yX4_blockSince (wAll yX4_blockSince cX4_blockSince 4 (some .int)) ({ frames := 2, cells := 0, slots := 0, locals := 61 } : Room) [.ref (A 0), .int v1] hq (dC, dI) (vTy cI cJ) (wWb cI cJ A x) r0 := by
  refine kg_metR (cc := cX4_blockSince) (maxL := 4) (ret := (some .int)) (by decide) rfl (Nat.le_of_ble_eq_true rfl) ?_
  intro p e s m args below meth c hx hb hr hts hown hlk hml hH hP hK hN ls hl
  subst hH
  have hl : lv_has ls 4 [(0, .ref (A 0)), (1, .int v1)] := hl
  have ww0 := hts (.fieldLink RX4 30 "SafeBlocks$Web" "wayLink" "[I") (List.mem_cons_of_mem _ wd_2_17)
  have ww1 := hts (.fieldLink RX4 18 "SafeBlocks$Web" "endedBy" "[I") (List.mem_cons_of_mem _ wd_2_13)
  have ww2 := hts (.methodLink RX4 126 Lib.Math.max.name) (List.mem_cons_of_mem _ wd_34_14)
  have ww3 := hts (.static Lib.Math.max.name) (List.mem_cons_of_mem _ wd_14_7)
  have ww4 := hts (.initialized "java/lang/Math") (List.mem_cons_of_mem _ wd_14_8)
  have ww5 := hts (.code Lib.Math.max.name Lib.Math.max.code 2 (some .int)) (List.mem_cons_of_mem _ wd_14_9)
  have hiX4 : ∀ w ∈ u_ws RX4 TX4 16, w ∈ wAll yX4_blockSince cX4_blockSince 4 (some .int) := fun w h => List.mem_cons_of_mem _ (inlX4 w h)
  unfold Wb_m_blockSince at hf
  refine lv_iconst (v := (-1)) hx hb dX4_blockSince_0 (by decide) ?_
  refine lv_istore_n (lv' := [(2, .int (-1)), (0, .ref (A 0)), (1, .int v1)]) hx hb dX4_blockSince_1 rfl hl (by decide) rfl (fun ls hl => ?_)
  refine lv_iconst (v := 0) hx hb dX4_blockSince_2 (by decide) ?_
  refine lv_istore_n (lv' := [(3, .int 0), (2, .int (-1)), (0, .ref (A 0)), (1, .int v1)]) hx hb dX4_blockSince_3 rfl hl (by decide) rfl (fun ls hl => ?_)
  have hlp4 : ∀ (n : Nat) (v2 : Int32) (v3 : Int32), iter (fun p : Int32 × Int32 => Wb_m_blockSince_s4 x v1 p.1 p.2) n (v2, v3) = some r0 → ∀ (ls : Array Slot), lv_has ls 4 [(0, .ref (A 0)), (1, .int v1), (2, .int v2), (3, .int v3)] → W p l e ({ frames := 2, cells := 0, slots := 0, locals := 61 } : Room) s m args below meth c s.heap [] 0 0 (MQ below (QRi s.heap r0) args s 0 0 NoA) (F0 m 4 ls []) := by
    intro  n
    induction n with
    | zero => intro v2 v3 hf; exact iter_zero hf
    | succ n ih1 =>
      intro v2 v3 hf ls hl
      obtain ⟨q1, hf, hk1⟩ := iter_succ hf
      have hf : Wb_m_blockSince_s4 x v1 v2 v3 = some q1 := hf
      unfold Wb_m_blockSince_s4 at hf
      refine lv_iload_n hx hb dX4_blockSince_4 rfl (lv_at hl 3 rfl) ?_
      refine lv_iload_n hx hb dX4_blockSince_5 rfl (lv_at hl 1 rfl) ?_
      refine kg_icmp_ge (tgt := 46) hx hb hf dX4_blockSince_6 (by decide) (fun hc hf => ?_) (fun hc hf => ?_)
      · obtain ⟨qq, hf, hqq⟩ := omap_some hf
        have hkq : qq = r0 := by rw [← hqq] at hk1; exact hk1
        rw [hkq] at hf
        clear hkq hqq
        refine lv_iload_n hx hb dX4_blockSince_46 rfl (lv_at hl 2 rfl) ?_
        refine lv_iconst (v := 1) hx hb dX4_blockSince_47 (by decide) ?_
        refine lv_iadd hx hb dX4_blockSince_48 ?_
        obtain rfl := Option.some.inj hf
        exact kg_iretR hx hb hr hlk rfl dX4_blockSince_49
      · refine lv_aload_n hx hb dX4_blockSince_9 rfl (lv_at hl 0 rfl) ?_
        refine lv_aload_n hx hb dX4_blockSince_10 rfl (lv_at hl 0 rfl) ?_
        refine va_get (D := (dC, dI)) (ci := 4) (v := .ref (A 7)) (C := RX4) (T := TX4) (N := 16) hx hb hts hiX4 hown hK hP 0 rfl rfl 6 (by decide) ww0 (fun _ h9 => h9) rfl dX4_blockSince_11 ?_
        refine lv_iload_n hx hb dX4_blockSince_14 rfl (lv_at hl 3 rfl) ?_
        obtain ⟨g15, hv, hf⟩ := ob_bind hf
        refine kg_iald hx hb hK hP 7 0 rfl rfl hv dX4_blockSince_15 ?_
        obtain ⟨g16, hc, hf⟩ := ob_bind hf
        have hPc : va_P (dC, dI) vwCl (wWb cI cJ A x) s.heap := hP
        refine kg_retRi (va_runV (As := [.int g15]) (rest := []) ⟨hx, hb, hml, hown, hts⟩ (c_X4_isBridge l dC dI cI cJ A s.heap x g15 _ hc) (cwV 1 hts (gw_V wd_6_6 wd_11_12 wd_6_4 wd_6_5 wd_1_14) rfl rfl rfl qX4_isBridge ⟨Nat.le_of_ble_eq_true rfl, Nat.le_of_ble_eq_true rfl⟩) (kg_preVR (ci := 4) (q := (RX4, TX4, 16)) (q0 := 0) hPc hK hN rfl rfl) rfl rfl hl.1 rfl (lv_room (Nat.le_of_ble_eq_true rfl)) dX4_blockSince_16 ⟨Nat.zero_le _, Nat.zero_le _⟩) ?_
        refine kg_b_eq (tgt := 24) hx hb hf dX4_blockSince_19 (by decide) (fun hc hf => ?_) (fun hc hf => ?_)
        · refine lv_iload_n hx hb dX4_blockSince_24 rfl (lv_at hl 2 rfl) ?_
          refine lv_aload_n hx hb dX4_blockSince_25 rfl (lv_at hl 0 rfl) ?_
          refine va_get (D := (dC, dI)) (ci := 4) (v := .ref (A 3)) (C := RX4) (T := TX4) (N := 16) hx hb hts hiX4 hown hK hP 0 rfl rfl 2 (by decide) ww1 (fun _ h9 => h9) rfl dX4_blockSince_26 ?_
          refine lv_aload_n hx hb dX4_blockSince_29 rfl (lv_at hl 0 rfl) ?_
          refine va_get (D := (dC, dI)) (ci := 4) (v := .ref (A 7)) (C := RX4) (T := TX4) (N := 16) hx hb hts hiX4 hown hK hP 0 rfl rfl 6 (by decide) ww0 (fun _ h9 => h9) rfl dX4_blockSince_30 ?_
          refine lv_iload_n hx hb dX4_blockSince_33 rfl (lv_at hl 3 rfl) ?_
          obtain ⟨g34, hv, hf⟩ := ob_bind hf
          refine kg_iald hx hb hK hP 7 0 rfl rfl hv dX4_blockSince_34 ?_
          obtain ⟨g35, hv, hf⟩ := ob_bind hf
          refine kg_iald hx hb hK hP 3 0 rfl rfl hv dX4_blockSince_35 ?_
          refine va_mmax hx hb (by rw [hml]; exact hl.1.symm) hown ww2 ww3 ww4 ww5 (Nat.le_of_ble_eq_true rfl) (Nat.le_of_ble_eq_true rfl) (Nat.zero_le _) (Nat.zero_le _) dX4_blockSince_36 ?_
          refine lv_istore_n (lv' := [(2, .int (if v2 < g35 then g35 else v2)), (0, .ref (A 0)), (1, .int v1), (3, .int v3)]) hx hb dX4_blockSince_39 rfl hl (by decide) rfl (fun ls hl => ?_)
          refine lv_iinc (v := (v3 + 1)) (lv' := [(3, .int (v3 + 1)), (2, .int (if v2 < g35 then g35 else v2)), (0, .ref (A 0)), (1, .int v1)]) hx hb dX4_blockSince_40 hl (k := 3) rfl rfl (by decide) rfl (fun ls hl => ?_)
          refine lv_goto (tgt := 4) hx hb dX4_blockSince_43 (by decide) ?_
          obtain rfl := Option.some.inj hf
          exact ih1 (if v2 < g35 then g35 else v2) (v3 + 1) hk1 _ (lv_sub hl [2, 3, 1, 0] rfl)
        · obtain ⟨qq, hf, hqq⟩ := omap_some hf
          have hkq : qq = r0 := by rw [← hqq] at hk1; exact hk1
          rw [hkq] at hf
          clear hkq hqq
          refine lv_iconst (v := (-1)) hx hb dX4_blockSince_22 (by decide) ?_
          obtain rfl := Option.some.inj hf
          exact kg_iretR hx hb hr hlk rfl dX4_blockSince_23
  exact hlp4  FU (-1) 0 hf _ (lv_sub hl [2, 3, 1, 0] rfl)
set_option maxHeartbeats 4000000 in
set_option maxRecDepth 100000 in
theorem c_X4_ringSince (l : Launch) (dC : Nat → ClassId) (dI : Nat → Nat → Nat) (cI cJ : ClassId) (A : Nat → Nat) (hq : Heap) (x : WbS) (v1 : Int32) (r0 : Int32) (hf : Wb_m_ringSince x v1 = some r0) : MRi l yX4_ringSince (wAll yX4_ringSince cX4_ringSince 5 (some .int)) ({ frames := 3, cells := 0, slots := 0, locals := 89 } : Room) [.ref (A 0), .int v1] hq (dC, dI) (vTy cI cJ) (wWb cI cJ A x) r0 := by
  refine kg_metR (cc := cX4_ringSince) (maxL := 5) (ret := (some .int)) (by decide) rfl (Nat.le_of_ble_eq_true rfl) ?_
  intro p e s m args below meth c hx hb hr hts hown hlk hml hH hP hK hN ls hl
  subst hH
  have hl : lv_has ls 5 [(0, .ref (A 0)), (1, .int v1)] := hl
  have ww0 := hts (.fieldLink RX4 45 "SafeBlocks$Web" "parts" "LSafeBlocks$Names;") (List.mem_cons_of_mem _ wd_2_23)
  have ww1 := hts (.fieldLink RX4 30 "SafeBlocks$Web" "wayLink" "[I") (List.mem_cons_of_mem _ wd_2_17)
  have ww2 := hts (.methodLink RX4 126 Lib.Math.max.name) (List.mem_cons_of_mem _ wd_34_14)
  have ww3 := hts (.static Lib.Math.max.name) (List.mem_cons_of_mem _ wd_14_7)
  have ww4 := hts (.initialized "java/lang/Math") (List.mem_cons_of_mem _ wd_14_8)
  have ww5 := hts (.code Lib.Math.max.name Lib.Math.max.code 2 (some .int)) (List.mem_cons_of_mem _ wd_14_9)
  have hiX4 : ∀ w ∈ u_ws RX4 TX4 16, w ∈ wAll yX4_ringSince cX4_ringSince 5 (some .int) := fun w h => List.mem_cons_of_mem _ (inlX4 w h)
  unfold Wb_m_ringSince at hf
  refine lv_iload_n hx hb dX4_ringSince_0 rfl (lv_at hl 1 rfl) ?_
  refine lv_iconst (v := 1) hx hb dX4_ringSince_1 (by decide) ?_
  refine kg_icmp_ne (tgt := 11) hx hb hf dX4_ringSince_2 (by decide) (fun hc hf => ?_) (fun hc hf => ?_)
  · refine lv_iconst (v := (-1)) hx hb dX4_ringSince_11 (by decide) ?_
    refine lv_istore_n (lv' := [(2, .int (-1)), (0, .ref (A 0)), (1, .int v1)]) hx hb dX4_ringSince_12 rfl hl (by decide) rfl (fun ls hl => ?_)
    refine lv_iconst (v := 1) hx hb dX4_ringSince_13 (by decide) ?_
    refine lv_istore_n (lv' := [(3, .int 1), (2, .int (-1)), (0, .ref (A 0)), (1, .int v1)]) hx hb dX4_ringSince_14 rfl hl (by decide) rfl (fun ls hl => ?_)
    have hlp15 : ∀ (n : Nat) (v2 : Int32) (v3 : Int32), iter (fun p : Int32 × Int32 => Wb_m_ringSince_s15 x v1 p.1 p.2) n (v2, v3) = some r0 → ∀ (ls : Array Slot), lv_has ls 5 [(0, .ref (A 0)), (1, .int v1), (2, .int v2), (3, .int v3)] → W p l e ({ frames := 3, cells := 0, slots := 0, locals := 89 } : Room) s m args below meth c s.heap [] 0 0 (MQ below (QRi s.heap r0) args s 0 0 NoA) (F0 m 15 ls []) := by
      intro  n
      induction n with
      | zero => intro v2 v3 hf; exact iter_zero hf
      | succ n ih1 =>
        intro v2 v3 hf ls hl
        obtain ⟨q1, hf, hk1⟩ := iter_succ hf
        have hf : Wb_m_ringSince_s15 x v1 v2 v3 = some q1 := hf
        unfold Wb_m_ringSince_s15 at hf
        refine lv_iload_n hx hb dX4_ringSince_15 rfl (lv_at hl 3 rfl) ?_
        refine lv_iload_n hx hb dX4_ringSince_16 rfl (lv_at hl 1 rfl) ?_
        refine kg_icmp_ge (tgt := 64) hx hb hf dX4_ringSince_17 (by decide) (fun hc hf => ?_) (fun hc hf => ?_)
        · obtain ⟨qq, hf, hqq⟩ := omap_some hf
          have hkq : qq = r0 := by rw [← hqq] at hk1; exact hk1
          rw [hkq] at hf
          clear hkq hqq
          refine lv_iload_n hx hb dX4_ringSince_64 rfl (lv_at hl 2 rfl) ?_
          refine lv_iconst (v := 1) hx hb dX4_ringSince_65 (by decide) ?_
          refine lv_iadd hx hb dX4_ringSince_66 ?_
          obtain rfl := Option.some.inj hf
          exact kg_iretR hx hb hr hlk rfl dX4_ringSince_67
        · refine lv_aload_n hx hb dX4_ringSince_20 rfl (lv_at hl 0 rfl) ?_
          refine va_get (D := (dC, dI)) (ci := 4) (v := .ref (A 18)) (C := RX4) (T := TX4) (N := 16) hx hb hts hiX4 hown hK hP 0 rfl rfl 9 (by decide) ww0 (fun _ h9 => h9) rfl dX4_ringSince_21 ?_
          refine lv_aload_n hx hb dX4_ringSince_24 rfl (lv_at hl 0 rfl) ?_
          refine va_get (D := (dC, dI)) (ci := 4) (v := .ref (A 7)) (C := RX4) (T := TX4) (N := 16) hx hb hts hiX4 hown hK hP 0 rfl rfl 6 (by decide) ww1 (fun _ h9 => h9) rfl dX4_ringSince_25 ?_
          refine lv_iload_n hx hb dX4_ringSince_28 rfl (lv_at hl 3 rfl) ?_
          refine lv_iconst (v := 1) hx hb dX4_ringSince_29 (by decide) ?_
          refine lv_isub hx hb dX4_ringSince_30 ?_
          obtain ⟨g31, hv, hf⟩ := ob_bind hf
          refine kg_iald hx hb hK hP 7 0 rfl rfl hv dX4_ringSince_31 ?_
          refine lv_aload_n hx hb dX4_ringSince_32 rfl (lv_at hl 0 rfl) ?_
          refine va_get (D := (dC, dI)) (ci := 4) (v := .ref (A 7)) (C := RX4) (T := TX4) (N := 16) hx hb hts hiX4 hown hK hP 0 rfl rfl 6 (by decide) ww1 (fun _ h9 => h9) rfl dX4_ringSince_33 ?_
          refine lv_iload_n hx hb dX4_ringSince_36 rfl (lv_at hl 3 rfl) ?_
          obtain ⟨g37, hv, hf⟩ := ob_bind hf
          refine kg_iald hx hb hK hP 7 0 rfl rfl hv dX4_ringSince_37 ?_
          obtain ⟨g38, hc, hf⟩ := ob_bind hf
          have hPc : va_P (dC, dI) vwCl (wNm cI cJ 64 (fun i => A (i + 18)) (Wb_parts x)) s.heap := hP.sub [18, 19, 20, 21, 22] rfl
          refine kg_retRi (va_runV (As := [.int g31, .int g37]) (rest := []) ⟨hx, hb, hml, hown, hts⟩ (c_X1_meeting l dC dI cI cJ (fun i => A (i + 18)) s.heap 64 (Wb_parts x) g31 g37 _ hc) (cwV 2 hts (gw_V wd_35_3 wd_35_0 wd_35_1 wd_35_2 wd_2_20) rfl rfl rfl qX1_meeting ⟨Nat.le_of_ble_eq_true rfl, Nat.le_of_ble_eq_true rfl⟩) (kg_preVR (ci := 1) (q := (RX1, TX1, 6)) (q0 := 0) hPc hK hN rfl rfl) rfl rfl hl.1 rfl (lv_room (Nat.le_of_ble_eq_true rfl)) dX4_ringSince_38 ⟨Nat.zero_le _, Nat.zero_le _⟩) ?_
          refine lv_istore (lv' := [(4, .int g38), (0, .ref (A 0)), (1, .int v1), (2, .int v2), (3, .int v3)]) hx hb dX4_ringSince_41 hl (by decide) rfl (fun ls hl => ?_)
          refine lv_iload hx hb dX4_ringSince_43 (lv_at hl 0 rfl) ?_
          refine lv_iconst (v := (-1)) hx hb dX4_ringSince_45 (by decide) ?_
          refine kg_icmp_ne (tgt := 51) hx hb hf dX4_ringSince_46 (by decide) (fun hc hf => ?_) (fun hc hf => ?_)
          · refine lv_iload_n hx hb dX4_ringSince_51 rfl (lv_at hl 3 rfl) ?_
            refine lv_iload hx hb dX4_ringSince_52 (lv_at hl 0 rfl) ?_
            refine va_mmax hx hb (by rw [hml]; exact hl.1.symm) hown ww2 ww3 ww4 ww5 (Nat.le_of_ble_eq_true rfl) (Nat.le_of_ble_eq_true rfl) (Nat.zero_le _) (Nat.zero_le _) dX4_ringSince_54 ?_
            refine lv_istore_n (lv' := [(2, .int (if v2 < g38 then g38 else v2)), (4, .int g38), (0, .ref (A 0)), (1, .int v1), (3, .int v3)]) hx hb dX4_ringSince_57 rfl hl (by decide) rfl (fun ls hl => ?_)
            refine lv_iinc (v := (v3 + 1)) (lv' := [(3, .int (v3 + 1)), (2, .int (if v2 < g38 then g38 else v2)), (4, .int g38), (0, .ref (A 0)), (1, .int v1)]) hx hb dX4_ringSince_58 hl (k := 4) rfl rfl (by decide) rfl (fun ls hl => ?_)
            refine lv_goto (tgt := 15) hx hb dX4_ringSince_61 (by decide) ?_
            obtain rfl := Option.some.inj hf
            exact ih1 (if v2 < g38 then g38 else v2) (v3 + 1) hk1 _ (lv_sub hl [3, 4, 1, 0] rfl)
          · obtain ⟨qq, hf, hqq⟩ := omap_some hf
            have hkq : qq = r0 := by rw [← hqq] at hk1; exact hk1
            rw [hkq] at hf
            clear hkq hqq
            refine lv_iconst (v := (-1)) hx hb dX4_ringSince_49 (by decide) ?_
            obtain rfl := Option.some.inj hf
            exact kg_iretR hx hb hr hlk rfl dX4_ringSince_50
    exact hlp15  FU (-1) 1 hf _ (lv_sub hl [2, 3, 1, 0] rfl)
  · refine lv_aload_n hx hb dX4_ringSince_5 rfl (lv_at hl 0 rfl) ?_
    refine lv_iload_n hx hb dX4_ringSince_6 rfl (lv_at hl 1 rfl) ?_
    obtain ⟨g7, hc, hf⟩ := ob_bind hf
    have hPc : va_P (dC, dI) vwCl (wWb cI cJ A x) s.heap := hP
    refine kg_retRi (va_runV (As := [.int v1]) (rest := []) ⟨hx, hb, hml, hown, hts⟩ (c_X4_blockSince l dC dI cI cJ A s.heap x v1 _ hc) (cwV 1 hts (gw_V wd_34_18 wd_34_23 wd_34_16 wd_34_17 wd_1_14) rfl rfl rfl qX4_blockSince ⟨Nat.le_of_ble_eq_true rfl, Nat.le_of_ble_eq_true rfl⟩) (kg_preVR (ci := 4) (q := (RX4, TX4, 16)) (q0 := 0) hPc hK hN rfl rfl) rfl rfl hl.1 rfl (lv_room (Nat.le_of_ble_eq_true rfl)) dX4_ringSince_7 ⟨Nat.zero_le _, Nat.zero_le _⟩) ?_
    obtain rfl := Option.some.inj hf
    exact kg_iretR hx hb hr hlk rfl dX4_ringSince_10
