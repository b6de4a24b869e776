set_option maxHeartbeats 4000000 in
set_option maxRecDepth 100000 in
theorem c_X6_isIn (l : Launch) (dC : Nat → ClassId) (dI : Nat → Nat → Nat) (cI cJ : ClassId) (A : Nat → Nat) (hq : Heap) (x : MdS) (v1 : Int64) (v3 : Int64) (v5 : Int64) (r0 : Bool) (hf : Md_m_isIn x v1 v3 v5 = some r0) : MRi l yX6_isIn (wAll yX6_isIn cX6_isIn 7 (some .boolean)) ({ frames := 1, cells := 0, slots := 0, locals := 40 } : Room) [.ref (A 0), .long v1, .long v3, .long v5] hq (dC, dI) (vTy cI cJ) (wMd cI cJ A x) (b2i r0) := by
  refine kg_metR (cc := cX6_isIn) (maxL := 7) (ret := (some .boolean)) (by decide) rfl (Nat.le_of_ble_eq_true rfl) ?_
  intro p e s m args below meth c hx hb hr hts hown hlk hml hH hP hK hN ls hl
  subst hH
  have hl : lv_has ls 7 [(0, .ref (A 0)), (1, .long v1), (3, .long v3), (5, .long v5)] := hl
  unfold Md_m_isIn at hf
  refine lv_lload_n hx hb dX6_isIn_0 rfl (lv_at hl 1 rfl) ?_
  refine lv_lload_n hx hb dX6_isIn_1 rfl (lv_at hl 2 rfl) ?_
  refine W.lcmp hx hb dX6_isIn_2 ?_
  refine kg_if_lt (tgt := 17) hx hb hf dX6_isIn_3 (by decide) (fun hc hf => ?_) (fun hc hf => ?_)
  · refine lv_iconst (v := 0) hx hb dX6_isIn_17 (by decide) ?_
    obtain rfl := Option.some.inj hf
    exact kg_zretR (b := false) hx hb hr hlk rfl rfl dX6_isIn_18
  · refine lv_lload_n hx hb dX6_isIn_6 rfl (lv_at hl 1 rfl) ?_
    refine lv_lload hx hb dX6_isIn_7 (lv_at hl 3 rfl) ?_
    refine W.lcmp hx hb dX6_isIn_9 ?_
    refine kg_if_gt (tgt := 17) hx hb hf dX6_isIn_10 (by decide) (fun hc hf => ?_) (fun hc hf => ?_)
    · refine lv_iconst (v := 0) hx hb dX6_isIn_17 (by decide) ?_
      obtain rfl := Option.some.inj hf
      exact kg_zretR (b := false) hx hb hr hlk rfl rfl dX6_isIn_18
    · refine lv_iconst (v := 1) hx hb dX6_isIn_13 (by decide) ?_
      refine lv_goto (tgt := 18) hx hb dX6_isIn_14 (by decide) ?_
      obtain rfl := Option.some.inj hf
      exact kg_zretR (b := true) hx hb hr hlk rfl rfl dX6_isIn_18
set_option maxHeartbeats 4000000 in
set_option maxRecDepth 100000 in
theorem c_X6_has (l : Launch) (dC : Nat → ClassId) (dI : Nat → Nat → Nat) (cI cJ : ClassId) (A : Nat → Nat) (hq : Heap) (x : MdS) (v1 : Int32) (v2 : Int32) (r0 : Bool) (hf : Md_m_has x v1 v2 = some r0) : MRi l yX6_has (wAll yX6_has cX6_has 3 (some .boolean)) ({ frames := 1, cells := 0, slots := 0, locals := 40 } : Room) [.ref (A 0), .int v1, .int v2] hq (dC, dI) (vTy cI cJ) (wMd cI cJ A x) (b2i r0) := by
  refine kg_metR (cc := cX6_has) (maxL := 3) (ret := (some .boolean)) (by decide) rfl (Nat.le_of_ble_eq_true rfl) ?_
  intro p e s m args below meth c hx hb hr hts hown hlk hml hH hP hK hN ls hl
  subst hH
  have hl : lv_has ls 3 [(0, .ref (A 0)), (1, .int v1), (2, .int v2)] := hl
  unfold Md_m_has at hf
  refine lv_iload_n hx hb dX6_has_0 rfl (lv_at hl 1 rfl) ?_
  refine lv_iload_n hx hb dX6_has_1 rfl (lv_at hl 2 rfl) ?_
  refine lv_ishr hx hb dX6_has_2 ?_
  refine lv_iconst (v := 1) hx hb dX6_has_3 (by decide) ?_
  refine lv_iand hx hb dX6_has_4 ?_
  refine lv_iconst (v := 1) hx hb dX6_has_5 (by decide) ?_
  refine kg_icmp_ne (tgt := 13) hx hb hf dX6_has_6 (by decide) (fun hc hf => ?_) (fun hc hf => ?_)
  · refine lv_iconst (v := 0) hx hb dX6_has_13 (by decide) ?_
    obtain rfl := Option.some.inj hf
    exact kg_zretR (b := false) hx hb hr hlk rfl rfl dX6_has_14
  · refine lv_iconst (v := 1) hx hb dX6_has_9 (by decide) ?_
    refine lv_goto (tgt := 14) hx hb dX6_has_10 (by decide) ?_
    obtain rfl := Option.some.inj hf
    exact kg_zretR (b := true) hx hb hr hlk rfl rfl dX6_has_14
set_option maxHeartbeats 4000000 in
set_option maxRecDepth 100000 in
theorem c_X6_isNode (l : Launch) (dC : Nat → ClassId) (dI : Nat → Nat → Nat) (cI cJ : ClassId) (A : Nat → Nat) (hq : Heap) (x : MdS) (v1 : Int32) (r0 : Bool) (hf : Md_m_isNode x v1 = some r0) : MRi l yX6_isNode (wAll yX6_isNode cX6_isNode 2 (some .boolean)) ({ frames := 2, cells := 0, slots := 0, locals := 66 } : Room) [.ref (A 0), .int v1] hq (dC, dI) (vTy cI cJ) (wMd cI cJ A x) (b2i r0) := by
  refine kg_metR (cc := cX6_isNode) (maxL := 2) (ret := (some .boolean)) (by decide) rfl (Nat.le_of_ble_eq_true rfl) ?_
  intro p e s m args below meth c hx hb hr hts hown hlk hml hH hP hK hN ls hl
  subst hH
  have hl : lv_has ls 2 [(0, .ref (A 0)), (1, .int v1)] := hl
  have ww0 := hts (.fieldLink RX6 7 "SafeBlocksModel" "n" "I") (List.mem_cons_of_mem _ wd_7_23)
  have hiX6 : ∀ w ∈ u_ws RX6 TX6 30, w ∈ wAll yX6_isNode cX6_isNode 2 (some .boolean) := fun w h => List.mem_cons_of_mem _ (inlX6 w h)
  unfold Md_m_isNode at hf
  refine lv_aload_n hx hb dX6_isNode_0 rfl (lv_at hl 0 rfl) ?_
  refine lv_iload_n hx hb dX6_isNode_1 rfl (lv_at hl 1 rfl) ?_
  refine lv_i2l hx hb dX6_isNode_2 rfl ?_
  refine lv_lconst (v := 0) hx hb dX6_isNode_3 (by decide) ?_
  refine lv_aload_n hx hb dX6_isNode_4 rfl (lv_at hl 0 rfl) ?_
  refine va_get (D := (dC, dI)) (ci := 6) (v := .int (Md_n x)) (C := RX6) (T := TX6) (N := 30) hx hb hts hiX6 hown hK hP 0 rfl rfl 1 (by decide) ww0 (fun _ h9 => h9) rfl dX6_isNode_5 ?_
  refine lv_i2l hx hb dX6_isNode_8 rfl ?_
  refine lv_lconst (v := 1) hx hb dX6_isNode_9 (by decide) ?_
  refine lv_lsub hx hb dX6_isNode_10 ?_
  obtain ⟨g11, hc, hf⟩ := ob_bind hf
  have hPc : va_P (dC, dI) vwCl (wMd cI cJ A x) s.heap := hP
  refine kg_retRi (va_runV (As := [.long ((v1 : Int32).toInt64), .long 0, .long ((((Md_n x) : Int32).toInt64) - 1)]) (rest := []) ⟨hx, hb, hml, hown, hts⟩ (c_X6_isIn l dC dI cI cJ A s.heap x ((v1 : Int32).toInt64) 0 ((((Md_n x) : Int32).toInt64) - 1) _ hc) (cwV 3 hts (gw_V wd_9_10 wd_9_7 wd_9_8 wd_9_9 wd_1_5) rfl rfl rfl qX6_isIn ⟨Nat.le_of_ble_eq_true rfl, Nat.le_of_ble_eq_true rfl⟩) (kg_preVR (ci := 6) (q := (RX6, TX6, 30)) (q0 := 0) hPc hK hN rfl rfl) rfl rfl hl.1 rfl (lv_room (Nat.le_of_ble_eq_true rfl)) dX6_isNode_11 ⟨Nat.zero_le _, Nat.zero_le _⟩) ?_
  obtain rfl := Option.some.inj hf
  exact kg_zretR (b := g11) hx hb hr hlk rfl rfl dX6_isNode_14
set_option maxHeartbeats 4000000 in
set_option maxRecDepth 100000 in
theorem c_X6_isLink (l : Launch) (dC : Nat → ClassId) (dI : Nat → Nat → Nat) (cI cJ : ClassId) (A : Nat → Nat) (hq : Heap) (x : MdS) (v1 : Int32) (r0 : Bool) (hf : Md_m_isLink x v1 = some r0) : MRi l yX6_isLink (wAll yX6_isLink cX6_isLink 2 (some .boolean)) ({ frames := 2, cells := 0, slots := 0, locals := 66 } : Room) [.ref (A 0), .int v1] hq (dC, dI) (vTy cI cJ) (wMd cI cJ A x) (b2i r0) := by
  refine kg_metR (cc := cX6_isLink) (maxL := 2) (ret := (some .boolean)) (by decide) rfl (Nat.le_of_ble_eq_true rfl) ?_
  intro p e s m args below meth c hx hb hr hts hown hlk hml hH hP hK hN ls hl
  subst hH
  have hl : lv_has ls 2 [(0, .ref (A 0)), (1, .int v1)] := hl
  have ww0 := hts (.fieldLink RX6 78 "SafeBlocksModel" "m" "I") (List.mem_cons_of_mem _ wd_9_6)
  have hiX6 : ∀ w ∈ u_ws RX6 TX6 30, w ∈ wAll yX6_isLink cX6_isLink 2 (some .boolean) := fun w h => List.mem_cons_of_mem _ (inlX6 w h)
  unfold Md_m_isLink at hf
  refine lv_aload_n hx hb dX6_isLink_0 rfl (lv_at hl 0 rfl) ?_
  refine lv_iload_n hx hb dX6_isLink_1 rfl (lv_at hl 1 rfl) ?_
  refine lv_i2l hx hb dX6_isLink_2 rfl ?_
  refine lv_lconst (v := 0) hx hb dX6_isLink_3 (by decide) ?_
  refine lv_aload_n hx hb dX6_isLink_4 rfl (lv_at hl 0 rfl) ?_
  refine va_get (D := (dC, dI)) (ci := 6) (v := .int (Md_m x)) (C := RX6) (T := TX6) (N := 30) hx hb hts hiX6 hown hK hP 0 rfl rfl 2 (by decide) ww0 (fun _ h9 => h9) rfl dX6_isLink_5 ?_
  refine lv_i2l hx hb dX6_isLink_8 rfl ?_
  refine lv_lconst (v := 1) hx hb dX6_isLink_9 (by decide) ?_
  refine lv_lsub hx hb dX6_isLink_10 ?_
  obtain ⟨g11, hc, hf⟩ := ob_bind hf
  have hPc : va_P (dC, dI) vwCl (wMd cI cJ A x) s.heap := hP
  refine kg_retRi (va_runV (As := [.long ((v1 : Int32).toInt64), .long 0, .long ((((Md_m x) : Int32).toInt64) - 1)]) (rest := []) ⟨hx, hb, hml, hown, hts⟩ (c_X6_isIn l dC dI cI cJ A s.heap x ((v1 : Int32).toInt64) 0 ((((Md_m x) : Int32).toInt64) - 1) _ hc) (cwV 3 hts (gw_V wd_9_10 wd_9_7 wd_9_8 wd_9_9 wd_1_5) rfl rfl rfl qX6_isIn ⟨Nat.le_of_ble_eq_true rfl, Nat.le_of_ble_eq_true rfl⟩) (kg_preVR (ci := 6) (q := (RX6, TX6, 30)) (q0 := 0) hPc hK hN rfl rfl) rfl rfl hl.1 rfl (lv_room (Nat.le_of_ble_eq_true rfl)) dX6_isLink_11 ⟨Nat.zero_le _, Nat.zero_le _⟩) ?_
  obtain rfl := Option.some.inj hf
  exact kg_zretR (b := g11) hx hb hr hlk rfl rfl dX6_isLink_14
set_option maxHeartbeats 4000000 in
set_option maxRecDepth 100000 in
theorem c_X6_areTwo (l : Launch) (dC : Nat → ClassId) (dI : Nat → Nat → Nat) (cI cJ : ClassId) (A : Nat → Nat) (hq : Heap) (x : MdS) (v1 : Int32) (v2 : Int32) (r0 : Bool) (hf : Md_m_areTwo x v1 v2 = some r0) : MRi l yX6_areTwo (wAll yX6_areTwo cX6_areTwo 3 (some .boolean)) ({ frames := 3, cells := 0, slots := 0, locals := 87 } : Room) [.ref (A 0), .int v1, .int v2] hq (dC, dI) (vTy cI cJ) (wMd cI cJ A x) (b2i r0) := by
  refine kg_metR (cc := cX6_areTwo) (maxL := 3) (ret := (some .boolean)) (by decide) rfl (Nat.le_of_ble_eq_true rfl) ?_
  intro p e s m args below meth c hx hb hr hts hown hlk hml hH hP hK hN ls hl
  subst hH
  have hl : lv_has ls 3 [(0, .ref (A 0)), (1, .int v1), (2, .int v2)] := hl
  unfold Md_m_areTwo at hf
  refine lv_aload_n hx hb dX6_areTwo_0 rfl (lv_at hl 0 rfl) ?_
  refine lv_iload_n hx hb dX6_areTwo_1 rfl (lv_at hl 1 rfl) ?_
  obtain ⟨g2, hc, hf⟩ := ob_bind hf
  have hPc : va_P (dC, dI) vwCl (wMd cI cJ A x) s.heap := hP
  refine kg_retRi (va_runV (As := [.int v1]) (rest := []) ⟨hx, hb, hml, hown, hts⟩ (c_X6_isNode l dC dI cI cJ A s.heap x v1 _ hc) (cwV 1 hts (gw_V wd_12_13 wd_12_10 wd_12_11 wd_12_12 wd_1_5) rfl rfl rfl qX6_isNode ⟨Nat.le_of_ble_eq_true rfl, Nat.le_of_ble_eq_true rfl⟩) (kg_preVR (ci := 6) (q := (RX6, TX6, 30)) (q0 := 0) hPc hK hN rfl rfl) rfl rfl hl.1 rfl (lv_room (Nat.le_of_ble_eq_true rfl)) dX6_areTwo_2 ⟨Nat.zero_le _, Nat.zero_le _⟩) ?_
  refine kg_b_eq (tgt := 25) hx hb hf dX6_areTwo_5 (by decide) (fun hc hf => ?_) (fun hc hf => ?_)
  · refine lv_iconst (v := 0) hx hb dX6_areTwo_25 (by decide) ?_
    obtain rfl := Option.some.inj hf
    exact kg_zretR (b := false) hx hb hr hlk rfl rfl dX6_areTwo_26
  · refine lv_aload_n hx hb dX6_areTwo_8 rfl (lv_at hl 0 rfl) ?_
    refine lv_iload_n hx hb dX6_areTwo_9 rfl (lv_at hl 2 rfl) ?_
    obtain ⟨g10, hc, hf⟩ := ob_bind hf
    have hPc : va_P (dC, dI) vwCl (wMd cI cJ A x) s.heap := hP
    refine kg_retRi (va_runV (As := [.int v2]) (rest := []) ⟨hx, hb, hml, hown, hts⟩ (c_X6_isNode l dC dI cI cJ A s.heap x v2 _ hc) (cwV 1 hts (gw_V wd_12_13 wd_12_10 wd_12_11 wd_12_12 wd_1_5) rfl rfl rfl qX6_isNode ⟨Nat.le_of_ble_eq_true rfl, Nat.le_of_ble_eq_true rfl⟩) (kg_preVR (ci := 6) (q := (RX6, TX6, 30)) (q0 := 0) hPc hK hN rfl rfl) rfl rfl hl.1 rfl (lv_room (Nat.le_of_ble_eq_true rfl)) dX6_areTwo_10 ⟨Nat.zero_le _, Nat.zero_le _⟩) ?_
    refine kg_b_eq (tgt := 25) hx hb hf dX6_areTwo_13 (by decide) (fun hc hf => ?_) (fun hc hf => ?_)
    · refine lv_iconst (v := 0) hx hb dX6_areTwo_25 (by decide) ?_
      obtain rfl := Option.some.inj hf
      exact kg_zretR (b := false) hx hb hr hlk rfl rfl dX6_areTwo_26
    · refine lv_iload_n hx hb dX6_areTwo_16 rfl (lv_at hl 1 rfl) ?_
      refine lv_iload_n hx hb dX6_areTwo_17 rfl (lv_at hl 2 rfl) ?_
      refine kg_icmp_eq (tgt := 25) hx hb hf dX6_areTwo_18 (by decide) (fun hc hf => ?_) (fun hc hf => ?_)
      · refine lv_iconst (v := 0) hx hb dX6_areTwo_25 (by decide) ?_
        obtain rfl := Option.some.inj hf
        exact kg_zretR (b := false) hx hb hr hlk rfl rfl dX6_areTwo_26
      · refine lv_iconst (v := 1) hx hb dX6_areTwo_21 (by decide) ?_
        refine lv_goto (tgt := 26) hx hb dX6_areTwo_22 (by decide) ?_
        obtain rfl := Option.some.inj hf
        exact kg_zretR (b := true) hx hb hr hlk rfl rfl dX6_areTwo_26
set_option maxHeartbeats 4000000 in
set_option maxRecDepth 100000 in
theorem c_X6_blockAt (l : Launch) (dC : Nat → ClassId) (dI : Nat → Nat → Nat) (cI cJ : ClassId) (A : Nat → Nat) (hq : Heap) (x : MdS) (v1 : Int32) (r0 : Int32) (hf : Md_m_blockAt x v1 = some r0) : MRi l yX6_blockAt (wAll yX6_blockAt cX6_blockAt 2 (some .int)) ({ frames := 1, cells := 0, slots := 0, locals := 40 } : Room) [.ref (A 0), .int v1] hq (dC, dI) (vTy cI cJ) (wMd cI cJ A x) r0 := by
  refine kg_metR (cc := cX6_blockAt) (maxL := 2) (ret := (some .int)) (by decide) rfl (Nat.le_of_ble_eq_true rfl) ?_
  intro p e s m args below meth c hx hb hr hts hown hlk hml hH hP hK hN ls hl
  subst hH
  have hl : lv_has ls 2 [(0, .ref (A 0)), (1, .int v1)] := hl
  have ww0 := hts (.fieldLink RX6 23 "SafeBlocksModel" "nameOf" "[I") (List.mem_cons_of_mem _ wd_8_3)
  have hiX6 : ∀ w ∈ u_ws RX6 TX6 30, w ∈ wAll yX6_blockAt cX6_blockAt 2 (some .int) := fun w h => List.mem_cons_of_mem _ (inlX6 w h)
  unfold Md_m_blockAt at hf
  refine lv_aload_n hx hb dX6_blockAt_0 rfl (lv_at hl 0 rfl) ?_
  refine va_get (D := (dC, dI)) (ci := 6) (v := .ref (A 3)) (C := RX6) (T := TX6) (N := 30) hx hb hts hiX6 hown hK hP 0 rfl rfl 7 (by decide) ww0 (fun _ h9 => h9) rfl dX6_blockAt_1 ?_
  refine lv_iload_n hx hb dX6_blockAt_4 rfl (lv_at hl 1 rfl) ?_
  obtain ⟨g5, hv, hf⟩ := ob_bind hf
  refine kg_iald hx hb hK hP 3 0 rfl rfl hv dX6_blockAt_5 ?_
  obtain rfl := Option.some.inj hf
  exact kg_iretR hx hb hr hlk rfl dX6_blockAt_6
set_option maxHeartbeats 4000000 in
set_option maxRecDepth 100000 in
theorem c_X6_landOf (l : Launch) (dC : Nat → ClassId) (dI : Nat → Nat → Nat) (cI cJ : ClassId) (A : Nat → Nat) (hq : Heap) (x : MdS) (v1 : Int32) (r0 : Int32) (hf : Md_m_landOf x v1 = some r0) : MRi l yX6_landOf (wAll yX6_landOf cX6_landOf 2 (some .int)) ({ frames := 1, cells := 0, slots := 0, locals := 40 } : Room) [.ref (A 0), .int v1] hq (dC, dI) (vTy cI cJ) (wMd cI cJ A x) r0 := by
  refine kg_metR (cc := cX6_landOf) (maxL := 2) (ret := (some .int)) (by decide) rfl (Nat.le_of_ble_eq_true rfl) ?_
  intro p e s m args below meth c hx hb hr hts hown hlk hml hH hP hK hN ls hl
  subst hH
  have hl : lv_has ls 2 [(0, .ref (A 0)), (1, .int v1)] := hl
  have ww0 := hts (.fieldLink RX6 23 "SafeBlocksModel" "nameOf" "[I") (List.mem_cons_of_mem _ wd_8_3)
  have hiX6 : ∀ w ∈ u_ws RX6 TX6 30, w ∈ wAll yX6_landOf cX6_landOf 2 (some .int) := fun w h => List.mem_cons_of_mem _ (inlX6 w h)
  unfold Md_m_landOf at hf
  refine lv_aload_n hx hb dX6_landOf_0 rfl (lv_at hl 0 rfl) ?_
  refine va_get (D := (dC, dI)) (ci := 6) (v := .ref (A 3)) (C := RX6) (T := TX6) (N := 30) hx hb hts hiX6 hown hK hP 0 rfl rfl 7 (by decide) ww0 (fun _ h9 => h9) rfl dX6_landOf_1 ?_
  refine lv_bipush (v := 32) hx hb dX6_landOf_4 (by decide) ?_
  refine lv_iload_n hx hb dX6_landOf_6 rfl (lv_at hl 1 rfl) ?_
  refine lv_iadd hx hb dX6_landOf_7 ?_
  obtain ⟨g8, hv, hf⟩ := ob_bind hf
  refine kg_iald hx hb hK hP 3 0 rfl rfl hv dX6_landOf_8 ?_
  obtain rfl := Option.some.inj hf
  exact kg_iretR hx hb hr hlk rfl dX6_landOf_9
set_option maxHeartbeats 4000000 in
set_option maxRecDepth 100000 in
theorem c_X6_sizeOf (l : Launch) (dC : Nat → ClassId) (dI : Nat → Nat → Nat) (cI cJ : ClassId) (A : Nat → Nat) (hq : Heap) (x : MdS) (v1 : Int32) (v2 : Int32) (r0 : Int32) (hf : Md_m_sizeOf x v1 v2 = some r0) : MRi l yX6_sizeOf (wAll yX6_sizeOf cX6_sizeOf 5 (some .int)) ({ frames := 1, cells := 0, slots := 0, locals := 40 } : Room) [.ref (A 0), .int v1, .int v2] hq (dC, dI) (vTy cI cJ) (wMd cI cJ A x) r0 := by
  refine kg_metR (cc := cX6_sizeOf) (maxL := 5) (ret := (some .int)) (by decide) rfl (Nat.le_of_ble_eq_true rfl) ?_
  intro p e s m args below meth c hx hb hr hts hown hlk hml hH hP hK hN ls hl
  subst hH
  have hl : lv_has ls 5 [(0, .ref (A 0)), (1, .int v1), (2, .int v2)] := hl
  have ww0 := hts (.fieldLink RX6 7 "SafeBlocksModel" "n" "I") (List.mem_cons_of_mem _ wd_7_23)
  have ww1 := hts (.fieldLink RX6 23 "SafeBlocksModel" "nameOf" "[I") (List.mem_cons_of_mem _ wd_8_3)
  have hiX6 : ∀ w ∈ u_ws RX6 TX6 30, w ∈ wAll yX6_sizeOf cX6_sizeOf 5 (some .int) := fun w h => List.mem_cons_of_mem _ (inlX6 w h)
  unfold Md_m_sizeOf at hf
  refine lv_iconst (v := 0) hx hb dX6_sizeOf_0 (by decide) ?_
  refine lv_istore_n (lv' := [(3, .int 0), (0, .ref (A 0)), (1, .int v1), (2, .int v2)]) hx hb dX6_sizeOf_1 rfl hl (by decide) rfl (fun ls hl => ?_)
  refine lv_iconst (v := 0) hx hb dX6_sizeOf_2 (by decide) ?_
  refine lv_istore (lv' := [(4, .int 0), (3, .int 0), (0, .ref (A 0)), (1, .int v1), (2, .int v2)]) hx hb dX6_sizeOf_3 hl (by decide) rfl (fun ls hl => ?_)
  have hlp5 : ∀ (n : Nat) (v3 : Int32) (v4 : Int32), iter (fun p : Int32 × Int32 => Md_m_sizeOf_s5 x v1 v2 p.1 p.2) n (v3, v4) = some r0 → ∀ (ls : Array Slot), lv_has ls 5 [(0, .ref (A 0)), (1, .int v1), (2, .int v2), (3, .int v3), (4, .int v4)] → W p l e ({ frames := 1, cells := 0, slots := 0, locals := 40 } : Room) s m args below meth c s.heap [] 0 0 (MQ below (QRi s.heap r0) args s 0 0 NoA) (F0 m 5 ls []) := by
    intro  n
    induction n with
    | zero => intro v3 v4 hf; exact iter_zero hf
    | succ n ih1 =>
      intro v3 v4 hf ls hl
      obtain ⟨q1, hf, hk1⟩ := iter_succ hf
      have hf : Md_m_sizeOf_s5 x v1 v2 v3 v4 = some q1 := hf
      unfold Md_m_sizeOf_s5 at hf
      refine lv_iload hx hb dX6_sizeOf_5 (lv_at hl 4 rfl) ?_
      refine lv_aload_n hx hb dX6_sizeOf_7 rfl (lv_at hl 0 rfl) ?_
      refine va_get (D := (dC, dI)) (ci := 6) (v := .int (Md_n x)) (C := RX6) (T := TX6) (N := 30) hx hb hts hiX6 hown hK hP 0 rfl rfl 1 (by decide) ww0 (fun _ h9 => h9) rfl dX6_sizeOf_8 ?_
      refine kg_icmp_ge (tgt := 40) hx hb hf dX6_sizeOf_11 (by decide) (fun hc hf => ?_) (fun hc hf => ?_)
      · obtain ⟨qq, hf, hqq⟩ := omap_some hf
        have hkq : qq = r0 := by rw [← hqq] at hk1; exact hk1
        rw [hkq] at hf
        clear hkq hqq
        refine lv_iload_n hx hb dX6_sizeOf_40 rfl (lv_at hl 3 rfl) ?_
        obtain rfl := Option.some.inj hf
        exact kg_iretR hx hb hr hlk rfl dX6_sizeOf_41
      · refine lv_aload_n hx hb dX6_sizeOf_14 rfl (lv_at hl 0 rfl) ?_
        refine va_get (D := (dC, dI)) (ci := 6) (v := .ref (A 3)) (C := RX6) (T := TX6) (N := 30) hx hb hts hiX6 hown hK hP 0 rfl rfl 7 (by decide) ww1 (fun _ h9 => h9) rfl dX6_sizeOf_15 ?_
        refine lv_bipush (v := 32) hx hb dX6_sizeOf_18 (by decide) ?_
        refine lv_iload_n hx hb dX6_sizeOf_20 rfl (lv_at hl 1 rfl) ?_
        refine lv_imul hx hb dX6_sizeOf_21 ?_
        refine lv_iload hx hb dX6_sizeOf_22 (lv_at hl 4 rfl) ?_
        refine lv_iadd hx hb dX6_sizeOf_24 ?_
        obtain ⟨g25, hv, hf⟩ := ob_bind hf
        refine kg_iald hx hb hK hP 3 0 rfl rfl hv dX6_sizeOf_25 ?_
        refine lv_iload_n hx hb dX6_sizeOf_26 rfl (lv_at hl 2 rfl) ?_
        refine kg_icmp_ne (tgt := 34) hx hb hf dX6_sizeOf_27 (by decide) (fun hc hf => ?_) (fun hc hf => ?_)
        · refine lv_iinc (v := (v4 + 1)) (lv' := [(4, .int (v4 + 1)), (0, .ref (A 0)), (1, .int v1), (2, .int v2), (3, .int v3)]) hx hb dX6_sizeOf_34 hl (k := 4) rfl rfl (by decide) rfl (fun ls hl => ?_)
          refine lv_goto (tgt := 5) hx hb dX6_sizeOf_37 (by decide) ?_
          obtain rfl := Option.some.inj hf
          exact ih1 v3 (v4 + 1) hk1 _ (lv_sub hl [1, 2, 3, 4, 0] rfl)
        · refine lv_iload_n hx hb dX6_sizeOf_30 rfl (lv_at hl 3 rfl) ?_
          refine lv_iconst (v := 1) hx hb dX6_sizeOf_31 (by decide) ?_
          refine lv_iadd hx hb dX6_sizeOf_32 ?_
          refine lv_istore_n (lv' := [(3, .int (v3 + 1)), (0, .ref (A 0)), (1, .int v1), (2, .int v2), (4, .int v4)]) hx hb dX6_sizeOf_33 rfl hl (by decide) rfl (fun ls hl => ?_)
          refine lv_iinc (v := (v4 + 1)) (lv' := [(4, .int (v4 + 1)), (3, .int (v3 + 1)), (0, .ref (A 0)), (1, .int v1), (2, .int v2)]) hx hb dX6_sizeOf_34 hl (k := 4) rfl rfl (by decide) rfl (fun ls hl => ?_)
          refine lv_goto (tgt := 5) hx hb dX6_sizeOf_37 (by decide) ?_
          obtain rfl := Option.some.inj hf
          exact ih1 (v3 + 1) (v4 + 1) hk1 _ (lv_sub hl [2, 3, 4, 1, 0] rfl)
  exact hlp5  FU 0 0 hf _ (lv_sub hl [2, 3, 4, 1, 0] rfl)
set_option maxHeartbeats 4000000 in
set_option maxRecDepth 100000 in
theorem c_X6_deep (l : Launch) (dC : Nat → ClassId) (dI : Nat → Nat → Nat) (cI cJ : ClassId) (A : Nat → Nat) (hq : Heap) (x : MdS) (v1 : Int32) (r0 : Int32) (hf : Md_m_deep x v1 = some r0) : MRi l yX6_deep (wAll yX6_deep cX6_deep 4 (some .int)) ({ frames := 1, cells := 0, slots := 0, locals := 40 } : Room) [.ref (A 0), .int v1] hq (dC, dI) (vTy cI cJ) (wMd cI cJ A x) r0 := by
  refine kg_metR (cc := cX6_deep) (maxL := 4) (ret := (some .int)) (by decide) rfl (Nat.le_of_ble_eq_true rfl) ?_
  intro p e s m args below meth c hx hb hr hts hown hlk hml hH hP hK hN ls hl
  subst hH
  have hl : lv_has ls 4 [(0, .ref (A 0)), (1, .int v1)] := hl
  have ww0 := hts (.fieldLink RX6 26 "SafeBlocksModel" "parent" "[I") (List.mem_cons_of_mem _ wd_8_4)
  have hiX6 : ∀ w ∈ u_ws RX6 TX6 30, w ∈ wAll yX6_deep cX6_deep 4 (some .int) := fun w h => List.mem_cons_of_mem _ (inlX6 w h)
  unfold Md_m_deep at hf
  refine lv_iconst (v := 0) hx hb dX6_deep_0 (by decide) ?_
  refine lv_istore_n (lv' := [(2, .int 0), (0, .ref (A 0)), (1, .int v1)]) hx hb dX6_deep_1 rfl hl (by decide) rfl (fun ls hl => ?_)
  refine lv_aload_n hx hb dX6_deep_2 rfl (lv_at hl 1 rfl) ?_
  refine va_get (D := (dC, dI)) (ci := 6) (v := .ref (A 4)) (C := RX6) (T := TX6) (N := 30) hx hb hts hiX6 hown hK hP 0 rfl rfl 8 (by decide) ww0 (fun _ h9 => h9) rfl dX6_deep_3 ?_
  refine lv_iload_n hx hb dX6_deep_6 rfl (lv_at hl 2 rfl) ?_
  obtain ⟨g7, hv, hf⟩ := ob_bind hf
  refine kg_iald hx hb hK hP 4 0 rfl rfl hv dX6_deep_7 ?_
  refine lv_istore_n (lv' := [(3, .int g7), (2, .int 0), (0, .ref (A 0)), (1, .int v1)]) hx hb dX6_deep_8 rfl hl (by decide) rfl (fun ls hl => ?_)
  have hlp9 : ∀ (n : Nat) (v2 : Int32) (v3 : Int32), iter (fun p : Int32 × Int32 => Md_m_deep_s9 x p.1 p.2) n (v2, v3) = some r0 → ∀ (ls : Array Slot), lv_has ls 4 [(0, .ref (A 0)), (2, .int v2), (3, .int v3)] → W p l e ({ frames := 1, cells := 0, slots := 0, locals := 40 } : Room) s m args below meth c s.heap [] 0 0 (MQ below (QRi s.heap r0) args s 0 0 NoA) (F0 m 9 ls []) := by
    intro  n
    induction n with
    | zero => intro v2 v3 hf; exact iter_zero hf
    | succ n ih1 =>
      intro v2 v3 hf ls hl
      obtain ⟨q1, hf, hk1⟩ := iter_succ hf
      have hf : Md_m_deep_s9 x v2 v3 = some q1 := hf
      unfold Md_m_deep_s9 at hf
      refine lv_iload_n hx hb dX6_deep_9 rfl (lv_at hl 2 rfl) ?_
      refine lv_iconst (v := (-1)) hx hb dX6_deep_10 (by decide) ?_
      refine kg_icmp_eq (tgt := 28) hx hb hf dX6_deep_11 (by decide) (fun hc hf => ?_) (fun hc hf => ?_)
      · obtain ⟨qq, hf, hqq⟩ := omap_some hf
        have hkq : qq = r0 := by rw [← hqq] at hk1; exact hk1
        rw [hkq] at hf
        clear hkq hqq
        refine lv_iload_n hx hb dX6_deep_28 rfl (lv_at hl 1 rfl) ?_
        obtain rfl := Option.some.inj hf
        exact kg_iretR hx hb hr hlk rfl dX6_deep_29
      · refine lv_iload_n hx hb dX6_deep_14 rfl (lv_at hl 1 rfl) ?_
        refine lv_iconst (v := 1) hx hb dX6_deep_15 (by decide) ?_
        refine lv_iadd hx hb dX6_deep_16 ?_
        refine lv_istore_n (lv' := [(2, .int (v2 + 1)), (0, .ref (A 0)), (3, .int v3)]) hx hb dX6_deep_17 rfl hl (by decide) rfl (fun ls hl => ?_)
        refine lv_aload_n hx hb dX6_deep_18 rfl (lv_at hl 1 rfl) ?_
        refine va_get (D := (dC, dI)) (ci := 6) (v := .ref (A 4)) (C := RX6) (T := TX6) (N := 30) hx hb hts hiX6 hown hK hP 0 rfl rfl 8 (by decide) ww0 (fun _ h9 => h9) rfl dX6_deep_19 ?_
        refine lv_iload_n hx hb dX6_deep_22 rfl (lv_at hl 2 rfl) ?_
        obtain ⟨g23, hv, hf⟩ := ob_bind hf
        refine kg_iald hx hb hK hP 4 0 rfl rfl hv dX6_deep_23 ?_
        refine lv_istore_n (lv' := [(3, .int g23), (2, .int (v2 + 1)), (0, .ref (A 0))]) hx hb dX6_deep_24 rfl hl (by decide) rfl (fun ls hl => ?_)
        refine lv_goto (tgt := 9) hx hb dX6_deep_25 (by decide) ?_
        obtain rfl := Option.some.inj hf
        exact ih1 (v2 + 1) g23 hk1 _ (lv_sub hl [2, 1, 0] rfl)
  exact hlp9  FU 0 g7 hf _ (lv_sub hl [2, 1, 0] rfl)
set_option maxHeartbeats 4000000 in
set_option maxRecDepth 100000 in
theorem c_X6_onWay (l : Launch) (dC : Nat → ClassId) (dI : Nat → Nat → Nat) (cI cJ : ClassId) (A : Nat → Nat) (hq : Heap) (x : MdS) (v1 : Int32) (v2 : Int32) (r0 : Int32) (hf : Md_m_onWay x v1 v2 = some r0) : MRi l yX6_onWay (wAll yX6_onWay cX6_onWay 6 (some .int)) ({ frames := 2, cells := 0, slots := 0, locals := 63 } : Room) [.ref (A 0), .int v1, .int v2] hq (dC, dI) (vTy cI cJ) (wMd cI cJ A x) r0 := by
  refine kg_metR (cc := cX6_onWay) (maxL := 6) (ret := (some .int)) (by decide) rfl (Nat.le_of_ble_eq_true rfl) ?_
  intro p e s m args below meth c hx hb hr hts hown hlk hml hH hP hK hN ls hl
  subst hH
  have hl : lv_has ls 6 [(0, .ref (A 0)), (1, .int v1), (2, .int v2)] := hl
  have ww0 := hts (.fieldLink RX6 26 "SafeBlocksModel" "parent" "[I") (List.mem_cons_of_mem _ wd_8_4)
  have hiX6 : ∀ w ∈ u_ws RX6 TX6 30, w ∈ wAll yX6_onWay cX6_onWay 6 (some .int) := fun w h => List.mem_cons_of_mem _ (inlX6 w h)
  unfold Md_m_onWay at hf
  refine lv_iconst (v := 1) hx hb dX6_onWay_0 (by decide) ?_
  refine lv_iload_n hx hb dX6_onWay_1 rfl (lv_at hl 1 rfl) ?_
  refine lv_ishl hx hb dX6_onWay_2 ?_
  refine lv_iconst (v := 1) hx hb dX6_onWay_3 (by decide) ?_
  refine lv_iload_n hx hb dX6_onWay_4 rfl (lv_at hl 2 rfl) ?_
  refine lv_ishl hx hb dX6_onWay_5 ?_
  refine lv_ior hx hb dX6_onWay_6 ?_
  refine lv_istore_n (lv' := [(3, .int ((1 <<< (v1 &&& 31)) ||| (1 <<< (v2 &&& 31)))), (0, .ref (A 0)), (1, .int v1), (2, .int v2)]) hx hb dX6_onWay_7 rfl hl (by decide) rfl (fun ls hl => ?_)
  refine lv_iload_n hx hb dX6_onWay_8 rfl (lv_at hl 2 rfl) ?_
  refine lv_istore (lv' := [(4, .int v1), (3, .int ((1 <<< (v1 &&& 31)) ||| (1 <<< (v2 &&& 31)))), (0, .ref (A 0)), (1, .int v1), (2, .int v2)]) hx hb dX6_onWay_9 hl (by decide) rfl (fun ls hl => ?_)
  refine lv_iload_n hx hb dX6_onWay_11 rfl (lv_at hl 4 rfl) ?_
  refine lv_istore (lv' := [(5, .int v2), (4, .int v1), (3, .int ((1 <<< (v1 &&& 31)) ||| (1 <<< (v2 &&& 31)))), (0, .ref (A 0)), (1, .int v1), (2, .int v2)]) hx hb dX6_onWay_12 hl (by decide) rfl (fun ls hl => ?_)
  have hlp14 : ∀ (n : Nat) (v3 : Int32) (v4 : Int32) (v5 : Int32), iter (fun p : Int32 × Int32 × Int32 => Md_m_onWay_s14 x p.1 p.2.1 p.2.2) n (v3, v4, v5) = some r0 → ∀ (ls : Array Slot), lv_has ls 6 [(0, .ref (A 0)), (3, .int v3), (4, .int v4), (5, .int v5)] → W p l e ({ frames := 2, cells := 0, slots := 0, locals := 63 } : Room) s m args below meth c s.heap [] 0 0 (MQ below (QRi s.heap r0) args s 0 0 NoA) (F0 m 14 ls []) := by
    intro  n
    induction n with
    | zero => intro v3 v4 v5 hf; exact iter_zero hf
    | succ n ih1 =>
      intro v3 v4 v5 hf ls hl
      obtain ⟨q1, hf, hk1⟩ := iter_succ hf
      have hf : Md_m_onWay_s14 x v3 v4 v5 = some q1 := hf
      unfold Md_m_onWay_s14 at hf
      have hj57 : ∀ (v3 : Int32) (v4 : Int32) (v5 : Int32), Md_m_onWay_j57 x v3 v4 v5 = some q1 → ∀ (ls : Array Slot), lv_has ls 6 [(0, .ref (A 0)), (3, .int v3), (4, .int v4), (5, .int v5)] → W p l e ({ frames := 2, cells := 0, slots := 0, locals := 63 } : Room) s m args below meth c s.heap [] 0 0 (MQ below (QRi s.heap r0) args s 0 0 NoA) (F0 m 57 ls []) := by
        intro v3 v4 v5 hf ls hl
        unfold Md_m_onWay_j57 at hf
        refine lv_iload_n hx hb dX6_onWay_57 rfl (lv_at hl 1 rfl) ?_
        refine lv_iconst (v := 1) hx hb dX6_onWay_58 (by decide) ?_
        refine lv_iload hx hb dX6_onWay_59 (lv_at hl 2 rfl) ?_
        refine lv_ishl hx hb dX6_onWay_61 ?_
        refine lv_ior hx hb dX6_onWay_62 ?_
        refine lv_iconst (v := 1) hx hb dX6_onWay_63 (by decide) ?_
        refine lv_iload hx hb dX6_onWay_64 (lv_at hl 3 rfl) ?_
        refine lv_ishl hx hb dX6_onWay_66 ?_
        refine lv_ior hx hb dX6_onWay_67 ?_
        refine lv_istore_n (lv' := [(3, .int ((v3 ||| (1 <<< (v4 &&& 31))) ||| (1 <<< (v5 &&& 31)))), (0, .ref (A 0)), (4, .int v4), (5, .int v5)]) hx hb dX6_onWay_68 rfl hl (by decide) rfl (fun ls hl => ?_)
        refine lv_goto (tgt := 14) hx hb dX6_onWay_69 (by decide) ?_
        obtain rfl := Option.some.inj hf
        exact ih1 ((v3 ||| (1 <<< (v4 &&& 31))) ||| (1 <<< (v5 &&& 31))) v4 v5 hk1 _ (lv_sub hl [1, 0, 2, 3] rfl)
      refine lv_iload hx hb dX6_onWay_14 (lv_at hl 2 rfl) ?_
      refine lv_iload hx hb dX6_onWay_16 (lv_at hl 3 rfl) ?_
      refine kg_icmp_eq (tgt := 72) hx hb hf dX6_onWay_18 (by decide) (fun hc hf => ?_) (fun hc hf => ?_)
      · obtain ⟨qq, hf, hqq⟩ := omap_some hf
        have hkq : qq = r0 := by rw [← hqq] at hk1; exact hk1
        rw [hkq] at hf
        clear hkq hqq
        refine lv_iload_n hx hb dX6_onWay_72 rfl (lv_at hl 1 rfl) ?_
        obtain rfl := Option.some.inj hf
        exact kg_iretR hx hb hr hlk rfl dX6_onWay_73
      · refine lv_aload_n hx hb dX6_onWay_21 rfl (lv_at hl 0 rfl) ?_
        refine lv_iload hx hb dX6_onWay_22 (lv_at hl 2 rfl) ?_
        obtain ⟨g24, hc, hf⟩ := ob_bind hf
        have hPc : va_P (dC, dI) vwCl (wMd cI cJ A x) s.heap := hP
        refine kg_retRi (va_runV (As := [.int v4]) (rest := []) ⟨hx, hb, hml, hown, hts⟩ (c_X6_deep l dC dI cI cJ A s.heap x v4 _ hc) (cwV 1 hts (gw_V wd_14_21 wd_14_18 wd_14_19 wd_14_20 wd_1_5) rfl rfl rfl qX6_deep ⟨Nat.le_of_ble_eq_true rfl, Nat.le_of_ble_eq_true rfl⟩) (kg_preVR (ci := 6) (q := (RX6, TX6, 30)) (q0 := 0) hPc hK hN rfl rfl) rfl rfl hl.1 rfl (lv_room (Nat.le_of_ble_eq_true rfl)) dX6_onWay_24 ⟨Nat.zero_le _, Nat.zero_le _⟩) ?_
        refine lv_aload_n hx hb dX6_onWay_27 rfl (lv_at hl 0 rfl) ?_
        refine lv_iload hx hb dX6_onWay_28 (lv_at hl 3 rfl) ?_
        obtain ⟨g30, hc, hf⟩ := ob_bind hf
        have hPc : va_P (dC, dI) vwCl (wMd cI cJ A x) s.heap := hP
        refine kg_retRi (va_runV (As := [.int v5]) (rest := [.int g24]) ⟨hx, hb, hml, hown, hts⟩ (c_X6_deep l dC dI cI cJ A s.heap x v5 _ hc) (cwV 1 hts (gw_V wd_14_21 wd_14_18 wd_14_19 wd_14_20 wd_1_5) rfl rfl rfl qX6_deep ⟨Nat.le_of_ble_eq_true rfl, Nat.le_of_ble_eq_true rfl⟩) (kg_preVR (ci := 6) (q := (RX6, TX6, 30)) (q0 := 0) hPc hK hN rfl rfl) rfl rfl hl.1 rfl (lv_room (Nat.le_of_ble_eq_true rfl)) dX6_onWay_30 ⟨Nat.zero_le _, Nat.zero_le _⟩) ?_
        refine kg_icmp_lt (tgt := 48) hx hb hf dX6_onWay_33 (by decide) (fun hc hf => ?_) (fun hc hf => ?_)
        · refine lv_aload_n hx hb dX6_onWay_48 rfl (lv_at hl 0 rfl) ?_
          refine va_get (D := (dC, dI)) (ci := 6) (v := .ref (A 4)) (C := RX6) (T := TX6) (N := 30) hx hb hts hiX6 hown hK hP 0 rfl rfl 8 (by decide) ww0 (fun _ h9 => h9) rfl dX6_onWay_49 ?_
          refine lv_iload hx hb dX6_onWay_52 (lv_at hl 3 rfl) ?_
          obtain ⟨g54, hv, hf⟩ := ob_bind hf
          refine kg_iald hx hb hK hP 4 0 rfl rfl hv dX6_onWay_54 ?_
          refine lv_istore (lv' := [(5, .int g54), (0, .ref (A 0)), (3, .int v3), (4, .int v4)]) hx hb dX6_onWay_55 hl (by decide) rfl (fun ls hl => ?_)
          exact hj57 v3 v4 g54 hf _ (lv_sub hl [1, 2, 3, 0] rfl)
        · refine lv_aload_n hx hb dX6_onWay_36 rfl (lv_at hl 0 rfl) ?_
          refine va_get (D := (dC, dI)) (ci := 6) (v := .ref (A 4)) (C := RX6) (T := TX6) (N := 30) hx hb hts hiX6 hown hK hP 0 rfl rfl 8 (by decide) ww0 (fun _ h9 => h9) rfl dX6_onWay_37 ?_
          refine lv_iload hx hb dX6_onWay_40 (lv_at hl 2 rfl) ?_
          obtain ⟨g42, hv, hf⟩ := ob_bind hf
          refine kg_iald hx hb hK hP 4 0 rfl rfl hv dX6_onWay_42 ?_
          refine lv_istore (lv' := [(4, .int g42), (0, .ref (A 0)), (3, .int v3), (5, .int v5)]) hx hb dX6_onWay_43 hl (by decide) rfl (fun ls hl => ?_)
          refine lv_goto (tgt := 57) hx hb dX6_onWay_45 (by decide) ?_
          exact hj57 v3 g42 v5 hf _ (lv_sub hl [1, 2, 0, 3] rfl)
  exact hlp14  FU ((1 <<< (v1 &&& 31)) ||| (1 <<< (v2 &&& 31))) v1 v2 hf _ (lv_sub hl [3, 2, 1, 0] rfl)
set_option maxHeartbeats 4000000 in
set_option maxRecDepth 100000 in
theorem c_X6_count (l : Launch) (dC : Nat → ClassId) (dI : Nat → Nat → Nat) (cI cJ : ClassId) (A : Nat → Nat) (hq : Heap) (x : MdS) (v1 : Int32) (r0 : Int32) (hf : Md_m_count x v1 = some r0) : MRi l yX6_count (wAll yX6_count cX6_count 4 (some .int)) ({ frames := 2, cells := 0, slots := 0, locals := 62 } : Room) [.ref (A 0), .int v1] hq (dC, dI) (vTy cI cJ) (wMd cI cJ A x) r0 := by
  refine kg_metR (cc := cX6_count) (maxL := 4) (ret := (some .int)) (by decide) rfl (Nat.le_of_ble_eq_true rfl) ?_
  intro p e s m args below meth c hx hb hr hts hown hlk hml hH hP hK hN ls hl
  subst hH
  have hl : lv_has ls 4 [(0, .ref (A 0)), (1, .int v1)] := hl
  unfold Md_m_count at hf
  refine lv_iconst (v := 0) hx hb dX6_count_0 (by decide) ?_
  refine lv_istore_n (lv' := [(2, .int 0), (0, .ref (A 0)), (1, .int v1)]) hx hb dX6_count_1 rfl hl (by decide) rfl (fun ls hl => ?_)
  refine lv_iconst (v := 0) hx hb dX6_count_2 (by decide) ?_
  refine lv_istore_n (lv' := [(3, .int 0), (2, .int 0), (0, .ref (A 0)), (1, .int v1)]) hx hb dX6_count_3 rfl hl (by decide) rfl (fun ls hl => ?_)
  have hlp4 : ∀ (n : Nat) (v2 : Int32) (v3 : Int32), iter (fun p : Int32 × Int32 => Md_m_count_s4 x v1 p.1 p.2) n (v2, v3) = some r0 → ∀ (ls : Array Slot), lv_has ls 4 [(0, .ref (A 0)), (1, .int v1), (2, .int v2), (3, .int v3)] → W p l e ({ frames := 2, cells := 0, slots := 0, locals := 62 } : Room) s m args below meth c s.heap [] 0 0 (MQ below (QRi s.heap r0) args s 0 0 NoA) (F0 m 4 ls []) := by
    intro  n
    induction n with
    | zero => intro v2 v3 hf; exact iter_zero hf
    | succ n ih1 =>
      intro v2 v3 hf ls hl
      obtain ⟨q1, hf, hk1⟩ := iter_succ hf
      have hf : Md_m_count_s4 x v1 v2 v3 = some q1 := hf
      unfold Md_m_count_s4 at hf
      refine lv_iload_n hx hb dX6_count_4 rfl (lv_at hl 3 rfl) ?_
      refine lv_bipush (v := 32) hx hb dX6_count_5 (by decide) ?_
      refine kg_icmp_ge (tgt := 29) hx hb hf dX6_count_7 (by decide) (fun hc hf => ?_) (fun hc hf => ?_)
      · obtain ⟨qq, hf, hqq⟩ := omap_some hf
        have hkq : qq = r0 := by rw [← hqq] at hk1; exact hk1
        rw [hkq] at hf
        clear hkq hqq
        refine lv_iload_n hx hb dX6_count_29 rfl (lv_at hl 2 rfl) ?_
        obtain rfl := Option.some.inj hf
        exact kg_iretR hx hb hr hlk rfl dX6_count_30
      · refine lv_aload_n hx hb dX6_count_10 rfl (lv_at hl 0 rfl) ?_
        refine lv_iload_n hx hb dX6_count_11 rfl (lv_at hl 1 rfl) ?_
        refine lv_iload_n hx hb dX6_count_12 rfl (lv_at hl 3 rfl) ?_
        obtain ⟨g13, hc, hf⟩ := ob_bind hf
        have hPc : va_P (dC, dI) vwCl (wMd cI cJ A x) s.heap := hP
        refine kg_retRi (va_runV (As := [.int v1, .int v3]) (rest := []) ⟨hx, hb, hml, hown, hts⟩ (c_X6_has l dC dI cI cJ A s.heap x v1 v3 _ hc) (cwV 2 hts (gw_V wd_14_13 wd_14_10 wd_14_11 wd_14_12 wd_1_5) rfl rfl rfl qX6_has ⟨Nat.le_of_ble_eq_true rfl, Nat.le_of_ble_eq_true rfl⟩) (kg_preVR (ci := 6) (q := (RX6, TX6, 30)) (q0 := 0) hPc hK hN rfl rfl) rfl rfl hl.1 rfl (lv_room (Nat.le_of_ble_eq_true rfl)) dX6_count_13 ⟨Nat.zero_le _, Nat.zero_le _⟩) ?_
        refine kg_b_eq (tgt := 23) hx hb hf dX6_count_16 (by decide) (fun hc hf => ?_) (fun hc hf => ?_)
        · refine lv_iinc (v := (v3 + 1)) (lv' := [(3, .int (v3 + 1)), (0, .ref (A 0)), (1, .int v1), (2, .int v2)]) hx hb dX6_count_23 hl (k := 3) rfl rfl (by decide) rfl (fun ls hl => ?_)
          refine lv_goto (tgt := 4) hx hb dX6_count_26 (by decide) ?_
          obtain rfl := Option.some.inj hf
          exact ih1 v2 (v3 + 1) hk1 _ (lv_sub hl [1, 2, 3, 0] rfl)
        · refine lv_iload_n hx hb dX6_count_19 rfl (lv_at hl 2 rfl) ?_
          refine lv_iconst (v := 1) hx hb dX6_count_20 (by decide) ?_
          refine lv_iadd hx hb dX6_count_21 ?_
          refine lv_istore_n (lv' := [(2, .int (v2 + 1)), (0, .ref (A 0)), (1, .int v1), (3, .int v3)]) hx hb dX6_count_22 rfl hl (by decide) rfl (fun ls hl => ?_)
          refine lv_iinc (v := (v3 + 1)) (lv' := [(3, .int (v3 + 1)), (2, .int (v2 + 1)), (0, .ref (A 0)), (1, .int v1)]) hx hb dX6_count_23 hl (k := 3) rfl rfl (by decide) rfl (fun ls hl => ?_)
          refine lv_goto (tgt := 4) hx hb dX6_count_26 (by decide) ?_
          obtain rfl := Option.some.inj hf
          exact ih1 (v2 + 1) (v3 + 1) hk1 _ (lv_sub hl [2, 3, 1, 0] rfl)
  exact hlp4  FU 0 0 hf _ (lv_sub hl [2, 3, 1, 0] rfl)
set_option maxHeartbeats 4000000 in
set_option maxRecDepth 100000 in
theorem c_X6_bridges (l : Launch) (dC : Nat → ClassId) (dI : Nat → Nat → Nat) (cI cJ : ClassId) (A : Nat → Nat) (hq : Heap) (x : MdS) (r0 : Int32) (hf : Md_m_bridges x = some r0) : MRi l yX6_bridges (wAll yX6_bridges cX6_bridges 3 (some .int)) ({ frames := 1, cells := 0, slots := 0, locals := 40 } : Room) [.ref (A 0)] hq (dC, dI) (vTy cI cJ) (wMd cI cJ A x) r0 := by
  refine kg_metR (cc := cX6_bridges) (maxL := 3) (ret := (some .int)) (by decide) rfl (Nat.le_of_ble_eq_true rfl) ?_
  intro p e s m args below meth c hx hb hr hts hown hlk hml hH hP hK hN ls hl
  subst hH
  have hl : lv_has ls 3 [(0, .ref (A 0))] := hl
  have ww0 := hts (.fieldLink RX6 20 "SafeBlocksModel" "run" "I") (List.mem_cons_of_mem _ wd_8_2)
  have ww1 := hts (.fieldLink RX6 41 "SafeBlocksModel" "closedBy" "[I") (List.mem_cons_of_mem _ wd_8_9)
  have hiX6 : ∀ w ∈ u_ws RX6 TX6 30, w ∈ wAll yX6_bridges cX6_bridges 3 (some .int) := fun w h => List.mem_cons_of_mem _ (inlX6 w h)
  unfold Md_m_bridges at hf
  refine lv_iconst (v := 0) hx hb dX6_bridges_0 (by decide) ?_
  refine lv_istore_n (lv' := [(1, .int 0), (0, .ref (A 0))]) hx hb dX6_bridges_1 rfl hl (by decide) rfl (fun ls hl => ?_)
  refine lv_iconst (v := 0) hx hb dX6_bridges_2 (by decide) ?_
  refine lv_istore_n (lv' := [(2, .int 0), (1, .int 0), (0, .ref (A 0))]) hx hb dX6_bridges_3 rfl hl (by decide) rfl (fun ls hl => ?_)
  have hlp4 : ∀ (n : Nat) (v1 : Int32) (v2 : Int32), iter (fun p : Int32 × Int32 => Md_m_bridges_s4 x p.1 p.2) n (v1, v2) = some r0 → ∀ (ls : Array Slot), lv_has ls 3 [(0, .ref (A 0)), (1, .int v1), (2, .int v2)] → W p l e ({ frames := 1, cells := 0, slots := 0, locals := 40 } : Room) s m args below meth c s.heap [] 0 0 (MQ below (QRi s.heap r0) args s 0 0 NoA) (F0 m 4 ls []) := by
    intro  n
    induction n with
    | zero => intro v1 v2 hf; exact iter_zero hf
    | succ n ih1 =>
      intro v1 v2 hf ls hl
      obtain ⟨q1, hf, hk1⟩ := iter_succ hf
      have hf : Md_m_bridges_s4 x v1 v2 = some q1 := hf
      unfold Md_m_bridges_s4 at hf
      refine lv_iload_n hx hb dX6_bridges_4 rfl (lv_at hl 2 rfl) ?_
      refine lv_aload_n hx hb dX6_bridges_5 rfl (lv_at hl 0 rfl) ?_
      refine va_get (D := (dC, dI)) (ci := 6) (v := .int (Md_run x)) (C := RX6) (T := TX6) (N := 30) hx hb hts hiX6 hown hK hP 0 rfl rfl 6 (by decide) ww0 (fun _ h9 => h9) rfl dX6_bridges_6 ?_
      refine kg_icmp_ge (tgt := 32) hx hb hf dX6_bridges_9 (by decide) (fun hc hf => ?_) (fun hc hf => ?_)
      · obtain ⟨qq, hf, hqq⟩ := omap_some hf
        have hkq : qq = r0 := by rw [← hqq] at hk1; exact hk1
        rw [hkq] at hf
        clear hkq hqq
        refine lv_iload_n hx hb dX6_bridges_32 rfl (lv_at hl 1 rfl) ?_
        obtain rfl := Option.some.inj hf
        exact kg_iretR hx hb hr hlk rfl dX6_bridges_33
      · refine lv_aload_n hx hb dX6_bridges_12 rfl (lv_at hl 0 rfl) ?_
        refine va_get (D := (dC, dI)) (ci := 6) (v := .ref (A 9)) (C := RX6) (T := TX6) (N := 30) hx hb hts hiX6 hown hK hP 0 rfl rfl 13 (by decide) ww1 (fun _ h9 => h9) rfl dX6_bridges_13 ?_
        refine lv_iload_n hx hb dX6_bridges_16 rfl (lv_at hl 2 rfl) ?_
        obtain ⟨g17, hv, hf⟩ := ob_bind hf
        refine kg_iald hx hb hK hP 9 0 rfl rfl hv dX6_bridges_17 ?_
        refine lv_iconst (v := (-1)) hx hb dX6_bridges_18 (by decide) ?_
        refine kg_icmp_ne (tgt := 26) hx hb hf dX6_bridges_19 (by decide) (fun hc hf => ?_) (fun hc hf => ?_)
        · refine lv_iinc (v := (v2 + 1)) (lv' := [(2, .int (v2 + 1)), (0, .ref (A 0)), (1, .int v1)]) hx hb dX6_bridges_26 hl (k := 2) rfl rfl (by decide) rfl (fun ls hl => ?_)
          refine lv_goto (tgt := 4) hx hb dX6_bridges_29 (by decide) ?_
          obtain rfl := Option.some.inj hf
          exact ih1 v1 (v2 + 1) hk1 _ (lv_sub hl [1, 2, 0] rfl)
        · refine lv_iload_n hx hb dX6_bridges_22 rfl (lv_at hl 1 rfl) ?_
          refine lv_iconst (v := 1) hx hb dX6_bridges_23 (by decide) ?_
          refine lv_iadd hx hb dX6_bridges_24 ?_
          refine lv_istore_n (lv' := [(1, .int (v1 + 1)), (0, .ref (A 0)), (2, .int v2)]) hx hb dX6_bridges_25 rfl hl (by decide) rfl (fun ls hl => ?_)
          refine lv_iinc (v := (v2 + 1)) (lv' := [(2, .int (v2 + 1)), (1, .int (v1 + 1)), (0, .ref (A 0))]) hx hb dX6_bridges_26 hl (k := 2) rfl rfl (by decide) rfl (fun ls hl => ?_)
          refine lv_goto (tgt := 4) hx hb dX6_bridges_29 (by decide) ?_
          obtain rfl := Option.some.inj hf
          exact ih1 (v1 + 1) (v2 + 1) hk1 _ (lv_sub hl [2, 1, 0] rfl)
  exact hlp4  FU 0 0 hf _ (lv_sub hl [2, 1, 0] rfl)
set_option maxHeartbeats 4000000 in
set_option maxRecDepth 100000 in
theorem c_X6_isOut (l : Launch) (dC : Nat → ClassId) (dI : Nat → Nat → Nat) (cI cJ : ClassId) (A : Nat → Nat) (hq : Heap) (x : MdS) (v1 : Int32) (v2 : Int32) (v3 : Int32) (r0 : Bool) (hf : Md_m_isOut x v1 v2 v3 = some r0) : MRi l yX6_isOut (wAll yX6_isOut cX6_isOut 4 (some .boolean)) ({ frames := 1, cells := 0, slots := 0, locals := 40 } : Room) [.ref (A 0), .int v1, .int v2, .int v3] hq (dC, dI) (vTy cI cJ) (wMd cI cJ A x) (b2i r0) := by
  refine kg_metR (cc := cX6_isOut) (maxL := 4) (ret := (some .boolean)) (by decide) rfl (Nat.le_of_ble_eq_true rfl) ?_
  intro p e s m args below meth c hx hb hr hts hown hlk hml hH hP hK hN ls hl
  subst hH
  have hl : lv_has ls 4 [(0, .ref (A 0)), (1, .int v1), (2, .int v2), (3, .int v3)] := hl
  have ww0 := hts (.fieldLink RX6 13 "SafeBlocksModel" "first" "[I") (List.mem_cons_of_mem _ wd_8_0)
  have ww1 := hts (.fieldLink RX6 17 "SafeBlocksModel" "second" "[I") (List.mem_cons_of_mem _ wd_8_1)
  have hiX6 : ∀ w ∈ u_ws RX6 TX6 30, w ∈ wAll yX6_isOut cX6_isOut 4 (some .boolean) := fun w h => List.mem_cons_of_mem _ (inlX6 w h)
  unfold Md_m_isOut at hf
  refine lv_iload_n hx hb dX6_isOut_0 rfl (lv_at hl 1 rfl) ?_
  refine lv_iload_n hx hb dX6_isOut_1 rfl (lv_at hl 2 rfl) ?_
  refine kg_icmp_eq (tgt := 25) hx hb hf dX6_isOut_2 (by decide) (fun hc hf => ?_) (fun hc hf => ?_)
  · refine lv_iconst (v := 1) hx hb dX6_isOut_25 (by decide) ?_
    refine lv_goto (tgt := 30) hx hb dX6_isOut_26 (by decide) ?_
    obtain rfl := Option.some.inj hf
    exact kg_zretR (b := true) hx hb hr hlk rfl rfl dX6_isOut_30
  · refine lv_aload_n hx hb dX6_isOut_5 rfl (lv_at hl 0 rfl) ?_
    refine va_get (D := (dC, dI)) (ci := 6) (v := .ref (A 1)) (C := RX6) (T := TX6) (N := 30) hx hb hts hiX6 hown hK hP 0 rfl rfl 4 (by decide) ww0 (fun _ h9 => h9) rfl dX6_isOut_6 ?_
    refine lv_iload_n hx hb dX6_isOut_9 rfl (lv_at hl 1 rfl) ?_
    obtain ⟨g10, hv, hf⟩ := ob_bind hf
    refine kg_iald hx hb hK hP 1 0 rfl rfl hv dX6_isOut_10 ?_
    refine lv_iload_n hx hb dX6_isOut_11 rfl (lv_at hl 3 rfl) ?_
    refine kg_icmp_eq (tgt := 25) hx hb hf dX6_isOut_12 (by decide) (fun hc hf => ?_) (fun hc hf => ?_)
    · refine lv_iconst (v := 1) hx hb dX6_isOut_25 (by decide) ?_
      refine lv_goto (tgt := 30) hx hb dX6_isOut_26 (by decide) ?_
      obtain rfl := Option.some.inj hf
      exact kg_zretR (b := true) hx hb hr hlk rfl rfl dX6_isOut_30
    · refine lv_aload_n hx hb dX6_isOut_15 rfl (lv_at hl 0 rfl) ?_
      refine va_get (D := (dC, dI)) (ci := 6) (v := .ref (A 2)) (C := RX6) (T := TX6) (N := 30) hx hb hts hiX6 hown hK hP 0 rfl rfl 5 (by decide) ww1 (fun _ h9 => h9) rfl dX6_isOut_16 ?_
      refine lv_iload_n hx hb dX6_isOut_19 rfl (lv_at hl 1 rfl) ?_
      obtain ⟨g20, hv, hf⟩ := ob_bind hf
      refine kg_iald hx hb hK hP 2 0 rfl rfl hv dX6_isOut_20 ?_
      refine lv_iload_n hx hb dX6_isOut_21 rfl (lv_at hl 3 rfl) ?_
      refine kg_icmp_ne (tgt := 29) hx hb hf dX6_isOut_22 (by decide) (fun hc hf => ?_) (fun hc hf => ?_)
      · refine lv_iconst (v := 0) hx hb dX6_isOut_29 (by decide) ?_
        obtain rfl := Option.some.inj hf
        exact kg_zretR (b := false) hx hb hr hlk rfl rfl dX6_isOut_30
      · refine lv_iconst (v := 1) hx hb dX6_isOut_25 (by decide) ?_
        refine lv_goto (tgt := 30) hx hb dX6_isOut_26 (by decide) ?_
        obtain rfl := Option.some.inj hf
        exact kg_zretR (b := true) hx hb hr hlk rfl rfl dX6_isOut_30
set_option maxHeartbeats 4000000 in
set_option maxRecDepth 100000 in
theorem c_X6_reached (l : Launch) (dC : Nat → ClassId) (dI : Nat → Nat → Nat) (cI cJ : ClassId) (A : Nat → Nat) (hq : Heap) (x : MdS) (v1 : Int32) (v2 : Int32) (v3 : Int32) (v4 : Int32) (r0 : Int32) (hf : Md_m_reached x v1 v2 v3 v4 = some r0) : MRi l yX6_reached (wAll yX6_reached cX6_reached 9 (some .int)) ({ frames := 2, cells := 0, slots := 0, locals := 63 } : Room) [.ref (A 0), .int v1, .int v2, .int v3, .int v4] hq (dC, dI) (vTy cI cJ) (wMd cI cJ A x) r0 := by
  refine kg_metR (cc := cX6_reached) (maxL := 9) (ret := (some .int)) (by decide) rfl (Nat.le_of_ble_eq_true rfl) ?_
  intro p e s m args below meth c hx hb hr hts hown hlk hml hH hP hK hN ls hl
  subst hH
  have hl : lv_has ls 9 [(0, .ref (A 0)), (1, .int v1), (2, .int v2), (3, .int v3), (4, .int v4)] := hl
  have ww0 := hts (.fieldLink RX6 13 "SafeBlocksModel" "first" "[I") (List.mem_cons_of_mem _ wd_8_0)
  have ww1 := hts (.fieldLink RX6 17 "SafeBlocksModel" "second" "[I") (List.mem_cons_of_mem _ wd_8_1)
  have hiX6 : ∀ w ∈ u_ws RX6 TX6 30, w ∈ wAll yX6_reached cX6_reached 9 (some .int) := fun w h => List.mem_cons_of_mem _ (inlX6 w h)
  unfold Md_m_reached at hf
  refine lv_iconst (v := 1) hx hb dX6_reached_0 (by decide) ?_
  refine lv_iload_n hx hb dX6_reached_1 rfl (lv_at hl 1 rfl) ?_
  refine lv_ishl hx hb dX6_reached_2 ?_
  refine lv_istore (lv' := [(5, .int (1 <<< (v1 &&& 31))), (0, .ref (A 0)), (1, .int v1), (2, .int v2), (3, .int v3), (4, .int v4)]) hx hb dX6_reached_3 hl (by decide) rfl (fun ls hl => ?_)
  refine lv_iconst (v := 1) hx hb dX6_reached_5 (by decide) ?_
  refine lv_istore (lv' := [(6, .int 1), (5, .int (1 <<< (v1 &&& 31))), (0, .ref (A 0)), (1, .int v1), (2, .int v2), (3, .int v3), (4, .int v4)]) hx hb dX6_reached_6 hl (by decide) rfl (fun ls hl => ?_)
  have hlp8 : ∀ (n : Nat) (v5 : Int32) (v6 : Int32), iter (fun p : Int32 × Int32 => Md_m_reached_s8 x v2 v3 v4 p.1 p.2) n (v5, v6) = some r0 → ∀ (ls : Array Slot), lv_has ls 9 [(0, .ref (A 0)), (2, .int v2), (3, .int v3), (4, .int v4), (5, .int v5), (6, .int v6)] → W p l e ({ frames := 2, cells := 0, slots := 0, locals := 63 } : Room) s m args below meth c s.heap [] 0 0 (MQ below (QRi s.heap r0) args s 0 0 NoA) (F0 m 8 ls []) := by
    intro  n
    induction n with
    | zero => intro v5 v6 hf; exact iter_zero hf
    | succ n ih1 =>
      intro v5 v6 hf ls hl
      obtain ⟨q1, hf, hk1⟩ := iter_succ hf
      have hf : Md_m_reached_s8 x v2 v3 v4 v5 v6 = some q1 := hf
      unfold Md_m_reached_s8 at hf
      refine lv_iload hx hb dX6_reached_8 (lv_at hl 5 rfl) ?_
      refine kg_if_eq (tgt := 117) hx hb hf dX6_reached_10 (by decide) (fun hc hf => ?_) (fun hc hf => ?_)
      · obtain ⟨qq, hf, hqq⟩ := omap_some hf
        have hkq : qq = r0 := by rw [← hqq] at hk1; exact hk1
        rw [hkq] at hf
        clear hkq hqq
        refine lv_iload hx hb dX6_reached_117 (lv_at hl 4 rfl) ?_
        obtain rfl := Option.some.inj hf
        exact kg_iretR hx hb hr hlk rfl dX6_reached_119
      · refine lv_iload hx hb dX6_reached_13 (lv_at hl 4 rfl) ?_
        refine lv_istore (lv' := [(7, .int v5), (0, .ref (A 0)), (2, .int v2), (3, .int v3), (4, .int v4), (5, .int v5), (6, .int v6)]) hx hb dX6_reached_15 hl (by decide) rfl (fun ls hl => ?_)
        refine lv_iconst (v := 0) hx hb dX6_reached_17 (by decide) ?_
        refine lv_istore (lv' := [(8, .int 0), (7, .int v5), (0, .ref (A 0)), (2, .int v2), (3, .int v3), (4, .int v4), (5, .int v5), (6, .int v6)]) hx hb dX6_reached_18 hl (by decide) rfl (fun ls hl => ?_)
        have hlp20 : ∀ (v7 : Int32), ∀ (n : Nat) (v5 : Int32) (v8 : Int32), iter (fun p : Int32 × Int32 => Md_m_reached_s20 x v2 v3 v4 v7 p.1 p.2) n (v5, v8) = some q1 → ∀ (ls : Array Slot), lv_has ls 9 [(0, .ref (A 0)), (2, .int v2), (3, .int v3), (4, .int v4), (5, .int v5), (7, .int v7), (8, .int v8)] → W p l e ({ frames := 2, cells := 0, slots := 0, locals := 63 } : Room) s m args below meth c s.heap [] 0 0 (MQ below (QRi s.heap r0) args s 0 0 NoA) (F0 m 20 ls []) := by
          intro v7 n
          induction n with
          | zero => intro v5 v8 hf; exact iter_zero hf
          | succ n ih2 =>
            intro v5 v8 hf ls hl
            obtain ⟨q2, hf, hk2⟩ := iter_succ hf
            have hf : Md_m_reached_s20 x v2 v3 v4 v7 v5 v8 = some q2 := hf
            unfold Md_m_reached_s20 at hf
            have hj70 : ∀ (v5 : Int32) (v8 : Int32), Md_m_reached_j70 x v2 v3 v4 v5 v7 v8 = some q2 → ∀ (ls : Array Slot), lv_has ls 9 [(0, .ref (A 0)), (2, .int v2), (3, .int v3), (4, .int v4), (5, .int v5), (7, .int v7), (8, .int v8)] → W p l e ({ frames := 2, cells := 0, slots := 0, locals := 63 } : Room) s m args below meth c s.heap [] 0 0 (MQ below (QRi s.heap r0) args s 0 0 NoA) (F0 m 70 ls []) := by
              intro v5 v8 hf ls hl
              unfold Md_m_reached_j70 at hf
              refine lv_iload hx hb dX6_reached_70 (lv_at hl 4 rfl) ?_
              refine lv_iconst (v := 1) hx hb dX6_reached_72 (by decide) ?_
              refine lv_aload_n hx hb dX6_reached_73 rfl (lv_at hl 0 rfl) ?_
              refine va_get (D := (dC, dI)) (ci := 6) (v := .ref (A 1)) (C := RX6) (T := TX6) (N := 30) hx hb hts hiX6 hown hK hP 0 rfl rfl 4 (by decide) ww0 (fun _ h9 => h9) rfl dX6_reached_74 ?_
              refine lv_iload hx hb dX6_reached_77 (lv_at hl 6 rfl) ?_
              obtain ⟨g79, hv, hf⟩ := ob_bind hf
              refine kg_iald hx hb hK hP 1 0 rfl rfl hv dX6_reached_79 ?_
              refine lv_ishl hx hb dX6_reached_80 ?_
              refine lv_ior hx hb dX6_reached_81 ?_
              refine lv_iconst (v := 1) hx hb dX6_reached_82 (by decide) ?_
              refine lv_aload_n hx hb dX6_reached_83 rfl (lv_at hl 0 rfl) ?_
              refine va_get (D := (dC, dI)) (ci := 6) (v := .ref (A 2)) (C := RX6) (T := TX6) (N := 30) hx hb hts hiX6 hown hK hP 0 rfl rfl 5 (by decide) ww1 (fun _ h9 => h9) rfl dX6_reached_84 ?_
              refine lv_iload hx hb dX6_reached_87 (lv_at hl 6 rfl) ?_
              obtain ⟨g89, hv, hf⟩ := ob_bind hf
              refine kg_iald hx hb hK hP 2 0 rfl rfl hv dX6_reached_89 ?_
              refine lv_ishl hx hb dX6_reached_90 ?_
              refine lv_ior hx hb dX6_reached_91 ?_
              refine lv_istore (lv' := [(5, .int ((v5 ||| (1 <<< (g79 &&& 31))) ||| (1 <<< (g89 &&& 31)))), (0, .ref (A 0)), (2, .int v2), (3, .int v3), (4, .int v4), (7, .int v7), (8, .int v8)]) hx hb dX6_reached_92 hl (by decide) rfl (fun ls hl => ?_)
              refine lv_iinc (v := (v8 + 1)) (lv' := [(8, .int (v8 + 1)), (5, .int ((v5 ||| (1 <<< (g79 &&& 31))) ||| (1 <<< (g89 &&& 31)))), (0, .ref (A 0)), (2, .int v2), (3, .int v3), (4, .int v4), (7, .int v7)]) hx hb dX6_reached_94 hl (k := 6) rfl rfl (by decide) rfl (fun ls hl => ?_)
              refine lv_goto (tgt := 20) hx hb dX6_reached_97 (by decide) ?_
              obtain rfl := Option.some.inj hf
              exact ih2 ((v5 ||| (1 <<< (g79 &&& 31))) ||| (1 <<< (g89 &&& 31))) (v8 + 1) hk2 _ (lv_sub hl [2, 3, 4, 5, 1, 6, 0] rfl)
            refine lv_iload hx hb dX6_reached_20 (lv_at hl 6 rfl) ?_
            refine lv_iload_n hx hb dX6_reached_22 rfl (lv_at hl 1 rfl) ?_
            refine kg_icmp_ge (tgt := 100) hx hb hf dX6_reached_23 (by decide) (fun hc hf => ?_) (fun hc hf => ?_)
            · obtain ⟨qq, hf, hqq⟩ := omap_some hf
              have hkq : qq = q1 := by rw [← hqq] at hk2; exact hk2
              rw [hkq] at hf
              clear hkq hqq
              refine lv_iload hx hb dX6_reached_100 (lv_at hl 5 rfl) ?_
              refine lv_iload hx hb dX6_reached_102 (lv_at hl 4 rfl) ?_
              refine kg_icmp_eq (tgt := 111) hx hb hf dX6_reached_104 (by decide) (fun hc hf => ?_) (fun hc hf => ?_)
              · refine lv_iconst (v := 0) hx hb dX6_reached_111 (by decide) ?_
                refine lv_istore (lv' := [(6, .int 0), (0, .ref (A 0)), (2, .int v2), (3, .int v3), (4, .int v4), (5, .int v5), (7, .int v7), (8, .int v8)]) hx hb dX6_reached_112 hl (by decide) rfl (fun ls hl => ?_)
                refine lv_goto (tgt := 8) hx hb dX6_reached_114 (by decide) ?_
                obtain rfl := Option.some.inj hf
                exact ih1 v5 0 hk1 _ (lv_sub hl [1, 2, 3, 4, 5, 0] rfl)
              · refine lv_iconst (v := 1) hx hb dX6_reached_107 (by decide) ?_
                refine lv_goto (tgt := 112) hx hb dX6_reached_108 (by decide) ?_
                refine lv_istore (lv' := [(6, .int 1), (0, .ref (A 0)), (2, .int v2), (3, .int v3), (4, .int v4), (5, .int v5), (7, .int v7), (8, .int v8)]) hx hb dX6_reached_112 hl (by decide) rfl (fun ls hl => ?_)
                refine lv_goto (tgt := 8) hx hb dX6_reached_114 (by decide) ?_
                obtain rfl := Option.some.inj hf
                exact ih1 v5 1 hk1 _ (lv_sub hl [1, 2, 3, 4, 5, 0] rfl)
            · refine lv_aload_n hx hb dX6_reached_26 rfl (lv_at hl 0 rfl) ?_
              refine lv_iload hx hb dX6_reached_27 (lv_at hl 6 rfl) ?_
              refine lv_iload_n hx hb dX6_reached_29 rfl (lv_at hl 2 rfl) ?_
              refine lv_iload hx hb dX6_reached_30 (lv_at hl 3 rfl) ?_
              obtain ⟨g32, hc, hf⟩ := ob_bind hf
              have hPc : va_P (dC, dI) vwCl (wMd cI cJ A x) s.heap := hP
              refine kg_retRi (va_runV (As := [.int v8, .int v3, .int v4]) (rest := []) ⟨hx, hb, hml, hown, hts⟩ (c_X6_isOut l dC dI cI cJ A s.heap x v8 v3 v4 _ hc) (cwV 3 hts (gw_V wd_19_10 wd_19_7 wd_19_8 wd_19_9 wd_1_5) rfl rfl rfl qX6_isOut ⟨Nat.le_of_ble_eq_true rfl, Nat.le_of_ble_eq_true rfl⟩) (kg_preVR (ci := 6) (q := (RX6, TX6, 30)) (q0 := 0) hPc hK hN rfl rfl) rfl rfl hl.1 rfl (lv_room (Nat.le_of_ble_eq_true rfl)) dX6_reached_32 ⟨Nat.zero_le _, Nat.zero_le _⟩) ?_
              refine kg_b_ne (tgt := 94) hx hb hf dX6_reached_35 (by decide) (fun hc hf => ?_) (fun hc hf => ?_)
              · refine lv_iinc (v := (v8 + 1)) (lv' := [(8, .int (v8 + 1)), (0, .ref (A 0)), (2, .int v2), (3, .int v3), (4, .int v4), (5, .int v5), (7, .int v7)]) hx hb dX6_reached_94 hl (k := 6) rfl rfl (by decide) rfl (fun ls hl => ?_)
                refine lv_goto (tgt := 20) hx hb dX6_reached_97 (by decide) ?_
                obtain rfl := Option.some.inj hf
                exact ih2 v5 (v8 + 1) hk2 _ (lv_sub hl [1, 2, 3, 4, 5, 6, 0] rfl)
              · refine lv_aload_n hx hb dX6_reached_38 rfl (lv_at hl 0 rfl) ?_
                refine lv_iload hx hb dX6_reached_39 (lv_at hl 4 rfl) ?_
                refine lv_aload_n hx hb dX6_reached_41 rfl (lv_at hl 0 rfl) ?_
                refine va_get (D := (dC, dI)) (ci := 6) (v := .ref (A 1)) (C := RX6) (T := TX6) (N := 30) hx hb hts hiX6 hown hK hP 0 rfl rfl 4 (by decide) ww0 (fun _ h9 => h9) rfl dX6_reached_42 ?_
                refine lv_iload hx hb dX6_reached_45 (lv_at hl 6 rfl) ?_
                obtain ⟨g47, hv, hf⟩ := ob_bind hf
                refine kg_iald hx hb hK hP 1 0 rfl rfl hv dX6_reached_47 ?_
                obtain ⟨g48, hc, hf⟩ := ob_bind hf
                have hPc : va_P (dC, dI) vwCl (wMd cI cJ A x) s.heap := hP
                refine kg_retRi (va_runV (As := [.int v5, .int g47]) (rest := []) ⟨hx, hb, hml, hown, hts⟩ (c_X6_has l dC dI cI cJ A s.heap x v5 g47 _ hc) (cwV 2 hts (gw_V wd_14_13 wd_14_10 wd_14_11 wd_14_12 wd_1_5) rfl rfl rfl qX6_has ⟨Nat.le_of_ble_eq_true rfl, Nat.le_of_ble_eq_true rfl⟩) (kg_preVR (ci := 6) (q := (RX6, TX6, 30)) (q0 := 0) hPc hK hN rfl rfl) rfl rfl hl.1 rfl (lv_room (Nat.le_of_ble_eq_true rfl)) dX6_reached_48 ⟨Nat.zero_le _, Nat.zero_le _⟩) ?_
                refine kg_b_ne (tgt := 70) hx hb hf dX6_reached_51 (by decide) (fun hc hf => ?_) (fun hc hf => ?_)
                · exact hj70 v5 v8 hf _ (lv_sub hl [0, 1, 2, 3, 4, 5, 6] rfl)
                · refine lv_aload_n hx hb dX6_reached_54 rfl (lv_at hl 0 rfl) ?_
                  refine lv_iload hx hb dX6_reached_55 (lv_at hl 4 rfl) ?_
                  refine lv_aload_n hx hb dX6_reached_57 rfl (lv_at hl 0 rfl) ?_
                  refine va_get (D := (dC, dI)) (ci := 6) (v := .ref (A 2)) (C := RX6) (T := TX6) (N := 30) hx hb hts hiX6 hown hK hP 0 rfl rfl 5 (by decide) ww1 (fun _ h9 => h9) rfl dX6_reached_58 ?_
                  refine lv_iload hx hb dX6_reached_61 (lv_at hl 6 rfl) ?_
                  obtain ⟨g63, hv, hf⟩ := ob_bind hf
                  refine kg_iald hx hb hK hP 2 0 rfl rfl hv dX6_reached_63 ?_
                  obtain ⟨g64, hc, hf⟩ := ob_bind hf
                  have hPc : va_P (dC, dI) vwCl (wMd cI cJ A x) s.heap := hP
                  refine kg_retRi (va_runV (As := [.int v5, .int g63]) (rest := []) ⟨hx, hb, hml, hown, hts⟩ (c_X6_has l dC dI cI cJ A s.heap x v5 g63 _ hc) (cwV 2 hts (gw_V wd_14_13 wd_14_10 wd_14_11 wd_14_12 wd_1_5) rfl rfl rfl qX6_has ⟨Nat.le_of_ble_eq_true rfl, Nat.le_of_ble_eq_true rfl⟩) (kg_preVR (ci := 6) (q := (RX6, TX6, 30)) (q0 := 0) hPc hK hN rfl rfl) rfl rfl hl.1 rfl (lv_room (Nat.le_of_ble_eq_true rfl)) dX6_reached_64 ⟨Nat.zero_le _, Nat.zero_le _⟩) ?_
                  refine kg_b_eq (tgt := 94) hx hb hf dX6_reached_67 (by decide) (fun hc hf => ?_) (fun hc hf => ?_)
                  · refine lv_iinc (v := (v8 + 1)) (lv' := [(8, .int (v8 + 1)), (0, .ref (A 0)), (2, .int v2), (3, .int v3), (4, .int v4), (5, .int v5), (7, .int v7)]) hx hb dX6_reached_94 hl (k := 6) rfl rfl (by decide) rfl (fun ls hl => ?_)
                    refine lv_goto (tgt := 20) hx hb dX6_reached_97 (by decide) ?_
                    obtain rfl := Option.some.inj hf
                    exact ih2 v5 (v8 + 1) hk2 _ (lv_sub hl [1, 2, 3, 4, 5, 6, 0] rfl)
                  · exact hj70 v5 v8 hf _ (lv_sub hl [0, 1, 2, 3, 4, 5, 6] rfl)
        exact hlp20 v5 FU v5 0 hf _ (lv_sub hl [2, 3, 4, 5, 6, 1, 0] rfl)
  exact hlp8  FU (1 <<< (v1 &&& 31)) 1 hf _ (lv_sub hl [2, 4, 5, 6, 1, 0] rfl)
set_option maxHeartbeats 4000000 in
set_option maxRecDepth 100000 in
theorem c_X6_isBridge (l : Launch) (dC : Nat → ClassId) (dI : Nat → Nat → Nat) (cI cJ : ClassId) (A : Nat → Nat) (hq : Heap) (x : MdS) (v1 : Int32) (r0 : Bool) (hf : Md_m_isBridge x v1 = some r0) : MRi l yX6_isBridge (wAll yX6_isBridge cX6_isBridge 2 (some .boolean)) ({ frames := 1, cells := 0, slots := 0, locals := 40 } : Room) [.ref (A 0), .int v1] hq (dC, dI) (vTy cI cJ) (wMd cI cJ A x) (b2i r0) := by
  refine kg_metR (cc := cX6_isBridge) (maxL := 2) (ret := (some .boolean)) (by decide) rfl (Nat.le_of_ble_eq_true rfl) ?_
  intro p e s m args below meth c hx hb hr hts hown hlk hml hH hP hK hN ls hl
  subst hH
  have hl : lv_has ls 2 [(0, .ref (A 0)), (1, .int v1)] := hl
  have ww0 := hts (.fieldLink RX6 41 "SafeBlocksModel" "closedBy" "[I") (List.mem_cons_of_mem _ wd_8_9)
  have hiX6 : ∀ w ∈ u_ws RX6 TX6 30, w ∈ wAll yX6_isBridge cX6_isBridge 2 (some .boolean) := fun w h => List.mem_cons_of_mem _ (inlX6 w h)
  unfold Md_m_isBridge at hf
  refine lv_aload_n hx hb dX6_isBridge_0 rfl (lv_at hl 0 rfl) ?_
  refine va_get (D := (dC, dI)) (ci := 6) (v := .ref (A 9)) (C := RX6) (T := TX6) (N := 30) hx hb hts hiX6 hown hK hP 0 rfl rfl 13 (by decide) ww0 (fun _ h9 => h9) rfl dX6_isBridge_1 ?_
  refine lv_iload_n hx hb dX6_isBridge_4 rfl (lv_at hl 1 rfl) ?_
  obtain ⟨g5, hv, hf⟩ := ob_bind hf
  refine kg_iald hx hb hK hP 9 0 rfl rfl hv dX6_isBridge_5 ?_
  refine lv_iconst (v := (-1)) hx hb dX6_isBridge_6 (by decide) ?_
  refine kg_icmp_ne (tgt := 14) hx hb hf dX6_isBridge_7 (by decide) (fun hc hf => ?_) (fun hc hf => ?_)
  · refine lv_iconst (v := 0) hx hb dX6_isBridge_14 (by decide) ?_
    obtain rfl := Option.some.inj hf
    exact kg_zretR (b := false) hx hb hr hlk rfl rfl dX6_isBridge_15
  · refine lv_iconst (v := 1) hx hb dX6_isBridge_10 (by decide) ?_
    refine lv_goto (tgt := 15) hx hb dX6_isBridge_11 (by decide) ?_
    obtain rfl := Option.some.inj hf
    exact kg_zretR (b := true) hx hb hr hlk rfl rfl dX6_isBridge_15
set_option maxHeartbeats 4000000 in
set_option maxRecDepth 100000 in
theorem c_X6_otherEnd (l : Launch) (dC : Nat → ClassId) (dI : Nat → Nat → Nat) (cI cJ : ClassId) (A : Nat → Nat) (hq : Heap) (x : MdS) (v1 : Int32) (v2 : Int32) (r0 : Int32) (hf : Md_m_otherEnd x v1 v2 = some r0) : MRi l yX6_otherEnd (wAll yX6_otherEnd cX6_otherEnd 3 (some .int)) ({ frames := 1, cells := 0, slots := 0, locals := 40 } : Room) [.ref (A 0), .int v1, .int v2] hq (dC, dI) (vTy cI cJ) (wMd cI cJ A x) r0 := by
  refine kg_metR (cc := cX6_otherEnd) (maxL := 3) (ret := (some .int)) (by decide) rfl (Nat.le_of_ble_eq_true rfl) ?_
  intro p e s m args below meth c hx hb hr hts hown hlk hml hH hP hK hN ls hl
  subst hH
  have hl : lv_has ls 3 [(0, .ref (A 0)), (1, .int v1), (2, .int v2)] := hl
  have ww0 := hts (.fieldLink RX6 13 "SafeBlocksModel" "first" "[I") (List.mem_cons_of_mem _ wd_8_0)
  have ww1 := hts (.fieldLink RX6 17 "SafeBlocksModel" "second" "[I") (List.mem_cons_of_mem _ wd_8_1)
  have hiX6 : ∀ w ∈ u_ws RX6 TX6 30, w ∈ wAll yX6_otherEnd cX6_otherEnd 3 (some .int) := fun w h => List.mem_cons_of_mem _ (inlX6 w h)
  unfold Md_m_otherEnd at hf
  refine lv_aload_n hx hb dX6_otherEnd_0 rfl (lv_at hl 0 rfl) ?_
  refine va_get (D := (dC, dI)) (ci := 6) (v := .ref (A 1)) (C := RX6) (T := TX6) (N := 30) hx hb hts hiX6 hown hK hP 0 rfl rfl 4 (by decide) ww0 (fun _ h9 => h9) rfl dX6_otherEnd_1 ?_
  refine lv_iload_n hx hb dX6_otherEnd_4 rfl (lv_at hl 1 rfl) ?_
  obtain ⟨g5, hv, hf⟩ := ob_bind hf
  refine kg_iald hx hb hK hP 1 0 rfl rfl hv dX6_otherEnd_5 ?_
  refine lv_aload_n hx hb dX6_otherEnd_6 rfl (lv_at hl 0 rfl) ?_
  refine va_get (D := (dC, dI)) (ci := 6) (v := .ref (A 2)) (C := RX6) (T := TX6) (N := 30) hx hb hts hiX6 hown hK hP 0 rfl rfl 5 (by decide) ww1 (fun _ h9 => h9) rfl dX6_otherEnd_7 ?_
  refine lv_iload_n hx hb dX6_otherEnd_10 rfl (lv_at hl 1 rfl) ?_
  obtain ⟨g11, hv, hf⟩ := ob_bind hf
  refine kg_iald hx hb hK hP 2 0 rfl rfl hv dX6_otherEnd_11 ?_
  refine lv_iadd hx hb dX6_otherEnd_12 ?_
  refine lv_iload_n hx hb dX6_otherEnd_13 rfl (lv_at hl 2 rfl) ?_
  refine lv_isub hx hb dX6_otherEnd_14 ?_
  obtain rfl := Option.some.inj hf
  exact kg_iretR hx hb hr hlk rfl dX6_otherEnd_15
set_option maxHeartbeats 4000000 in
set_option maxRecDepth 100000 in
theorem c_X6_reachedWithout (l : Launch) (dC : Nat → ClassId) (dI : Nat → Nat → Nat) (cI cJ : ClassId) (A : Nat → Nat) (hq : Heap) (x : MdS) (v1 : Int32) (v2 : Int32) (v3 : Int32) (v4 : Int32) (v5 : Int32) (r0 : Int32) (hf : Md_m_reachedWithout x v1 v2 v3 v4 v5 = some r0) : MRi l yX6_reachedWithout (wAll yX6_reachedWithout cX6_reachedWithout 10 (some .int)) ({ frames := 2, cells := 0, slots := 0, locals := 63 } : Room) [.ref (A 0), .int v1, .int v2, .int v3, .int v4, .int v5] hq (dC, dI) (vTy cI cJ) (wMd cI cJ A x) r0 := by
  refine kg_metR (cc := cX6_reachedWithout) (maxL := 10) (ret := (some .int)) (by decide) rfl (Nat.le_of_ble_eq_true rfl) ?_
  intro p e s m args below meth c hx hb hr hts hown hlk hml hH hP hK hN ls hl
  subst hH
  have hl : lv_has ls 10 [(0, .ref (A 0)), (1, .int v1), (2, .int v2), (3, .int v3), (4, .int v4), (5, .int v5)] := hl
  have ww0 := hts (.fieldLink RX6 13 "SafeBlocksModel" "first" "[I") (List.mem_cons_of_mem _ wd_8_0)
  have ww1 := hts (.fieldLink RX6 17 "SafeBlocksModel" "second" "[I") (List.mem_cons_of_mem _ wd_8_1)
  have hiX6 : ∀ w ∈ u_ws RX6 TX6 30, w ∈ wAll yX6_reachedWithout cX6_reachedWithout 10 (some .int) := fun w h => List.mem_cons_of_mem _ (inlX6 w h)
  unfold Md_m_reachedWithout at hf
  refine lv_iconst (v := 1) hx hb dX6_reachedWithout_0 (by decide) ?_
  refine lv_iload_n hx hb dX6_reachedWithout_1 rfl (lv_at hl 1 rfl) ?_
  refine lv_ishl hx hb dX6_reachedWithout_2 ?_
  refine lv_istore (lv' := [(6, .int (1 <<< (v1 &&& 31))), (0, .ref (A 0)), (1, .int v1), (2, .int v2), (3, .int v3), (4, .int v4), (5, .int v5)]) hx hb dX6_reachedWithout_3 hl (by decide) rfl (fun ls hl => ?_)
  refine lv_iconst (v := 1) hx hb dX6_reachedWithout_5 (by decide) ?_
  refine lv_istore (lv' := [(7, .int 1), (6, .int (1 <<< (v1 &&& 31))), (0, .ref (A 0)), (1, .int v1), (2, .int v2), (3, .int v3), (4, .int v4), (5, .int v5)]) hx hb dX6_reachedWithout_6 hl (by decide) rfl (fun ls hl => ?_)
  have hlp8 : ∀ (n : Nat) (v6 : Int32) (v7 : Int32), iter (fun p : Int32 × Int32 => Md_m_reachedWithout_s8 x v2 v3 v4 v5 p.1 p.2) n (v6, v7) = some r0 → ∀ (ls : Array Slot), lv_has ls 10 [(0, .ref (A 0)), (2, .int v2), (3, .int v3), (4, .int v4), (5, .int v5), (6, .int v6), (7, .int v7)] → W p l e ({ frames := 2, cells := 0, slots := 0, locals := 63 } : Room) s m args below meth c s.heap [] 0 0 (MQ below (QRi s.heap r0) args s 0 0 NoA) (F0 m 8 ls []) := by
    intro  n
    induction n with
    | zero => intro v6 v7 hf; exact iter_zero hf
    | succ n ih1 =>
      intro v6 v7 hf ls hl
      obtain ⟨q1, hf, hk1⟩ := iter_succ hf
      have hf : Md_m_reachedWithout_s8 x v2 v3 v4 v5 v6 v7 = some q1 := hf
      unfold Md_m_reachedWithout_s8 at hf
      refine lv_iload hx hb dX6_reachedWithout_8 (lv_at hl 6 rfl) ?_
      refine kg_if_eq (tgt := 129) hx hb hf dX6_reachedWithout_10 (by decide) (fun hc hf => ?_) (fun hc hf => ?_)
      · obtain ⟨qq, hf, hqq⟩ := omap_some hf
        have hkq : qq = r0 := by rw [← hqq] at hk1; exact hk1
        rw [hkq] at hf
        clear hkq hqq
        refine lv_iload hx hb dX6_reachedWithout_129 (lv_at hl 5 rfl) ?_
        obtain rfl := Option.some.inj hf
        exact kg_iretR hx hb hr hlk rfl dX6_reachedWithout_131
      · refine lv_iload hx hb dX6_reachedWithout_13 (lv_at hl 5 rfl) ?_
        refine lv_istore (lv' := [(8, .int v6), (0, .ref (A 0)), (2, .int v2), (3, .int v3), (4, .int v4), (5, .int v5), (6, .int v6), (7, .int v7)]) hx hb dX6_reachedWithout_15 hl (by decide) rfl (fun ls hl => ?_)
        refine lv_iconst (v := 0) hx hb dX6_reachedWithout_17 (by decide) ?_
        refine lv_istore (lv' := [(9, .int 0), (8, .int v6), (0, .ref (A 0)), (2, .int v2), (3, .int v3), (4, .int v4), (5, .int v5), (6, .int v6), (7, .int v7)]) hx hb dX6_reachedWithout_18 hl (by decide) rfl (fun ls hl => ?_)
        have hlp20 : ∀ (v8 : Int32), ∀ (n : Nat) (v6 : Int32) (v9 : Int32), iter (fun p : Int32 × Int32 => Md_m_reachedWithout_s20 x v2 v3 v4 v5 v8 p.1 p.2) n (v6, v9) = some q1 → ∀ (ls : Array Slot), lv_has ls 10 [(0, .ref (A 0)), (2, .int v2), (3, .int v3), (4, .int v4), (5, .int v5), (6, .int v6), (8, .int v8), (9, .int v9)] → W p l e ({ frames := 2, cells := 0, slots := 0, locals := 63 } : Room) s m args below meth c s.heap [] 0 0 (MQ below (QRi s.heap r0) args s 0 0 NoA) (F0 m 20 ls []) := by
          intro v8 n
          induction n with
          | zero => intro v6 v9 hf; exact iter_zero hf
          | succ n ih2 =>
            intro v6 v9 hf ls hl
            obtain ⟨q2, hf, hk2⟩ := iter_succ hf
            have hf : Md_m_reachedWithout_s20 x v2 v3 v4 v5 v8 v6 v9 = some q2 := hf
            unfold Md_m_reachedWithout_s20 at hf
            have hj82 : ∀ (v6 : Int32) (v9 : Int32), Md_m_reachedWithout_j82 x v2 v3 v4 v5 v6 v8 v9 = some q2 → ∀ (ls : Array Slot), lv_has ls 10 [(0, .ref (A 0)), (2, .int v2), (3, .int v3), (4, .int v4), (5, .int v5), (6, .int v6), (8, .int v8), (9, .int v9)] → W p l e ({ frames := 2, cells := 0, slots := 0, locals := 63 } : Room) s m args below meth c s.heap [] 0 0 (MQ below (QRi s.heap r0) args s 0 0 NoA) (F0 m 82 ls []) := by
              intro v6 v9 hf ls hl
              unfold Md_m_reachedWithout_j82 at hf
              refine lv_iload hx hb dX6_reachedWithout_82 (lv_at hl 5 rfl) ?_
              refine lv_iconst (v := 1) hx hb dX6_reachedWithout_84 (by decide) ?_
              refine lv_aload_n hx hb dX6_reachedWithout_85 rfl (lv_at hl 0 rfl) ?_
              refine va_get (D := (dC, dI)) (ci := 6) (v := .ref (A 1)) (C := RX6) (T := TX6) (N := 30) hx hb hts hiX6 hown hK hP 0 rfl rfl 4 (by decide) ww0 (fun _ h9 => h9) rfl dX6_reachedWithout_86 ?_
              refine lv_iload hx hb dX6_reachedWithout_89 (lv_at hl 7 rfl) ?_
              obtain ⟨g91, hv, hf⟩ := ob_bind hf
              refine kg_iald hx hb hK hP 1 0 rfl rfl hv dX6_reachedWithout_91 ?_
              refine lv_ishl hx hb dX6_reachedWithout_92 ?_
              refine lv_ior hx hb dX6_reachedWithout_93 ?_
              refine lv_iconst (v := 1) hx hb dX6_reachedWithout_94 (by decide) ?_
              refine lv_aload_n hx hb dX6_reachedWithout_95 rfl (lv_at hl 0 rfl) ?_
              refine va_get (D := (dC, dI)) (ci := 6) (v := .ref (A 2)) (C := RX6) (T := TX6) (N := 30) hx hb hts hiX6 hown hK hP 0 rfl rfl 5 (by decide) ww1 (fun _ h9 => h9) rfl dX6_reachedWithout_96 ?_
              refine lv_iload hx hb dX6_reachedWithout_99 (lv_at hl 7 rfl) ?_
              obtain ⟨g101, hv, hf⟩ := ob_bind hf
              refine kg_iald hx hb hK hP 2 0 rfl rfl hv dX6_reachedWithout_101 ?_
              refine lv_ishl hx hb dX6_reachedWithout_102 ?_
              refine lv_ior hx hb dX6_reachedWithout_103 ?_
              refine lv_istore (lv' := [(6, .int ((v6 ||| (1 <<< (g91 &&& 31))) ||| (1 <<< (g101 &&& 31)))), (0, .ref (A 0)), (2, .int v2), (3, .int v3), (4, .int v4), (5, .int v5), (8, .int v8), (9, .int v9)]) hx hb dX6_reachedWithout_104 hl (by decide) rfl (fun ls hl => ?_)
              refine lv_iinc (v := (v9 + 1)) (lv' := [(9, .int (v9 + 1)), (6, .int ((v6 ||| (1 <<< (g91 &&& 31))) ||| (1 <<< (g101 &&& 31)))), (0, .ref (A 0)), (2, .int v2), (3, .int v3), (4, .int v4), (5, .int v5), (8, .int v8)]) hx hb dX6_reachedWithout_106 hl (k := 7) rfl rfl (by decide) rfl (fun ls hl => ?_)
              refine lv_goto (tgt := 20) hx hb dX6_reachedWithout_109 (by decide) ?_
              obtain rfl := Option.some.inj hf
              exact ih2 ((v6 ||| (1 <<< (g91 &&& 31))) ||| (1 <<< (g101 &&& 31))) (v9 + 1) hk2 _ (lv_sub hl [2, 3, 4, 5, 6, 1, 7, 0] rfl)
            refine lv_iload hx hb dX6_reachedWithout_20 (lv_at hl 7 rfl) ?_
            refine lv_iload_n hx hb dX6_reachedWithout_22 rfl (lv_at hl 1 rfl) ?_
            refine kg_icmp_ge (tgt := 112) hx hb hf dX6_reachedWithout_23 (by decide) (fun hc hf => ?_) (fun hc hf => ?_)
            · obtain ⟨qq, hf, hqq⟩ := omap_some hf
              have hkq : qq = q1 := by rw [← hqq] at hk2; exact hk2
              rw [hkq] at hf
              clear hkq hqq
              refine lv_iload hx hb dX6_reachedWithout_112 (lv_at hl 6 rfl) ?_
              refine lv_iload hx hb dX6_reachedWithout_114 (lv_at hl 5 rfl) ?_
              refine kg_icmp_eq (tgt := 123) hx hb hf dX6_reachedWithout_116 (by decide) (fun hc hf => ?_) (fun hc hf => ?_)
              · refine lv_iconst (v := 0) hx hb dX6_reachedWithout_123 (by decide) ?_
                refine lv_istore (lv' := [(7, .int 0), (0, .ref (A 0)), (2, .int v2), (3, .int v3), (4, .int v4), (5, .int v5), (6, .int v6), (8, .int v8), (9, .int v9)]) hx hb dX6_reachedWithout_124 hl (by decide) rfl (fun ls hl => ?_)
                refine lv_goto (tgt := 8) hx hb dX6_reachedWithout_126 (by decide) ?_
                obtain rfl := Option.some.inj hf
                exact ih1 v6 0 hk1 _ (lv_sub hl [1, 2, 3, 4, 5, 6, 0] rfl)
              · refine lv_iconst (v := 1) hx hb dX6_reachedWithout_119 (by decide) ?_
                refine lv_goto (tgt := 124) hx hb dX6_reachedWithout_120 (by decide) ?_
                refine lv_istore (lv' := [(7, .int 1), (0, .ref (A 0)), (2, .int v2), (3, .int v3), (4, .int v4), (5, .int v5), (6, .int v6), (8, .int v8), (9, .int v9)]) hx hb dX6_reachedWithout_124 hl (by decide) rfl (fun ls hl => ?_)
                refine lv_goto (tgt := 8) hx hb dX6_reachedWithout_126 (by decide) ?_
                obtain rfl := Option.some.inj hf
                exact ih1 v6 1 hk1 _ (lv_sub hl [1, 2, 3, 4, 5, 6, 0] rfl)
            · refine lv_aload_n hx hb dX6_reachedWithout_26 rfl (lv_at hl 0 rfl) ?_
              refine lv_iload hx hb dX6_reachedWithout_27 (lv_at hl 7 rfl) ?_
              refine lv_iload_n hx hb dX6_reachedWithout_29 rfl (lv_at hl 2 rfl) ?_
              refine lv_iload hx hb dX6_reachedWithout_30 (lv_at hl 3 rfl) ?_
              obtain ⟨g32, hc, hf⟩ := ob_bind hf
              have hPc : va_P (dC, dI) vwCl (wMd cI cJ A x) s.heap := hP
              refine kg_retRi (va_runV (As := [.int v9, .int v3, .int v4]) (rest := []) ⟨hx, hb, hml, hown, hts⟩ (c_X6_isOut l dC dI cI cJ A s.heap x v9 v3 v4 _ hc) (cwV 3 hts (gw_V wd_19_10 wd_19_7 wd_19_8 wd_19_9 wd_1_5) rfl rfl rfl qX6_isOut ⟨Nat.le_of_ble_eq_true rfl, Nat.le_of_ble_eq_true rfl⟩) (kg_preVR (ci := 6) (q := (RX6, TX6, 30)) (q0 := 0) hPc hK hN rfl rfl) rfl rfl hl.1 rfl (lv_room (Nat.le_of_ble_eq_true rfl)) dX6_reachedWithout_32 ⟨Nat.zero_le _, Nat.zero_le _⟩) ?_
              refine kg_b_ne (tgt := 106) hx hb hf dX6_reachedWithout_35 (by decide) (fun hc hf => ?_) (fun hc hf => ?_)
              · refine lv_iinc (v := (v9 + 1)) (lv' := [(9, .int (v9 + 1)), (0, .ref (A 0)), (2, .int v2), (3, .int v3), (4, .int v4), (5, .int v5), (6, .int v6), (8, .int v8)]) hx hb dX6_reachedWithout_106 hl (k := 7) rfl rfl (by decide) rfl (fun ls hl => ?_)
                refine lv_goto (tgt := 20) hx hb dX6_reachedWithout_109 (by decide) ?_
                obtain rfl := Option.some.inj hf
                exact ih2 v6 (v9 + 1) hk2 _ (lv_sub hl [1, 2, 3, 4, 5, 6, 7, 0] rfl)
              · refine lv_aload_n hx hb dX6_reachedWithout_38 rfl (lv_at hl 0 rfl) ?_
                refine lv_iload hx hb dX6_reachedWithout_39 (lv_at hl 7 rfl) ?_
                refine lv_iconst (v := (-1)) hx hb dX6_reachedWithout_41 (by decide) ?_
                refine lv_iload hx hb dX6_reachedWithout_42 (lv_at hl 4 rfl) ?_
                obtain ⟨g44, hc, hf⟩ := ob_bind hf
                have hPc : va_P (dC, dI) vwCl (wMd cI cJ A x) s.heap := hP
                refine kg_retRi (va_runV (As := [.int v9, .int (-1), .int v5]) (rest := []) ⟨hx, hb, hml, hown, hts⟩ (c_X6_isOut l dC dI cI cJ A s.heap x v9 (-1) v5 _ hc) (cwV 3 hts (gw_V wd_19_10 wd_19_7 wd_19_8 wd_19_9 wd_1_5) rfl rfl rfl qX6_isOut ⟨Nat.le_of_ble_eq_true rfl, Nat.le_of_ble_eq_true rfl⟩) (kg_preVR (ci := 6) (q := (RX6, TX6, 30)) (q0 := 0) hPc hK hN rfl rfl) rfl rfl hl.1 rfl (lv_room (Nat.le_of_ble_eq_true rfl)) dX6_reachedWithout_44 ⟨Nat.zero_le _, Nat.zero_le _⟩) ?_
                refine kg_b_ne (tgt := 106) hx hb hf dX6_reachedWithout_47 (by decide) (fun hc hf => ?_) (fun hc hf => ?_)
                · refine lv_iinc (v := (v9 + 1)) (lv' := [(9, .int (v9 + 1)), (0, .ref (A 0)), (2, .int v2), (3, .int v3), (4, .int v4), (5, .int v5), (6, .int v6), (8, .int v8)]) hx hb dX6_reachedWithout_106 hl (k := 7) rfl rfl (by decide) rfl (fun ls hl => ?_)
                  refine lv_goto (tgt := 20) hx hb dX6_reachedWithout_109 (by decide) ?_
                  obtain rfl := Option.some.inj hf
                  exact ih2 v6 (v9 + 1) hk2 _ (lv_sub hl [1, 2, 3, 4, 5, 6, 7, 0] rfl)
                · refine lv_aload_n hx hb dX6_reachedWithout_50 rfl (lv_at hl 0 rfl) ?_
                  refine lv_iload hx hb dX6_reachedWithout_51 (lv_at hl 5 rfl) ?_
                  refine lv_aload_n hx hb dX6_reachedWithout_53 rfl (lv_at hl 0 rfl) ?_
                  refine va_get (D := (dC, dI)) (ci := 6) (v := .ref (A 1)) (C := RX6) (T := TX6) (N := 30) hx hb hts hiX6 hown hK hP 0 rfl rfl 4 (by decide) ww0 (fun _ h9 => h9) rfl dX6_reachedWithout_54 ?_
                  refine lv_iload hx hb dX6_reachedWithout_57 (lv_at hl 7 rfl) ?_
                  obtain ⟨g59, hv, hf⟩ := ob_bind hf
                  refine kg_iald hx hb hK hP 1 0 rfl rfl hv dX6_reachedWithout_59 ?_
                  obtain ⟨g60, hc, hf⟩ := ob_bind hf
                  have hPc : va_P (dC, dI) vwCl (wMd cI cJ A x) s.heap := hP
                  refine kg_retRi (va_runV (As := [.int v6, .int g59]) (rest := []) ⟨hx, hb, hml, hown, hts⟩ (c_X6_has l dC dI cI cJ A s.heap x v6 g59 _ hc) (cwV 2 hts (gw_V wd_14_13 wd_14_10 wd_14_11 wd_14_12 wd_1_5) rfl rfl rfl qX6_has ⟨Nat.le_of_ble_eq_true rfl, Nat.le_of_ble_eq_true rfl⟩) (kg_preVR (ci := 6) (q := (RX6, TX6, 30)) (q0 := 0) hPc hK hN rfl rfl) rfl rfl hl.1 rfl (lv_room (Nat.le_of_ble_eq_true rfl)) dX6_reachedWithout_60 ⟨Nat.zero_le _, Nat.zero_le _⟩) ?_
                  refine kg_b_ne (tgt := 82) hx hb hf dX6_reachedWithout_63 (by decide) (fun hc hf => ?_) (fun hc hf => ?_)
                  · exact hj82 v6 v9 hf _ (lv_sub hl [0, 1, 2, 3, 4, 5, 6, 7] rfl)
                  · refine lv_aload_n hx hb dX6_reachedWithout_66 rfl (lv_at hl 0 rfl) ?_
                    refine lv_iload hx hb dX6_reachedWithout_67 (lv_at hl 5 rfl) ?_
                    refine lv_aload_n hx hb dX6_reachedWithout_69 rfl (lv_at hl 0 rfl) ?_
                    refine va_get (D := (dC, dI)) (ci := 6) (v := .ref (A 2)) (C := RX6) (T := TX6) (N := 30) hx hb hts hiX6 hown hK hP 0 rfl rfl 5 (by decide) ww1 (fun _ h9 => h9) rfl dX6_reachedWithout_70 ?_
                    refine lv_iload hx hb dX6_reachedWithout_73 (lv_at hl 7 rfl) ?_
                    obtain ⟨g75, hv, hf⟩ := ob_bind hf
                    refine kg_iald hx hb hK hP 2 0 rfl rfl hv dX6_reachedWithout_75 ?_
                    obtain ⟨g76, hc, hf⟩ := ob_bind hf
                    have hPc : va_P (dC, dI) vwCl (wMd cI cJ A x) s.heap := hP
                    refine kg_retRi (va_runV (As := [.int v6, .int g75]) (rest := []) ⟨hx, hb, hml, hown, hts⟩ (c_X6_has l dC dI cI cJ A s.heap x v6 g75 _ hc) (cwV 2 hts (gw_V wd_14_13 wd_14_10 wd_14_11 wd_14_12 wd_1_5) rfl rfl rfl qX6_has ⟨Nat.le_of_ble_eq_true rfl, Nat.le_of_ble_eq_true rfl⟩) (kg_preVR (ci := 6) (q := (RX6, TX6, 30)) (q0 := 0) hPc hK hN rfl rfl) rfl rfl hl.1 rfl (lv_room (Nat.le_of_ble_eq_true rfl)) dX6_reachedWithout_76 ⟨Nat.zero_le _, Nat.zero_le _⟩) ?_
                    refine kg_b_eq (tgt := 106) hx hb hf dX6_reachedWithout_79 (by decide) (fun hc hf => ?_) (fun hc hf => ?_)
                    · refine lv_iinc (v := (v9 + 1)) (lv' := [(9, .int (v9 + 1)), (0, .ref (A 0)), (2, .int v2), (3, .int v3), (4, .int v4), (5, .int v5), (6, .int v6), (8, .int v8)]) hx hb dX6_reachedWithout_106 hl (k := 7) rfl rfl (by decide) rfl (fun ls hl => ?_)
                      refine lv_goto (tgt := 20) hx hb dX6_reachedWithout_109 (by decide) ?_
                      obtain rfl := Option.some.inj hf
                      exact ih2 v6 (v9 + 1) hk2 _ (lv_sub hl [1, 2, 3, 4, 5, 6, 7, 0] rfl)
                    · exact hj82 v6 v9 hf _ (lv_sub hl [0, 1, 2, 3, 4, 5, 6, 7] rfl)
        exact hlp20 v6 FU v6 0 hf _ (lv_sub hl [2, 3, 4, 5, 6, 7, 1, 0] rfl)
  exact hlp8  FU (1 <<< (v1 &&& 31)) 1 hf _ (lv_sub hl [2, 4, 5, 6, 7, 1, 0] rfl)
set_option maxHeartbeats 4000000 in
set_option maxRecDepth 100000 in
theorem c_X6_linksNamed (l : Launch) (dC : Nat → ClassId) (dI : Nat → Nat → Nat) (cI cJ : ClassId) (A : Nat → Nat) (hq : Heap) (x : MdS) (v1 : Int32) (v2 : Int32) (r0 : Int32) (hf : Md_m_linksNamed x v1 v2 = some r0) : MRi l yX6_linksNamed (wAll yX6_linksNamed cX6_linksNamed 5 (some .int)) ({ frames := 1, cells := 0, slots := 0, locals := 40 } : Room) [.ref (A 0), .int v1, .int v2] hq (dC, dI) (vTy cI cJ) (wMd cI cJ A x) r0 := by
  refine kg_metR (cc := cX6_linksNamed) (maxL := 5) (ret := (some .int)) (by decide) rfl (Nat.le_of_ble_eq_true rfl) ?_
  intro p e s m args below meth c hx hb hr hts hown hlk hml hH hP hK hN ls hl
  subst hH
  have hl : lv_has ls 5 [(0, .ref (A 0)), (1, .int v1), (2, .int v2)] := hl
  have ww0 := hts (.fieldLink RX6 50 "SafeBlocksModel" "partName" "[I") (List.mem_cons_of_mem _ wd_8_12)
  have hiX6 : ∀ w ∈ u_ws RX6 TX6 30, w ∈ wAll yX6_linksNamed cX6_linksNamed 5 (some .int) := fun w h => List.mem_cons_of_mem _ (inlX6 w h)
  unfold Md_m_linksNamed at hf
  refine lv_iconst (v := 0) hx hb dX6_linksNamed_0 (by decide) ?_
  refine lv_istore_n (lv' := [(3, .int 0), (0, .ref (A 0)), (1, .int v1), (2, .int v2)]) hx hb dX6_linksNamed_1 rfl hl (by decide) rfl (fun ls hl => ?_)
  refine lv_iconst (v := 0) hx hb dX6_linksNamed_2 (by decide) ?_
  refine lv_istore (lv' := [(4, .int 0), (3, .int 0), (0, .ref (A 0)), (1, .int v1), (2, .int v2)]) hx hb dX6_linksNamed_3 hl (by decide) rfl (fun ls hl => ?_)
  have hlp5 : ∀ (n : Nat) (v3 : Int32) (v4 : Int32), iter (fun p : Int32 × Int32 => Md_m_linksNamed_s5 x v1 v2 p.1 p.2) n (v3, v4) = some r0 → ∀ (ls : Array Slot), lv_has ls 5 [(0, .ref (A 0)), (1, .int v1), (2, .int v2), (3, .int v3), (4, .int v4)] → W p l e ({ frames := 1, cells := 0, slots := 0, locals := 40 } : Room) s m args below meth c s.heap [] 0 0 (MQ below (QRi s.heap r0) args s 0 0 NoA) (F0 m 5 ls []) := by
    intro  n
    induction n with
    | zero => intro v3 v4 hf; exact iter_zero hf
    | succ n ih1 =>
      intro v3 v4 hf ls hl
      obtain ⟨q1, hf, hk1⟩ := iter_succ hf
      have hf : Md_m_linksNamed_s5 x v1 v2 v3 v4 = some q1 := hf
      unfold Md_m_linksNamed_s5 at hf
      refine lv_iload hx hb dX6_linksNamed_5 (lv_at hl 4 rfl) ?_
      refine lv_iload_n hx hb dX6_linksNamed_7 rfl (lv_at hl 2 rfl) ?_
      refine kg_icmp_ge (tgt := 32) hx hb hf dX6_linksNamed_8 (by decide) (fun hc hf => ?_) (fun hc hf => ?_)
      · obtain ⟨qq, hf, hqq⟩ := omap_some hf
        have hkq : qq = r0 := by rw [← hqq] at hk1; exact hk1
        rw [hkq] at hf
        clear hkq hqq
        refine lv_iload_n hx hb dX6_linksNamed_32 rfl (lv_at hl 3 rfl) ?_
        obtain rfl := Option.some.inj hf
        exact kg_iretR hx hb hr hlk rfl dX6_linksNamed_33
      · refine lv_aload_n hx hb dX6_linksNamed_11 rfl (lv_at hl 0 rfl) ?_
        refine va_get (D := (dC, dI)) (ci := 6) (v := .ref (A 11)) (C := RX6) (T := TX6) (N := 30) hx hb hts hiX6 hown hK hP 0 rfl rfl 21 (by decide) ww0 (fun _ h9 => h9) rfl dX6_linksNamed_12 ?_
        refine lv_iload hx hb dX6_linksNamed_15 (lv_at hl 4 rfl) ?_
        obtain ⟨g17, hv, hf⟩ := ob_bind hf
        refine kg_iald hx hb hK hP 11 0 rfl rfl hv dX6_linksNamed_17 ?_
        refine lv_iload_n hx hb dX6_linksNamed_18 rfl (lv_at hl 1 rfl) ?_
        refine kg_icmp_ne (tgt := 26) hx hb hf dX6_linksNamed_19 (by decide) (fun hc hf => ?_) (fun hc hf => ?_)
        · refine lv_iinc (v := (v4 + 1)) (lv' := [(4, .int (v4 + 1)), (0, .ref (A 0)), (1, .int v1), (2, .int v2), (3, .int v3)]) hx hb dX6_linksNamed_26 hl (k := 4) rfl rfl (by decide) rfl (fun ls hl => ?_)
          refine lv_goto (tgt := 5) hx hb dX6_linksNamed_29 (by decide) ?_
          obtain rfl := Option.some.inj hf
          exact ih1 v3 (v4 + 1) hk1 _ (lv_sub hl [1, 2, 3, 4, 0] rfl)
        · refine lv_iload_n hx hb dX6_linksNamed_22 rfl (lv_at hl 3 rfl) ?_
          refine lv_iconst (v := 1) hx hb dX6_linksNamed_23 (by decide) ?_
          refine lv_iadd hx hb dX6_linksNamed_24 ?_
          refine lv_istore_n (lv' := [(3, .int (v3 + 1)), (0, .ref (A 0)), (1, .int v1), (2, .int v2), (4, .int v4)]) hx hb dX6_linksNamed_25 rfl hl (by decide) rfl (fun ls hl => ?_)
          refine lv_iinc (v := (v4 + 1)) (lv' := [(4, .int (v4 + 1)), (3, .int (v3 + 1)), (0, .ref (A 0)), (1, .int v1), (2, .int v2)]) hx hb dX6_linksNamed_26 hl (k := 4) rfl rfl (by decide) rfl (fun ls hl => ?_)
          refine lv_goto (tgt := 5) hx hb dX6_linksNamed_29 (by decide) ?_
          obtain rfl := Option.some.inj hf
          exact ih1 (v3 + 1) (v4 + 1) hk1 _ (lv_sub hl [2, 3, 4, 1, 0] rfl)
  exact hlp5  FU 0 0 hf _ (lv_sub hl [2, 3, 4, 1, 0] rfl)
set_option maxHeartbeats 4000000 in
set_option maxRecDepth 100000 in
theorem c_X6_partNumber (l : Launch) (dC : Nat → ClassId) (dI : Nat → Nat → Nat) (cI cJ : ClassId) (A : Nat → Nat) (hq : Heap) (x : MdS) (v1 : Int32) (r0 : Int32) (hf : Md_m_partNumber x v1 = some r0) : MRi l yX6_partNumber (wAll yX6_partNumber cX6_partNumber 4 (some .int)) ({ frames := 1, cells := 0, slots := 0, locals := 40 } : Room) [.ref (A 0), .int v1] hq (dC, dI) (vTy cI cJ) (wMd cI cJ A x) r0 := by
  refine kg_metR (cc := cX6_partNumber) (maxL := 4) (ret := (some .int)) (by decide) rfl (Nat.le_of_ble_eq_true rfl) ?_
  intro p e s m args below meth c hx hb hr hts hown hlk hml hH hP hK hN ls hl
  subst hH
  have hl : lv_has ls 4 [(0, .ref (A 0)), (1, .int v1)] := hl
  have ww0 := hts (.fieldLink RX6 44 "SafeBlocksModel" "partOf" "[I") (List.mem_cons_of_mem _ wd_8_10)
  have hiX6 : ∀ w ∈ u_ws RX6 TX6 30, w ∈ wAll yX6_partNumber cX6_partNumber 4 (some .int) := fun w h => List.mem_cons_of_mem _ (inlX6 w h)
  unfold Md_m_partNumber at hf
  refine lv_iconst (v := 0) hx hb dX6_partNumber_0 (by decide) ?_
  refine lv_istore_n (lv' := [(2, .int 0), (0, .ref (A 0)), (1, .int v1)]) hx hb dX6_partNumber_1 rfl hl (by decide) rfl (fun ls hl => ?_)
  refine lv_iconst (v := 0) hx hb dX6_partNumber_2 (by decide) ?_
  refine lv_istore_n (lv' := [(3, .int 0), (2, .int 0), (0, .ref (A 0)), (1, .int v1)]) hx hb dX6_partNumber_3 rfl hl (by decide) rfl (fun ls hl => ?_)
  have hlp4 : ∀ (n : Nat) (v2 : Int32) (v3 : Int32), iter (fun p : Int32 × Int32 => Md_m_partNumber_s4 x v1 p.1 p.2) n (v2, v3) = some r0 → ∀ (ls : Array Slot), lv_has ls 4 [(0, .ref (A 0)), (1, .int v1), (2, .int v2), (3, .int v3)] → W p l e ({ frames := 1, cells := 0, slots := 0, locals := 40 } : Room) s m args below meth c s.heap [] 0 0 (MQ below (QRi s.heap r0) args s 0 0 NoA) (F0 m 4 ls []) := by
    intro  n
    induction n with
    | zero => intro v2 v3 hf; exact iter_zero hf
    | succ n ih1 =>
      intro v2 v3 hf ls hl
      obtain ⟨q1, hf, hk1⟩ := iter_succ hf
      have hf : Md_m_partNumber_s4 x v1 v2 v3 = some q1 := hf
      unfold Md_m_partNumber_s4 at hf
      refine lv_iload_n hx hb dX6_partNumber_4 rfl (lv_at hl 3 rfl) ?_
      refine lv_aload_n hx hb dX6_partNumber_5 rfl (lv_at hl 0 rfl) ?_
      refine va_get (D := (dC, dI)) (ci := 6) (v := .ref (A 10)) (C := RX6) (T := TX6) (N := 30) hx hb hts hiX6 hown hK hP 0 rfl rfl 18 (by decide) ww0 (fun _ h9 => h9) rfl dX6_partNumber_6 ?_
      refine lv_iload_n hx hb dX6_partNumber_9 rfl (lv_at hl 1 rfl) ?_
      obtain ⟨g10, hv, hf⟩ := ob_bind hf
      refine kg_iald hx hb hK hP 10 0 rfl rfl hv dX6_partNumber_10 ?_
      refine kg_icmp_ge (tgt := 34) hx hb hf dX6_partNumber_11 (by decide) (fun hc hf => ?_) (fun hc hf => ?_)
      · obtain ⟨qq, hf, hqq⟩ := omap_some hf
        have hkq : qq = r0 := by rw [← hqq] at hk1; exact hk1
        rw [hkq] at hf
        clear hkq hqq
        refine lv_iload_n hx hb dX6_partNumber_34 rfl (lv_at hl 2 rfl) ?_
        obtain rfl := Option.some.inj hf
        exact kg_iretR hx hb hr hlk rfl dX6_partNumber_35
      · refine lv_aload_n hx hb dX6_partNumber_14 rfl (lv_at hl 0 rfl) ?_
        refine va_get (D := (dC, dI)) (ci := 6) (v := .ref (A 10)) (C := RX6) (T := TX6) (N := 30) hx hb hts hiX6 hown hK hP 0 rfl rfl 18 (by decide) ww0 (fun _ h9 => h9) rfl dX6_partNumber_15 ?_
        refine lv_iload_n hx hb dX6_partNumber_18 rfl (lv_at hl 3 rfl) ?_
        obtain ⟨g19, hv, hf⟩ := ob_bind hf
        refine kg_iald hx hb hK hP 10 0 rfl rfl hv dX6_partNumber_19 ?_
        refine lv_iload_n hx hb dX6_partNumber_20 rfl (lv_at hl 3 rfl) ?_
        refine kg_icmp_ne (tgt := 28) hx hb hf dX6_partNumber_21 (by decide) (fun hc hf => ?_) (fun hc hf => ?_)
        · refine lv_iinc (v := (v3 + 1)) (lv' := [(3, .int (v3 + 1)), (0, .ref (A 0)), (1, .int v1), (2, .int v2)]) hx hb dX6_partNumber_28 hl (k := 3) rfl rfl (by decide) rfl (fun ls hl => ?_)
          refine lv_goto (tgt := 4) hx hb dX6_partNumber_31 (by decide) ?_
          obtain rfl := Option.some.inj hf
          exact ih1 v2 (v3 + 1) hk1 _ (lv_sub hl [1, 2, 3, 0] rfl)
        · refine lv_iload_n hx hb dX6_partNumber_24 rfl (lv_at hl 2 rfl) ?_
          refine lv_iconst (v := 1) hx hb dX6_partNumber_25 (by decide) ?_
          refine lv_iadd hx hb dX6_partNumber_26 ?_
          refine lv_istore_n (lv' := [(2, .int (v2 + 1)), (0, .ref (A 0)), (1, .int v1), (3, .int v3)]) hx hb dX6_partNumber_27 rfl hl (by decide) rfl (fun ls hl => ?_)
          refine lv_iinc (v := (v3 + 1)) (lv' := [(3, .int (v3 + 1)), (2, .int (v2 + 1)), (0, .ref (A 0)), (1, .int v1)]) hx hb dX6_partNumber_28 hl (k := 3) rfl rfl (by decide) rfl (fun ls hl => ?_)
          refine lv_goto (tgt := 4) hx hb dX6_partNumber_31 (by decide) ?_
          obtain rfl := Option.some.inj hf
          exact ih1 (v2 + 1) (v3 + 1) hk1 _ (lv_sub hl [2, 3, 1, 0] rfl)
  exact hlp4  FU 0 0 hf _ (lv_sub hl [2, 3, 1, 0] rfl)
set_option maxHeartbeats 4000000 in
set_option maxRecDepth 100000 in
theorem c_X6_partsAt (l : Launch) (dC : Nat → ClassId) (dI : Nat → Nat → Nat) (cI cJ : ClassId) (A : Nat → Nat) (hq : Heap) (x : MdS) (v1 : Int32) (v2 : Int32) (r0 : Int32) (hf : Md_m_partsAt x v1 v2 = some r0) : MRi l yX6_partsAt (wAll yX6_partsAt cX6_partsAt 7 (some .int)) ({ frames := 2, cells := 0, slots := 0, locals := 61 } : Room) [.ref (A 0), .int v1, .int v2] hq (dC, dI) (vTy cI cJ) (wMd cI cJ A x) r0 := by
  refine kg_metR (cc := cX6_partsAt) (maxL := 7) (ret := (some .int)) (by decide) rfl (Nat.le_of_ble_eq_true rfl) ?_
  intro p e s m args below meth c hx hb hr hts hown hlk hml hH hP hK hN ls hl
  subst hH
  have hl : lv_has ls 7 [(0, .ref (A 0)), (1, .int v1), (2, .int v2)] := hl
  have ww0 := hts (.fieldLink RX6 78 "SafeBlocksModel" "m" "I") (List.mem_cons_of_mem _ wd_9_6)
  have ww1 := hts (.fieldLink RX6 13 "SafeBlocksModel" "first" "[I") (List.mem_cons_of_mem _ wd_8_0)
  have ww2 := hts (.fieldLink RX6 17 "SafeBlocksModel" "second" "[I") (List.mem_cons_of_mem _ wd_8_1)
  have ww3 := hts (.fieldLink RX6 44 "SafeBlocksModel" "partOf" "[I") (List.mem_cons_of_mem _ wd_8_10)
  have hiX6 : ∀ w ∈ u_ws RX6 TX6 30, w ∈ wAll yX6_partsAt cX6_partsAt 7 (some .int) := fun w h => List.mem_cons_of_mem _ (inlX6 w h)
  unfold Md_m_partsAt at hf
  refine lv_iconst (v := 0) hx hb dX6_partsAt_0 (by decide) ?_
  refine lv_istore_n (lv' := [(3, .int 0), (0, .ref (A 0)), (1, .int v1), (2, .int v2)]) hx hb dX6_partsAt_1 rfl hl (by decide) rfl (fun ls hl => ?_)
  refine lv_iconst (v := 0) hx hb dX6_partsAt_2 (by decide) ?_
  refine lv_istore (lv' := [(4, .int 0), (3, .int 0), (0, .ref (A 0)), (1, .int v1), (2, .int v2)]) hx hb dX6_partsAt_3 hl (by decide) rfl (fun ls hl => ?_)
  have hlp5 : ∀ (n : Nat) (v3 : Int32) (v4 : Int32), iter (fun p : Int32 × Int32 => Md_m_partsAt_s5 x v1 v2 p.1 p.2) n (v3, v4) = some r0 → ∀ (ls : Array Slot), lv_has ls 7 [(0, .ref (A 0)), (1, .int v1), (2, .int v2), (3, .int v3), (4, .int v4)] → W p l e ({ frames := 2, cells := 0, slots := 0, locals := 61 } : Room) s m args below meth c s.heap [] 0 0 (MQ below (QRi s.heap r0) args s 0 0 NoA) (F0 m 5 ls []) := by
    intro  n
    induction n with
    | zero => intro v3 v4 hf; exact iter_zero hf
    | succ n ih1 =>
      intro v3 v4 hf ls hl
      obtain ⟨q1, hf, hk1⟩ := iter_succ hf
      have hf : Md_m_partsAt_s5 x v1 v2 v3 v4 = some q1 := hf
      unfold Md_m_partsAt_s5 at hf
      refine lv_iload hx hb dX6_partsAt_5 (lv_at hl 4 rfl) ?_
      refine lv_aload_n hx hb dX6_partsAt_7 rfl (lv_at hl 0 rfl) ?_
      refine va_get (D := (dC, dI)) (ci := 6) (v := .int (Md_m x)) (C := RX6) (T := TX6) (N := 30) hx hb hts hiX6 hown hK hP 0 rfl rfl 2 (by decide) ww0 (fun _ h9 => h9) rfl dX6_partsAt_8 ?_
      refine kg_icmp_ge (tgt := 125) hx hb hf dX6_partsAt_11 (by decide) (fun hc hf => ?_) (fun hc hf => ?_)
      · obtain ⟨qq, hf, hqq⟩ := omap_some hf
        have hkq : qq = r0 := by rw [← hqq] at hk1; exact hk1
        rw [hkq] at hf
        clear hkq hqq
        refine lv_iload_n hx hb dX6_partsAt_125 rfl (lv_at hl 3 rfl) ?_
        obtain rfl := Option.some.inj hf
        exact kg_iretR hx hb hr hlk rfl dX6_partsAt_126
      · refine lv_iconst (v := 0) hx hb dX6_partsAt_14 (by decide) ?_
        refine lv_istore (lv' := [(5, .int 0), (0, .ref (A 0)), (1, .int v1), (2, .int v2), (3, .int v3), (4, .int v4)]) hx hb dX6_partsAt_15 hl (by decide) rfl (fun ls hl => ?_)
        refine lv_iconst (v := 0) hx hb dX6_partsAt_17 (by decide) ?_
        refine lv_istore (lv' := [(6, .int 0), (5, .int 0), (0, .ref (A 0)), (1, .int v1), (2, .int v2), (3, .int v3), (4, .int v4)]) hx hb dX6_partsAt_18 hl (by decide) rfl (fun ls hl => ?_)
        have hlp20 : ∀ (v3 : Int32) (v4 : Int32), ∀ (n : Nat) (v5 : Int32) (v6 : Int32), iter (fun p : Int32 × Int32 => Md_m_partsAt_s20 x v1 v2 v3 v4 p.1 p.2) n (v5, v6) = some q1 → ∀ (ls : Array Slot), lv_has ls 7 [(0, .ref (A 0)), (1, .int v1), (2, .int v2), (3, .int v3), (4, .int v4), (5, .int v5), (6, .int v6)] → W p l e ({ frames := 2, cells := 0, slots := 0, locals := 61 } : Room) s m args below meth c s.heap [] 0 0 (MQ below (QRi s.heap r0) args s 0 0 NoA) (F0 m 20 ls []) := by
          intro v3 v4 n
          induction n with
          | zero => intro v5 v6 hf; exact iter_zero hf
          | succ n ih2 =>
            intro v5 v6 hf ls hl
            obtain ⟨q2, hf, hk2⟩ := iter_succ hf
            have hf : Md_m_partsAt_s20 x v1 v2 v3 v4 v5 v6 = some q2 := hf
            unfold Md_m_partsAt_s20 at hf
            have hj68 : ∀ (v6 : Int32), Md_m_partsAt_j68 x v1 v2 v3 v4 v6 = some q2 → ∀ (ls : Array Slot), lv_has ls 7 [(0, .ref (A 0)), (1, .int v1), (2, .int v2), (3, .int v3), (4, .int v4), (6, .int v6)] → W p l e ({ frames := 2, cells := 0, slots := 0, locals := 61 } : Room) s m args below meth c s.heap [] 0 0 (MQ below (QRi s.heap r0) args s 0 0 NoA) (F0 m 68 ls []) := by
              intro v6 hf ls hl
              unfold Md_m_partsAt_j68 at hf
              refine lv_iload_n hx hb dX6_partsAt_68 rfl (lv_at hl 2 rfl) ?_
              refine kg_if_eq (tgt := 97) hx hb hf dX6_partsAt_69 (by decide) (fun hc hf => ?_) (fun hc hf => ?_)
              · refine lv_iconst (v := 1) hx hb dX6_partsAt_97 (by decide) ?_
                refine lv_goto (tgt := 102) hx hb dX6_partsAt_98 (by decide) ?_
                refine lv_istore (lv' := [(5, .int 1), (0, .ref (A 0)), (1, .int v1), (2, .int v2), (3, .int v3), (4, .int v4), (6, .int v6)]) hx hb dX6_partsAt_102 hl (by decide) rfl (fun ls hl => ?_)
                refine lv_iinc (v := (v6 + 1)) (lv' := [(6, .int (v6 + 1)), (5, .int 1), (0, .ref (A 0)), (1, .int v1), (2, .int v2), (3, .int v3), (4, .int v4)]) hx hb dX6_partsAt_104 hl (k := 6) rfl rfl (by decide) rfl (fun ls hl => ?_)
                refine lv_goto (tgt := 20) hx hb dX6_partsAt_107 (by decide) ?_
                obtain rfl := Option.some.inj hf
                exact ih2 1 (v6 + 1) hk2 _ (lv_sub hl [2, 3, 4, 5, 6, 1, 0] rfl)
              · refine lv_aload_n hx hb dX6_partsAt_72 rfl (lv_at hl 0 rfl) ?_
                refine lv_aload_n hx hb dX6_partsAt_73 rfl (lv_at hl 0 rfl) ?_
                refine va_get (D := (dC, dI)) (ci := 6) (v := .ref (A 1)) (C := RX6) (T := TX6) (N := 30) hx hb hts hiX6 hown hK hP 0 rfl rfl 4 (by decide) ww1 (fun _ h9 => h9) rfl dX6_partsAt_74 ?_
                refine lv_iload hx hb dX6_partsAt_77 (lv_at hl 5 rfl) ?_
                obtain ⟨g79, hv, hf⟩ := ob_bind hf
                refine kg_iald hx hb hK hP 1 0 rfl rfl hv dX6_partsAt_79 ?_
                obtain ⟨g80, hc, hf⟩ := ob_bind hf
                have hPc : va_P (dC, dI) vwCl (wMd cI cJ A x) s.heap := hP
                refine kg_retRi (va_runV (As := [.int g79]) (rest := []) ⟨hx, hb, hml, hown, hts⟩ (c_X6_blockAt l dC dI cI cJ A s.heap x g79 _ hc) (cwV 1 hts (gw_V wd_13_13 wd_13_10 wd_13_11 wd_13_12 wd_1_5) rfl rfl rfl qX6_blockAt ⟨Nat.le_of_ble_eq_true rfl, Nat.le_of_ble_eq_true rfl⟩) (kg_preVR (ci := 6) (q := (RX6, TX6, 30)) (q0 := 0) hPc hK hN rfl rfl) rfl rfl hl.1 rfl (lv_room (Nat.le_of_ble_eq_true rfl)) dX6_partsAt_80 ⟨Nat.zero_le _, Nat.zero_le _⟩) ?_
                refine lv_aload_n hx hb dX6_partsAt_83 rfl (lv_at hl 0 rfl) ?_
                refine lv_aload_n hx hb dX6_partsAt_84 rfl (lv_at hl 0 rfl) ?_
                refine va_get (D := (dC, dI)) (ci := 6) (v := .ref (A 2)) (C := RX6) (T := TX6) (N := 30) hx hb hts hiX6 hown hK hP 0 rfl rfl 5 (by decide) ww2 (fun _ h9 => h9) rfl dX6_partsAt_85 ?_
                refine lv_iload hx hb dX6_partsAt_88 (lv_at hl 5 rfl) ?_
                obtain ⟨g90, hv, hf⟩ := ob_bind hf
                refine kg_iald hx hb hK hP 2 0 rfl rfl hv dX6_partsAt_90 ?_
                obtain ⟨g91, hc, hf⟩ := ob_bind hf
                have hPc : va_P (dC, dI) vwCl (wMd cI cJ A x) s.heap := hP
                refine kg_retRi (va_runV (As := [.int g90]) (rest := [.int g80]) ⟨hx, hb, hml, hown, hts⟩ (c_X6_blockAt l dC dI cI cJ A s.heap x g90 _ hc) (cwV 1 hts (gw_V wd_13_13 wd_13_10 wd_13_11 wd_13_12 wd_1_5) rfl rfl rfl qX6_blockAt ⟨Nat.le_of_ble_eq_true rfl, Nat.le_of_ble_eq_true rfl⟩) (kg_preVR (ci := 6) (q := (RX6, TX6, 30)) (q0 := 0) hPc hK hN rfl rfl) rfl rfl hl.1 rfl (lv_room (Nat.le_of_ble_eq_true rfl)) dX6_partsAt_91 ⟨Nat.zero_le _, Nat.zero_le _⟩) ?_
                refine kg_icmp_ne (tgt := 101) hx hb hf dX6_partsAt_94 (by decide) (fun hc hf => ?_) (fun hc hf => ?_)
                · refine lv_iconst (v := 0) hx hb dX6_partsAt_101 (by decide) ?_
                  refine lv_istore (lv' := [(5, .int 0), (0, .ref (A 0)), (1, .int v1), (2, .int v2), (3, .int v3), (4, .int v4), (6, .int v6)]) hx hb dX6_partsAt_102 hl (by decide) rfl (fun ls hl => ?_)
                  refine lv_iinc (v := (v6 + 1)) (lv' := [(6, .int (v6 + 1)), (5, .int 0), (0, .ref (A 0)), (1, .int v1), (2, .int v2), (3, .int v3), (4, .int v4)]) hx hb dX6_partsAt_104 hl (k := 6) rfl rfl (by decide) rfl (fun ls hl => ?_)
                  refine lv_goto (tgt := 20) hx hb dX6_partsAt_107 (by decide) ?_
                  obtain rfl := Option.some.inj hf
                  exact ih2 0 (v6 + 1) hk2 _ (lv_sub hl [2, 3, 4, 5, 6, 1, 0] rfl)
                · refine lv_iconst (v := 1) hx hb dX6_partsAt_97 (by decide) ?_
                  refine lv_goto (tgt := 102) hx hb dX6_partsAt_98 (by decide) ?_
                  refine lv_istore (lv' := [(5, .int 1), (0, .ref (A 0)), (1, .int v1), (2, .int v2), (3, .int v3), (4, .int v4), (6, .int v6)]) hx hb dX6_partsAt_102 hl (by decide) rfl (fun ls hl => ?_)
                  refine lv_iinc (v := (v6 + 1)) (lv' := [(6, .int (v6 + 1)), (5, .int 1), (0, .ref (A 0)), (1, .int v1), (2, .int v2), (3, .int v3), (4, .int v4)]) hx hb dX6_partsAt_104 hl (k := 6) rfl rfl (by decide) rfl (fun ls hl => ?_)
                  refine lv_goto (tgt := 20) hx hb dX6_partsAt_107 (by decide) ?_
                  obtain rfl := Option.some.inj hf
                  exact ih2 1 (v6 + 1) hk2 _ (lv_sub hl [2, 3, 4, 5, 6, 1, 0] rfl)
            refine lv_iload hx hb dX6_partsAt_20 (lv_at hl 6 rfl) ?_
            refine lv_aload_n hx hb dX6_partsAt_22 rfl (lv_at hl 0 rfl) ?_
            refine va_get (D := (dC, dI)) (ci := 6) (v := .int (Md_m x)) (C := RX6) (T := TX6) (N := 30) hx hb hts hiX6 hown hK hP 0 rfl rfl 2 (by decide) ww0 (fun _ h9 => h9) rfl dX6_partsAt_23 ?_
            refine kg_icmp_ge (tgt := 110) hx hb hf dX6_partsAt_26 (by decide) (fun hc hf => ?_) (fun hc hf => ?_)
            · obtain ⟨qq, hf, hqq⟩ := omap_some hf
              have hkq : qq = q1 := by rw [← hqq] at hk2; exact hk2
              rw [hkq] at hf
              clear hkq hqq
              refine lv_iload hx hb dX6_partsAt_110 (lv_at hl 5 rfl) ?_
              refine kg_if_eq (tgt := 119) hx hb hf dX6_partsAt_112 (by decide) (fun hc hf => ?_) (fun hc hf => ?_)
              · refine lv_iinc (v := (v4 + 1)) (lv' := [(4, .int (v4 + 1)), (0, .ref (A 0)), (1, .int v1), (2, .int v2), (3, .int v3), (5, .int v5), (6, .int v6)]) hx hb dX6_partsAt_119 hl (k := 4) rfl rfl (by decide) rfl (fun ls hl => ?_)
                refine lv_goto (tgt := 5) hx hb dX6_partsAt_122 (by decide) ?_
                obtain rfl := Option.some.inj hf
                exact ih1 v3 (v4 + 1) hk1 _ (lv_sub hl [1, 2, 3, 4, 0] rfl)
              · refine lv_iload_n hx hb dX6_partsAt_115 rfl (lv_at hl 3 rfl) ?_
                refine lv_iconst (v := 1) hx hb dX6_partsAt_116 (by decide) ?_
                refine lv_iadd hx hb dX6_partsAt_117 ?_
                refine lv_istore_n (lv' := [(3, .int (v3 + 1)), (0, .ref (A 0)), (1, .int v1), (2, .int v2), (4, .int v4), (5, .int v5), (6, .int v6)]) hx hb dX6_partsAt_118 rfl hl (by decide) rfl (fun ls hl => ?_)
                refine lv_iinc (v := (v4 + 1)) (lv' := [(4, .int (v4 + 1)), (3, .int (v3 + 1)), (0, .ref (A 0)), (1, .int v1), (2, .int v2), (5, .int v5), (6, .int v6)]) hx hb dX6_partsAt_119 hl (k := 4) rfl rfl (by decide) rfl (fun ls hl => ?_)
                refine lv_goto (tgt := 5) hx hb dX6_partsAt_122 (by decide) ?_
                obtain rfl := Option.some.inj hf
                exact ih1 (v3 + 1) (v4 + 1) hk1 _ (lv_sub hl [2, 3, 4, 1, 0] rfl)
            · refine lv_iload hx hb dX6_partsAt_29 (lv_at hl 5 rfl) ?_
              refine kg_if_ne (tgt := 97) hx hb hf dX6_partsAt_31 (by decide) (fun hc hf => ?_) (fun hc hf => ?_)
              · refine lv_iconst (v := 1) hx hb dX6_partsAt_97 (by decide) ?_
                refine lv_goto (tgt := 102) hx hb dX6_partsAt_98 (by decide) ?_
                refine lv_istore (lv' := [(5, .int 1), (0, .ref (A 0)), (1, .int v1), (2, .int v2), (3, .int v3), (4, .int v4), (6, .int v6)]) hx hb dX6_partsAt_102 hl (by decide) rfl (fun ls hl => ?_)
                refine lv_iinc (v := (v6 + 1)) (lv' := [(6, .int (v6 + 1)), (5, .int 1), (0, .ref (A 0)), (1, .int v1), (2, .int v2), (3, .int v3), (4, .int v4)]) hx hb dX6_partsAt_104 hl (k := 6) rfl rfl (by decide) rfl (fun ls hl => ?_)
                refine lv_goto (tgt := 20) hx hb dX6_partsAt_107 (by decide) ?_
                obtain rfl := Option.some.inj hf
                exact ih2 1 (v6 + 1) hk2 _ (lv_sub hl [2, 3, 4, 5, 6, 1, 0] rfl)
              · refine lv_aload_n hx hb dX6_partsAt_34 rfl (lv_at hl 0 rfl) ?_
                refine va_get (D := (dC, dI)) (ci := 6) (v := .ref (A 10)) (C := RX6) (T := TX6) (N := 30) hx hb hts hiX6 hown hK hP 0 rfl rfl 18 (by decide) ww3 (fun _ h9 => h9) rfl dX6_partsAt_35 ?_
                refine lv_iload hx hb dX6_partsAt_38 (lv_at hl 6 rfl) ?_
                obtain ⟨g40, hv, hf⟩ := ob_bind hf
                refine kg_iald hx hb hK hP 10 0 rfl rfl hv dX6_partsAt_40 ?_
                refine lv_iload hx hb dX6_partsAt_41 (lv_at hl 4 rfl) ?_
                refine kg_icmp_ne (tgt := 101) hx hb hf dX6_partsAt_43 (by decide) (fun hc hf => ?_) (fun hc hf => ?_)
                · refine lv_iconst (v := 0) hx hb dX6_partsAt_101 (by decide) ?_
                  refine lv_istore (lv' := [(5, .int 0), (0, .ref (A 0)), (1, .int v1), (2, .int v2), (3, .int v3), (4, .int v4), (6, .int v6)]) hx hb dX6_partsAt_102 hl (by decide) rfl (fun ls hl => ?_)
                  refine lv_iinc (v := (v6 + 1)) (lv' := [(6, .int (v6 + 1)), (5, .int 0), (0, .ref (A 0)), (1, .int v1), (2, .int v2), (3, .int v3), (4, .int v4)]) hx hb dX6_partsAt_104 hl (k := 6) rfl rfl (by decide) rfl (fun ls hl => ?_)
                  refine lv_goto (tgt := 20) hx hb dX6_partsAt_107 (by decide) ?_
                  obtain rfl := Option.some.inj hf
                  exact ih2 0 (v6 + 1) hk2 _ (lv_sub hl [2, 3, 4, 5, 6, 1, 0] rfl)
                · refine lv_aload_n hx hb dX6_partsAt_46 rfl (lv_at hl 0 rfl) ?_
                  refine va_get (D := (dC, dI)) (ci := 6) (v := .ref (A 1)) (C := RX6) (T := TX6) (N := 30) hx hb hts hiX6 hown hK hP 0 rfl rfl 4 (by decide) ww1 (fun _ h9 => h9) rfl dX6_partsAt_47 ?_
                  refine lv_iload hx hb dX6_partsAt_50 (lv_at hl 6 rfl) ?_
                  obtain ⟨g52, hv, hf⟩ := ob_bind hf
                  refine kg_iald hx hb hK hP 1 0 rfl rfl hv dX6_partsAt_52 ?_
                  refine lv_iload_n hx hb dX6_partsAt_53 rfl (lv_at hl 1 rfl) ?_
                  refine kg_icmp_eq (tgt := 68) hx hb hf dX6_partsAt_54 (by decide) (fun hc hf => ?_) (fun hc hf => ?_)
                  · exact hj68 v6 hf _ (lv_sub hl [0, 1, 2, 3, 4, 6] rfl)
                  · refine lv_aload_n hx hb dX6_partsAt_57 rfl (lv_at hl 0 rfl) ?_
                    refine va_get (D := (dC, dI)) (ci := 6) (v := .ref (A 2)) (C := RX6) (T := TX6) (N := 30) hx hb hts hiX6 hown hK hP 0 rfl rfl 5 (by decide) ww2 (fun _ h9 => h9) rfl dX6_partsAt_58 ?_
                    refine lv_iload hx hb dX6_partsAt_61 (lv_at hl 6 rfl) ?_
                    obtain ⟨g63, hv, hf⟩ := ob_bind hf
                    refine kg_iald hx hb hK hP 2 0 rfl rfl hv dX6_partsAt_63 ?_
                    refine lv_iload_n hx hb dX6_partsAt_64 rfl (lv_at hl 1 rfl) ?_
                    refine kg_icmp_ne (tgt := 101) hx hb hf dX6_partsAt_65 (by decide) (fun hc hf => ?_) (fun hc hf => ?_)
                    · refine lv_iconst (v := 0) hx hb dX6_partsAt_101 (by decide) ?_
                      refine lv_istore (lv' := [(5, .int 0), (0, .ref (A 0)), (1, .int v1), (2, .int v2), (3, .int v3), (4, .int v4), (6, .int v6)]) hx hb dX6_partsAt_102 hl (by decide) rfl (fun ls hl => ?_)
                      refine lv_iinc (v := (v6 + 1)) (lv' := [(6, .int (v6 + 1)), (5, .int 0), (0, .ref (A 0)), (1, .int v1), (2, .int v2), (3, .int v3), (4, .int v4)]) hx hb dX6_partsAt_104 hl (k := 6) rfl rfl (by decide) rfl (fun ls hl => ?_)
                      refine lv_goto (tgt := 20) hx hb dX6_partsAt_107 (by decide) ?_
                      obtain rfl := Option.some.inj hf
                      exact ih2 0 (v6 + 1) hk2 _ (lv_sub hl [2, 3, 4, 5, 6, 1, 0] rfl)
                    · exact hj68 v6 hf _ (lv_sub hl [0, 1, 2, 3, 4, 6] rfl)
        exact hlp20 v3 v4 FU 0 0 hf _ (lv_sub hl [2, 3, 4, 5, 6, 1, 0] rfl)
  exact hlp5  FU 0 0 hf _ (lv_sub hl [2, 3, 4, 1, 0] rfl)
set_option maxHeartbeats 4000000 in
set_option maxRecDepth 100000 in
theorem c_X6_isCut (l : Launch) (dC : Nat → ClassId) (dI : Nat → Nat → Nat) (cI cJ : ClassId) (A : Nat → Nat) (hq : Heap) (x : MdS) (v1 : Int32) (r0 : Bool) (hf : Md_m_isCut x v1 = some r0) : MRi l yX6_isCut (wAll yX6_isCut cX6_isCut 2 (some .boolean)) ({ frames := 3, cells := 0, slots := 0, locals := 87 } : Room) [.ref (A 0), .int v1] hq (dC, dI) (vTy cI cJ) (wMd cI cJ A x) (b2i r0) := by
  refine kg_metR (cc := cX6_isCut) (maxL := 2) (ret := (some .boolean)) (by decide) rfl (Nat.le_of_ble_eq_true rfl) ?_
  intro p e s m args below meth c hx hb hr hts hown hlk hml hH hP hK hN ls hl
  subst hH
  have hl : lv_has ls 2 [(0, .ref (A 0)), (1, .int v1)] := hl
  unfold Md_m_isCut at hf
  refine lv_aload_n hx hb dX6_isCut_0 rfl (lv_at hl 0 rfl) ?_
  refine lv_iload_n hx hb dX6_isCut_1 rfl (lv_at hl 1 rfl) ?_
  refine lv_iconst (v := 0) hx hb dX6_isCut_2 (by decide) ?_
  obtain ⟨g3, hc, hf⟩ := ob_bind hf
  have hPc : va_P (dC, dI) vwCl (wMd cI cJ A x) s.heap := hP
  refine kg_retRi (va_runV (As := [.int v1, .int 0]) (rest := []) ⟨hx, hb, hml, hown, hts⟩ (c_X6_partsAt l dC dI cI cJ A s.heap x v1 0 _ hc) (cwV 2 hts (gw_V wd_23_3 wd_23_0 wd_23_1 wd_23_2 wd_1_5) rfl rfl rfl qX6_partsAt ⟨Nat.le_of_ble_eq_true rfl, Nat.le_of_ble_eq_true rfl⟩) (kg_preVR (ci := 6) (q := (RX6, TX6, 30)) (q0 := 0) hPc hK hN rfl rfl) rfl rfl hl.1 rfl (lv_room (Nat.le_of_ble_eq_true rfl)) dX6_isCut_3 ⟨Nat.zero_le _, Nat.zero_le _⟩) ?_
  refine lv_iconst (v := 1) hx hb dX6_isCut_6 (by decide) ?_
  refine kg_icmp_le (tgt := 14) hx hb hf dX6_isCut_7 (by decide) (fun hc hf => ?_) (fun hc hf => ?_)
  · refine lv_iconst (v := 0) hx hb dX6_isCut_14 (by decide) ?_
    obtain rfl := Option.some.inj hf
    exact kg_zretR (b := false) hx hb hr hlk rfl rfl dX6_isCut_15
  · refine lv_iconst (v := 1) hx hb dX6_isCut_10 (by decide) ?_
    refine lv_goto (tgt := 15) hx hb dX6_isCut_11 (by decide) ?_
    obtain rfl := Option.some.inj hf
    exact kg_zretR (b := true) hx hb hr hlk rfl rfl dX6_isCut_15
set_option maxHeartbeats 4000000 in
set_option maxRecDepth 100000 in
theorem c_X6_nodesOfPart (l : Launch) (dC : Nat → ClassId) (dI : Nat → Nat → Nat) (cI cJ : ClassId) (A : Nat → Nat) (hq : Heap) (x : MdS) (v1 : Int32) (r0 : Int32) (hf : Md_m_nodesOfPart x v1 = some r0) : MRi l yX6_nodesOfPart (wAll yX6_nodesOfPart cX6_nodesOfPart 4 (some .int)) ({ frames := 1, cells := 0, slots := 0, locals := 40 } : Room) [.ref (A 0), .int v1] hq (dC, dI) (vTy cI cJ) (wMd cI cJ A x) r0 := by
  refine kg_metR (cc := cX6_nodesOfPart) (maxL := 4) (ret := (some .int)) (by decide) rfl (Nat.le_of_ble_eq_true rfl) ?_
  intro p e s m args below meth c hx hb hr hts hown hlk hml hH hP hK hN ls hl
  subst hH
  have hl : lv_has ls 4 [(0, .ref (A 0)), (1, .int v1)] := hl
  have ww0 := hts (.fieldLink RX6 78 "SafeBlocksModel" "m" "I") (List.mem_cons_of_mem _ wd_9_6)
  have ww1 := hts (.fieldLink RX6 44 "SafeBlocksModel" "partOf" "[I") (List.mem_cons_of_mem _ wd_8_10)
  have ww2 := hts (.fieldLink RX6 13 "SafeBlocksModel" "first" "[I") (List.mem_cons_of_mem _ wd_8_0)
  have ww3 := hts (.fieldLink RX6 17 "SafeBlocksModel" "second" "[I") (List.mem_cons_of_mem _ wd_8_1)
  have hiX6 : ∀ w ∈ u_ws RX6 TX6 30, w ∈ wAll yX6_nodesOfPart cX6_nodesOfPart 4 (some .int) := fun w h => List.mem_cons_of_mem _ (inlX6 w h)
  unfold Md_m_nodesOfPart at hf
  refine lv_iconst (v := 0) hx hb dX6_nodesOfPart_0 (by decide) ?_
  refine lv_istore_n (lv' := [(2, .int 0), (0, .ref (A 0)), (1, .int v1)]) hx hb dX6_nodesOfPart_1 rfl hl (by decide) rfl (fun ls hl => ?_)
  refine lv_iconst (v := 0) hx hb dX6_nodesOfPart_2 (by decide) ?_
  refine lv_istore_n (lv' := [(3, .int 0), (2, .int 0), (0, .ref (A 0)), (1, .int v1)]) hx hb dX6_nodesOfPart_3 rfl hl (by decide) rfl (fun ls hl => ?_)
  have hlp4 : ∀ (n : Nat) (v2 : Int32) (v3 : Int32), iter (fun p : Int32 × Int32 => Md_m_nodesOfPart_s4 x v1 p.1 p.2) n (v2, v3) = some r0 → ∀ (ls : Array Slot), lv_has ls 4 [(0, .ref (A 0)), (1, .int v1), (2, .int v2), (3, .int v3)] → W p l e ({ frames := 1, cells := 0, slots := 0, locals := 40 } : Room) s m args below meth c s.heap [] 0 0 (MQ below (QRi s.heap r0) args s 0 0 NoA) (F0 m 4 ls []) := by
    intro  n
    induction n with
    | zero => intro v2 v3 hf; exact iter_zero hf
    | succ n ih1 =>
      intro v2 v3 hf ls hl
      obtain ⟨q1, hf, hk1⟩ := iter_succ hf
      have hf : Md_m_nodesOfPart_s4 x v1 v2 v3 = some q1 := hf
      unfold Md_m_nodesOfPart_s4 at hf
      refine lv_iload_n hx hb dX6_nodesOfPart_4 rfl (lv_at hl 3 rfl) ?_
      refine lv_aload_n hx hb dX6_nodesOfPart_5 rfl (lv_at hl 0 rfl) ?_
      refine va_get (D := (dC, dI)) (ci := 6) (v := .int (Md_m x)) (C := RX6) (T := TX6) (N := 30) hx hb hts hiX6 hown hK hP 0 rfl rfl 2 (by decide) ww0 (fun _ h9 => h9) rfl dX6_nodesOfPart_6 ?_
      refine kg_icmp_ge (tgt := 48) hx hb hf dX6_nodesOfPart_9 (by decide) (fun hc hf => ?_) (fun hc hf => ?_)
      · obtain ⟨qq, hf, hqq⟩ := omap_some hf
        have hkq : qq = r0 := by rw [← hqq] at hk1; exact hk1
        rw [hkq] at hf
        clear hkq hqq
        refine lv_iload_n hx hb dX6_nodesOfPart_48 rfl (lv_at hl 2 rfl) ?_
        obtain rfl := Option.some.inj hf
        exact kg_iretR hx hb hr hlk rfl dX6_nodesOfPart_49
      · refine lv_aload_n hx hb dX6_nodesOfPart_12 rfl (lv_at hl 0 rfl) ?_
        refine va_get (D := (dC, dI)) (ci := 6) (v := .ref (A 10)) (C := RX6) (T := TX6) (N := 30) hx hb hts hiX6 hown hK hP 0 rfl rfl 18 (by decide) ww1 (fun _ h9 => h9) rfl dX6_nodesOfPart_13 ?_
        refine lv_iload_n hx hb dX6_nodesOfPart_16 rfl (lv_at hl 3 rfl) ?_
        obtain ⟨g17, hv, hf⟩ := ob_bind hf
        refine kg_iald hx hb hK hP 10 0 rfl rfl hv dX6_nodesOfPart_17 ?_
        refine lv_iload_n hx hb dX6_nodesOfPart_18 rfl (lv_at hl 1 rfl) ?_
        refine kg_icmp_ne (tgt := 42) hx hb hf dX6_nodesOfPart_19 (by decide) (fun hc hf => ?_) (fun hc hf => ?_)
        · refine lv_iinc (v := (v3 + 1)) (lv' := [(3, .int (v3 + 1)), (0, .ref (A 0)), (1, .int v1), (2, .int v2)]) hx hb dX6_nodesOfPart_42 hl (k := 3) rfl rfl (by decide) rfl (fun ls hl => ?_)
          refine lv_goto (tgt := 4) hx hb dX6_nodesOfPart_45 (by decide) ?_
          obtain rfl := Option.some.inj hf
          exact ih1 v2 (v3 + 1) hk1 _ (lv_sub hl [1, 2, 3, 0] rfl)
        · refine lv_iload_n hx hb dX6_nodesOfPart_22 rfl (lv_at hl 2 rfl) ?_
          refine lv_iconst (v := 1) hx hb dX6_nodesOfPart_23 (by decide) ?_
          refine lv_aload_n hx hb dX6_nodesOfPart_24 rfl (lv_at hl 0 rfl) ?_
          refine va_get (D := (dC, dI)) (ci := 6) (v := .ref (A 1)) (C := RX6) (T := TX6) (N := 30) hx hb hts hiX6 hown hK hP 0 rfl rfl 4 (by decide) ww2 (fun _ h9 => h9) rfl dX6_nodesOfPart_25 ?_
          refine lv_iload_n hx hb dX6_nodesOfPart_28 rfl (lv_at hl 3 rfl) ?_
          obtain ⟨g29, hv, hf⟩ := ob_bind hf
          refine kg_iald hx hb hK hP 1 0 rfl rfl hv dX6_nodesOfPart_29 ?_
          refine lv_ishl hx hb dX6_nodesOfPart_30 ?_
          refine lv_ior hx hb dX6_nodesOfPart_31 ?_
          refine lv_iconst (v := 1) hx hb dX6_nodesOfPart_32 (by decide) ?_
          refine lv_aload_n hx hb dX6_nodesOfPart_33 rfl (lv_at hl 0 rfl) ?_
          refine va_get (D := (dC, dI)) (ci := 6) (v := .ref (A 2)) (C := RX6) (T := TX6) (N := 30) hx hb hts hiX6 hown hK hP 0 rfl rfl 5 (by decide) ww3 (fun _ h9 => h9) rfl dX6_nodesOfPart_34 ?_
          refine lv_iload_n hx hb dX6_nodesOfPart_37 rfl (lv_at hl 3 rfl) ?_
          obtain ⟨g38, hv, hf⟩ := ob_bind hf
          refine kg_iald hx hb hK hP 2 0 rfl rfl hv dX6_nodesOfPart_38 ?_
          refine lv_ishl hx hb dX6_nodesOfPart_39 ?_
          refine lv_ior hx hb dX6_nodesOfPart_40 ?_
          refine lv_istore_n (lv' := [(2, .int ((v2 ||| (1 <<< (g29 &&& 31))) ||| (1 <<< (g38 &&& 31)))), (0, .ref (A 0)), (1, .int v1), (3, .int v3)]) hx hb dX6_nodesOfPart_41 rfl hl (by decide) rfl (fun ls hl => ?_)
          refine lv_iinc (v := (v3 + 1)) (lv' := [(3, .int (v3 + 1)), (2, .int ((v2 ||| (1 <<< (g29 &&& 31))) ||| (1 <<< (g38 &&& 31)))), (0, .ref (A 0)), (1, .int v1)]) hx hb dX6_nodesOfPart_42 hl (k := 3) rfl rfl (by decide) rfl (fun ls hl => ?_)
          refine lv_goto (tgt := 4) hx hb dX6_nodesOfPart_45 (by decide) ?_
          obtain rfl := Option.some.inj hf
          exact ih1 ((v2 ||| (1 <<< (g29 &&& 31))) ||| (1 <<< (g38 &&& 31))) (v3 + 1) hk1 _ (lv_sub hl [2, 3, 1, 0] rfl)
  exact hlp4  FU 0 0 hf _ (lv_sub hl [2, 3, 1, 0] rfl)
set_option maxHeartbeats 4000000 in
set_option maxRecDepth 100000 in
theorem c_X6_areSafe (l : Launch) (dC : Nat → ClassId) (dI : Nat → Nat → Nat) (cI cJ : ClassId) (A : Nat → Nat) (hq : Heap) (x : MdS) (v1 : Int32) (v2 : Int32) (r0 : Bool) (hf : Md_m_areSafe x v1 v2 = some r0) : MRi l yX6_areSafe (wAll yX6_areSafe cX6_areSafe 5 (some .boolean)) ({ frames := 2, cells := 0, slots := 0, locals := 63 } : Room) [.ref (A 0), .int v1, .int v2] hq (dC, dI) (vTy cI cJ) (wMd cI cJ A x) (b2i r0) := by
  refine kg_metR (cc := cX6_areSafe) (maxL := 5) (ret := (some .boolean)) (by decide) rfl (Nat.le_of_ble_eq_true rfl) ?_
  intro p e s m args below meth c hx hb hr hts hown hlk hml hH hP hK hN ls hl
  subst hH
  have hl : lv_has ls 5 [(0, .ref (A 0)), (1, .int v1), (2, .int v2)] := hl
  have ww0 := hts (.fieldLink RX6 78 "SafeBlocksModel" "m" "I") (List.mem_cons_of_mem _ wd_9_6)
  have ww1 := hts (.fieldLink RX6 44 "SafeBlocksModel" "partOf" "[I") (List.mem_cons_of_mem _ wd_8_10)
  have hiX6 : ∀ w ∈ u_ws RX6 TX6 30, w ∈ wAll yX6_areSafe cX6_areSafe 5 (some .boolean) := fun w h => List.mem_cons_of_mem _ (inlX6 w h)
  unfold Md_m_areSafe at hf
  refine lv_iconst (v := 0) hx hb dX6_areSafe_0 (by decide) ?_
  refine lv_istore_n (lv' := [(3, .int 0), (0, .ref (A 0)), (1, .int v1), (2, .int v2)]) hx hb dX6_areSafe_1 rfl hl (by decide) rfl (fun ls hl => ?_)
  have hlp2 : ∀ (n : Nat) (v3 : Int32), iter (fun p : Int32 => Md_m_areSafe_s2 x v1 v2 p) n (v3) = some r0 → ∀ (ls : Array Slot), lv_has ls 5 [(0, .ref (A 0)), (1, .int v1), (2, .int v2), (3, .int v3)] → W p l e ({ frames := 2, cells := 0, slots := 0, locals := 63 } : Room) s m args below meth c s.heap [] 0 0 (MQ below (QRi s.heap (b2i r0)) args s 0 0 NoA) (F0 m 2 ls []) := by
    intro  n
    induction n with
    | zero => intro v3 hf; exact iter_zero hf
    | succ n ih1 =>
      intro v3 hf ls hl
      obtain ⟨q1, hf, hk1⟩ := iter_succ hf
      have hf : Md_m_areSafe_s2 x v1 v2 v3 = some q1 := hf
      unfold Md_m_areSafe_s2 at hf
      refine lv_iload_n hx hb dX6_areSafe_2 rfl (lv_at hl 3 rfl) ?_
      refine lv_aload_n hx hb dX6_areSafe_3 rfl (lv_at hl 0 rfl) ?_
      refine va_get (D := (dC, dI)) (ci := 6) (v := .int (Md_m x)) (C := RX6) (T := TX6) (N := 30) hx hb hts hiX6 hown hK hP 0 rfl rfl 2 (by decide) ww0 (fun _ h9 => h9) rfl dX6_areSafe_4 ?_
      refine kg_icmp_ge (tgt := 66) hx hb hf dX6_areSafe_7 (by decide) (fun hc hf => ?_) (fun hc hf => ?_)
      · obtain ⟨qq, hf, hqq⟩ := omap_some hf
        have hkq : qq = r0 := by rw [← hqq] at hk1; exact hk1
        rw [hkq] at hf
        clear hkq hqq
        refine lv_iconst (v := 0) hx hb dX6_areSafe_66 (by decide) ?_
        obtain rfl := Option.some.inj hf
        exact kg_zretR (b := false) hx hb hr hlk rfl rfl dX6_areSafe_67
      · refine lv_aload_n hx hb dX6_areSafe_10 rfl (lv_at hl 0 rfl) ?_
        refine va_get (D := (dC, dI)) (ci := 6) (v := .ref (A 10)) (C := RX6) (T := TX6) (N := 30) hx hb hts hiX6 hown hK hP 0 rfl rfl 18 (by decide) ww1 (fun _ h9 => h9) rfl dX6_areSafe_11 ?_
        refine lv_iload_n hx hb dX6_areSafe_14 rfl (lv_at hl 3 rfl) ?_
        obtain ⟨g15, hv, hf⟩ := ob_bind hf
        refine kg_iald hx hb hK hP 10 0 rfl rfl hv dX6_areSafe_15 ?_
        refine lv_iload_n hx hb dX6_areSafe_16 rfl (lv_at hl 3 rfl) ?_
        refine kg_icmp_ne (tgt := 60) hx hb hf dX6_areSafe_17 (by decide) (fun hc hf => ?_) (fun hc hf => ?_)
        · refine lv_iinc (v := (v3 + 1)) (lv' := [(3, .int (v3 + 1)), (0, .ref (A 0)), (1, .int v1), (2, .int v2)]) hx hb dX6_areSafe_60 hl (k := 3) rfl rfl (by decide) rfl (fun ls hl => ?_)
          refine lv_goto (tgt := 2) hx hb dX6_areSafe_63 (by decide) ?_
          obtain rfl := Option.some.inj hf
          exact ih1 (v3 + 1) hk1 _ (lv_sub hl [1, 2, 3, 0] rfl)
        · refine lv_aload_n hx hb dX6_areSafe_20 rfl (lv_at hl 0 rfl) ?_
          refine lv_iload_n hx hb dX6_areSafe_21 rfl (lv_at hl 3 rfl) ?_
          obtain ⟨g22, hc, hf⟩ := ob_bind hf
          have hPc : va_P (dC, dI) vwCl (wMd cI cJ A x) s.heap := hP
          refine kg_retRi (va_runV (As := [.int v3]) (rest := []) ⟨hx, hb, hml, hown, hts⟩ (c_X6_isBridge l dC dI cI cJ A s.heap x v3 _ hc) (cwV 1 hts (gw_V wd_18_21 wd_18_18 wd_18_19 wd_18_20 wd_1_5) rfl rfl rfl qX6_isBridge ⟨Nat.le_of_ble_eq_true rfl, Nat.le_of_ble_eq_true rfl⟩) (kg_preVR (ci := 6) (q := (RX6, TX6, 30)) (q0 := 0) hPc hK hN rfl rfl) rfl rfl hl.1 rfl (lv_room (Nat.le_of_ble_eq_true rfl)) dX6_areSafe_22 ⟨Nat.zero_le _, Nat.zero_le _⟩) ?_
          refine kg_b_eq (tgt := 31) hx hb hf dX6_areSafe_25 (by decide) (fun hc hf => ?_) (fun hc hf => ?_)
          · refine lv_aload_n hx hb dX6_areSafe_31 rfl (lv_at hl 0 rfl) ?_
            refine lv_iload_n hx hb dX6_areSafe_32 rfl (lv_at hl 3 rfl) ?_
            obtain ⟨g33, hc, hf⟩ := ob_bind hf
            have hPc : va_P (dC, dI) vwCl (wMd cI cJ A x) s.heap := hP
            refine kg_retRi (va_runV (As := [.int v3]) (rest := []) ⟨hx, hb, hml, hown, hts⟩ (c_X6_nodesOfPart l dC dI cI cJ A s.heap x v3 _ hc) (cwV 1 hts (gw_V wd_33_10 wd_33_7 wd_33_8 wd_33_9 wd_1_5) rfl rfl rfl qX6_nodesOfPart ⟨Nat.le_of_ble_eq_true rfl, Nat.le_of_ble_eq_true rfl⟩) (kg_preVR (ci := 6) (q := (RX6, TX6, 30)) (q0 := 0) hPc hK hN rfl rfl) rfl rfl hl.1 rfl (lv_room (Nat.le_of_ble_eq_true rfl)) dX6_areSafe_33 ⟨Nat.zero_le _, Nat.zero_le _⟩) ?_
            refine lv_istore (lv' := [(4, .int g33), (0, .ref (A 0)), (1, .int v1), (2, .int v2), (3, .int v3)]) hx hb dX6_areSafe_36 hl (by decide) rfl (fun ls hl => ?_)
            refine lv_aload_n hx hb dX6_areSafe_38 rfl (lv_at hl 1 rfl) ?_
            refine lv_iload hx hb dX6_areSafe_39 (lv_at hl 0 rfl) ?_
            refine lv_iload_n hx hb dX6_areSafe_41 rfl (lv_at hl 2 rfl) ?_
            obtain ⟨g42, hc, hf⟩ := ob_bind hf
            have hPc : va_P (dC, dI) vwCl (wMd cI cJ A x) s.heap := hP
            refine kg_retRi (va_runV (As := [.int g33, .int v1]) (rest := []) ⟨hx, hb, hml, hown, hts⟩ (c_X6_has l dC dI cI cJ A s.heap x g33 v1 _ hc) (cwV 2 hts (gw_V wd_14_13 wd_14_10 wd_14_11 wd_14_12 wd_1_5) rfl rfl rfl qX6_has ⟨Nat.le_of_ble_eq_true rfl, Nat.le_of_ble_eq_true rfl⟩) (kg_preVR (ci := 6) (q := (RX6, TX6, 30)) (q0 := 0) hPc hK hN rfl rfl) rfl rfl hl.1 rfl (lv_room (Nat.le_of_ble_eq_true rfl)) dX6_areSafe_42 ⟨Nat.zero_le _, Nat.zero_le _⟩) ?_
            refine kg_b_eq (tgt := 60) hx hb hf dX6_areSafe_45 (by decide) (fun hc hf => ?_) (fun hc hf => ?_)
            · refine lv_iinc (v := (v3 + 1)) (lv' := [(3, .int (v3 + 1)), (4, .int g33), (0, .ref (A 0)), (1, .int v1), (2, .int v2)]) hx hb dX6_areSafe_60 hl (k := 4) rfl rfl (by decide) rfl (fun ls hl => ?_)
              refine lv_goto (tgt := 2) hx hb dX6_areSafe_63 (by decide) ?_
              obtain rfl := Option.some.inj hf
              exact ih1 (v3 + 1) hk1 _ (lv_sub hl [2, 3, 4, 0] rfl)
            · refine lv_aload_n hx hb dX6_areSafe_48 rfl (lv_at hl 1 rfl) ?_
              refine lv_iload hx hb dX6_areSafe_49 (lv_at hl 0 rfl) ?_
              refine lv_iload_n hx hb dX6_areSafe_51 rfl (lv_at hl 3 rfl) ?_
              obtain ⟨g52, hc, hf⟩ := ob_bind hf
              have hPc : va_P (dC, dI) vwCl (wMd cI cJ A x) s.heap := hP
              refine kg_retRi (va_runV (As := [.int g33, .int v2]) (rest := []) ⟨hx, hb, hml, hown, hts⟩ (c_X6_has l dC dI cI cJ A s.heap x g33 v2 _ hc) (cwV 2 hts (gw_V wd_14_13 wd_14_10 wd_14_11 wd_14_12 wd_1_5) rfl rfl rfl qX6_has ⟨Nat.le_of_ble_eq_true rfl, Nat.le_of_ble_eq_true rfl⟩) (kg_preVR (ci := 6) (q := (RX6, TX6, 30)) (q0 := 0) hPc hK hN rfl rfl) rfl rfl hl.1 rfl (lv_room (Nat.le_of_ble_eq_true rfl)) dX6_areSafe_52 ⟨Nat.zero_le _, Nat.zero_le _⟩) ?_
              refine kg_b_eq (tgt := 60) hx hb hf dX6_areSafe_55 (by decide) (fun hc hf => ?_) (fun hc hf => ?_)
              · refine lv_iinc (v := (v3 + 1)) (lv' := [(3, .int (v3 + 1)), (4, .int g33), (0, .ref (A 0)), (1, .int v1), (2, .int v2)]) hx hb dX6_areSafe_60 hl (k := 4) rfl rfl (by decide) rfl (fun ls hl => ?_)
                refine lv_goto (tgt := 2) hx hb dX6_areSafe_63 (by decide) ?_
                obtain rfl := Option.some.inj hf
                exact ih1 (v3 + 1) hk1 _ (lv_sub hl [2, 3, 4, 0] rfl)
              · obtain ⟨qq, hf, hqq⟩ := omap_some hf
                have hkq : qq = r0 := by rw [← hqq] at hk1; exact hk1
                rw [hkq] at hf
                clear hkq hqq
                refine lv_iconst (v := 1) hx hb dX6_areSafe_58 (by decide) ?_
                obtain rfl := Option.some.inj hf
                exact kg_zretR (b := true) hx hb hr hlk rfl rfl dX6_areSafe_59
          · refine lv_goto (tgt := 60) hx hb dX6_areSafe_28 (by decide) ?_
            refine lv_iinc (v := (v3 + 1)) (lv' := [(3, .int (v3 + 1)), (0, .ref (A 0)), (1, .int v1), (2, .int v2)]) hx hb dX6_areSafe_60 hl (k := 3) rfl rfl (by decide) rfl (fun ls hl => ?_)
            refine lv_goto (tgt := 2) hx hb dX6_areSafe_63 (by decide) ?_
            obtain rfl := Option.some.inj hf
            exact ih1 (v3 + 1) hk1 _ (lv_sub hl [1, 2, 3, 0] rfl)
  exact hlp2  FU 0 hf _ (lv_sub hl [1, 2, 3, 0] rfl)
set_option maxHeartbeats 4000000 in
set_option maxRecDepth 100000 in
theorem c_X6_side (l : Launch) (dC : Nat → ClassId) (dI : Nat → Nat → Nat) (cI cJ : ClassId) (A : Nat → Nat) (hq : Heap) (x : MdS) (v1 : Int32) (v2 : Int32) (r0 : Int32) (hf : Md_m_side x v1 v2 = some r0) : MRi l yX6_side (wAll yX6_side cX6_side 3 (some .int)) ({ frames := 3, cells := 0, slots := 0, locals := 91 } : Room) [.ref (A 0), .int v1, .int v2] hq (dC, dI) (vTy cI cJ) (wMd cI cJ A x) r0 := by
  refine kg_metR (cc := cX6_side) (maxL := 3) (ret := (some .int)) (by decide) rfl (Nat.le_of_ble_eq_true rfl) ?_
  intro p e s m args below meth c hx hb hr hts hown hlk hml hH hP hK hN ls hl
  subst hH
  have hl : lv_has ls 3 [(0, .ref (A 0)), (1, .int v1), (2, .int v2)] := hl
  have ww0 := hts (.fieldLink RX6 78 "SafeBlocksModel" "m" "I") (List.mem_cons_of_mem _ wd_9_6)
  have hiX6 : ∀ w ∈ u_ws RX6 TX6 30, w ∈ wAll yX6_side cX6_side 3 (some .int) := fun w h => List.mem_cons_of_mem _ (inlX6 w h)
  unfold Md_m_side at hf
  refine lv_aload_n hx hb dX6_side_0 rfl (lv_at hl 0 rfl) ?_
  refine lv_aload_n hx hb dX6_side_1 rfl (lv_at hl 0 rfl) ?_
  refine lv_iload_n hx hb dX6_side_2 rfl (lv_at hl 2 rfl) ?_
  refine lv_aload_n hx hb dX6_side_3 rfl (lv_at hl 0 rfl) ?_
  refine va_get (D := (dC, dI)) (ci := 6) (v := .int (Md_m x)) (C := RX6) (T := TX6) (N := 30) hx hb hts hiX6 hown hK hP 0 rfl rfl 2 (by decide) ww0 (fun _ h9 => h9) rfl dX6_side_4 ?_
  refine lv_iload_n hx hb dX6_side_7 rfl (lv_at hl 1 rfl) ?_
  refine lv_iconst (v := (-1)) hx hb dX6_side_8 (by decide) ?_
  obtain ⟨g9, hc, hf⟩ := ob_bind hf
  have hPc : va_P (dC, dI) vwCl (wMd cI cJ A x) s.heap := hP
  refine kg_retRi (va_runV (As := [.int v2, .int (Md_m x), .int v1, .int (-1)]) (rest := [.ref (A 0)]) ⟨hx, hb, hml, hown, hts⟩ (c_X6_reached l dC dI cI cJ A s.heap x v2 (Md_m x) v1 (-1) _ hc) (cwV 4 hts (gw_V wd_20_13 wd_20_10 wd_20_11 wd_20_12 wd_1_5) rfl rfl rfl qX6_reached ⟨Nat.le_of_ble_eq_true rfl, Nat.le_of_ble_eq_true rfl⟩) (kg_preVR (ci := 6) (q := (RX6, TX6, 30)) (q0 := 0) hPc hK hN rfl rfl) rfl rfl hl.1 rfl (lv_room (Nat.le_of_ble_eq_true rfl)) dX6_side_9 ⟨Nat.zero_le _, Nat.zero_le _⟩) ?_
  obtain ⟨g12, hc, hf⟩ := ob_bind hf
  have hPc : va_P (dC, dI) vwCl (wMd cI cJ A x) s.heap := hP
  refine kg_retRi (va_runV (As := [.int g9]) (rest := []) ⟨hx, hb, hml, hown, hts⟩ (c_X6_count l dC dI cI cJ A s.heap x g9 _ hc) (cwV 1 hts (gw_V wd_15_1 wd_14_22 wd_14_23 wd_15_0 wd_1_5) rfl rfl rfl qX6_count ⟨Nat.le_of_ble_eq_true rfl, Nat.le_of_ble_eq_true rfl⟩) (kg_preVR (ci := 6) (q := (RX6, TX6, 30)) (q0 := 0) hPc hK hN rfl rfl) rfl rfl hl.1 rfl (lv_room (Nat.le_of_ble_eq_true rfl)) dX6_side_12 ⟨Nat.zero_le _, Nat.zero_le _⟩) ?_
  obtain rfl := Option.some.inj hf
  exact kg_iretR hx hb hr hlk rfl dX6_side_15
set_option maxHeartbeats 4000000 in
set_option maxRecDepth 100000 in
theorem c_X6_linksAt (l : Launch) (dC : Nat → ClassId) (dI : Nat → Nat → Nat) (cI cJ : ClassId) (A : Nat → Nat) (hq : Heap) (x : MdS) (v1 : Int32) (v2 : Int32) (r0 : Int32) (hf : Md_m_linksAt x v1 v2 = some r0) : MRi l yX6_linksAt (wAll yX6_linksAt cX6_linksAt 5 (some .int)) ({ frames := 2, cells := 0, slots := 0, locals := 61 } : Room) [.ref (A 0), .int v1, .int v2] hq (dC, dI) (vTy cI cJ) (wMd cI cJ A x) r0 := by
  refine kg_metR (cc := cX6_linksAt) (maxL := 5) (ret := (some .int)) (by decide) rfl (Nat.le_of_ble_eq_true rfl) ?_
  intro p e s m args below meth c hx hb hr hts hown hlk hml hH hP hK hN ls hl
  subst hH
  have hl : lv_has ls 5 [(0, .ref (A 0)), (1, .int v1), (2, .int v2)] := hl
  have ww0 := hts (.fieldLink RX6 78 "SafeBlocksModel" "m" "I") (List.mem_cons_of_mem _ wd_9_6)
  have ww1 := hts (.fieldLink RX6 13 "SafeBlocksModel" "first" "[I") (List.mem_cons_of_mem _ wd_8_0)
  have ww2 := hts (.fieldLink RX6 17 "SafeBlocksModel" "second" "[I") (List.mem_cons_of_mem _ wd_8_1)
  have hiX6 : ∀ w ∈ u_ws RX6 TX6 30, w ∈ wAll yX6_linksAt cX6_linksAt 5 (some .int) := fun w h => List.mem_cons_of_mem _ (inlX6 w h)
  unfold Md_m_linksAt at hf
  refine lv_iconst (v := 0) hx hb dX6_linksAt_0 (by decide) ?_
  refine lv_istore_n (lv' := [(3, .int 0), (0, .ref (A 0)), (1, .int v1), (2, .int v2)]) hx hb dX6_linksAt_1 rfl hl (by decide) rfl (fun ls hl => ?_)
  refine lv_iconst (v := 0) hx hb dX6_linksAt_2 (by decide) ?_
  refine lv_istore (lv' := [(4, .int 0), (3, .int 0), (0, .ref (A 0)), (1, .int v1), (2, .int v2)]) hx hb dX6_linksAt_3 hl (by decide) rfl (fun ls hl => ?_)
  have hlp5 : ∀ (n : Nat) (v3 : Int32) (v4 : Int32), iter (fun p : Int32 × Int32 => Md_m_linksAt_s5 x v1 v2 p.1 p.2) n (v3, v4) = some r0 → ∀ (ls : Array Slot), lv_has ls 5 [(0, .ref (A 0)), (1, .int v1), (2, .int v2), (3, .int v3), (4, .int v4)] → W p l e ({ frames := 2, cells := 0, slots := 0, locals := 61 } : Room) s m args below meth c s.heap [] 0 0 (MQ below (QRi s.heap r0) args s 0 0 NoA) (F0 m 5 ls []) := by
    intro  n
    induction n with
    | zero => intro v3 v4 hf; exact iter_zero hf
    | succ n ih1 =>
      intro v3 v4 hf ls hl
      obtain ⟨q1, hf, hk1⟩ := iter_succ hf
      have hf : Md_m_linksAt_s5 x v1 v2 v3 v4 = some q1 := hf
      unfold Md_m_linksAt_s5 at hf
      have hj49 : ∀ (v3 : Int32) (v4 : Int32), Md_m_linksAt_j49 x v1 v2 v3 v4 = some q1 → ∀ (ls : Array Slot), lv_has ls 5 [(0, .ref (A 0)), (1, .int v1), (2, .int v2), (3, .int v3), (4, .int v4)] → W p l e ({ frames := 2, cells := 0, slots := 0, locals := 61 } : Room) s m args below meth c s.heap [] 0 0 (MQ below (QRi s.heap r0) args s 0 0 NoA) (F0 m 49 ls []) := by
        intro v3 v4 hf ls hl
        unfold Md_m_linksAt_j49 at hf
        refine lv_iload_n hx hb dX6_linksAt_49 rfl (lv_at hl 3 rfl) ?_
        refine lv_iconst (v := 1) hx hb dX6_linksAt_50 (by decide) ?_
        refine lv_iadd hx hb dX6_linksAt_51 ?_
        refine lv_istore_n (lv' := [(3, .int (v3 + 1)), (0, .ref (A 0)), (1, .int v1), (2, .int v2), (4, .int v4)]) hx hb dX6_linksAt_52 rfl hl (by decide) rfl (fun ls hl => ?_)
        refine lv_iinc (v := (v4 + 1)) (lv' := [(4, .int (v4 + 1)), (3, .int (v3 + 1)), (0, .ref (A 0)), (1, .int v1), (2, .int v2)]) hx hb dX6_linksAt_53 hl (k := 4) rfl rfl (by decide) rfl (fun ls hl => ?_)
        refine lv_goto (tgt := 5) hx hb dX6_linksAt_56 (by decide) ?_
        obtain rfl := Option.some.inj hf
        exact ih1 (v3 + 1) (v4 + 1) hk1 _ (lv_sub hl [2, 3, 4, 1, 0] rfl)
      have hj36 : ∀ (v3 : Int32) (v4 : Int32), Md_m_linksAt_j36 x v1 v2 v3 v4 = some q1 → ∀ (ls : Array Slot), lv_has ls 5 [(0, .ref (A 0)), (1, .int v1), (2, .int v2), (3, .int v3), (4, .int v4)] → W p l e ({ frames := 2, cells := 0, slots := 0, locals := 61 } : Room) s m args below meth c s.heap [] 0 0 (MQ below (QRi s.heap r0) args s 0 0 NoA) (F0 m 36 ls []) := by
        intro v3 v4 hf ls hl
        unfold Md_m_linksAt_j36 at hf
        refine lv_iload_n hx hb dX6_linksAt_36 rfl (lv_at hl 2 rfl) ?_
        refine kg_if_eq (tgt := 49) hx hb hf dX6_linksAt_37 (by decide) (fun hc hf => ?_) (fun hc hf => ?_)
        · exact hj49 v3 v4 hf _ (lv_sub hl [0, 1, 2, 3, 4] rfl)
        · refine lv_aload_n hx hb dX6_linksAt_40 rfl (lv_at hl 0 rfl) ?_
          refine lv_iload hx hb dX6_linksAt_41 (lv_at hl 4 rfl) ?_
          obtain ⟨g43, hc, hf⟩ := ob_bind hf
          have hPc : va_P (dC, dI) vwCl (wMd cI cJ A x) s.heap := hP
          refine kg_retRi (va_runV (As := [.int v4]) (rest := []) ⟨hx, hb, hml, hown, hts⟩ (c_X6_isBridge l dC dI cI cJ A s.heap x v4 _ hc) (cwV 1 hts (gw_V wd_18_21 wd_18_18 wd_18_19 wd_18_20 wd_1_5) rfl rfl rfl qX6_isBridge ⟨Nat.le_of_ble_eq_true rfl, Nat.le_of_ble_eq_true rfl⟩) (kg_preVR (ci := 6) (q := (RX6, TX6, 30)) (q0 := 0) hPc hK hN rfl rfl) rfl rfl hl.1 rfl (lv_room (Nat.le_of_ble_eq_true rfl)) dX6_linksAt_43 ⟨Nat.zero_le _, Nat.zero_le _⟩) ?_
          refine kg_b_eq (tgt := 53) hx hb hf dX6_linksAt_46 (by decide) (fun hc hf => ?_) (fun hc hf => ?_)
          · refine lv_iinc (v := (v4 + 1)) (lv' := [(4, .int (v4 + 1)), (0, .ref (A 0)), (1, .int v1), (2, .int v2), (3, .int v3)]) hx hb dX6_linksAt_53 hl (k := 4) rfl rfl (by decide) rfl (fun ls hl => ?_)
            refine lv_goto (tgt := 5) hx hb dX6_linksAt_56 (by decide) ?_
            obtain rfl := Option.some.inj hf
            exact ih1 v3 (v4 + 1) hk1 _ (lv_sub hl [1, 2, 3, 4, 0] rfl)
          · exact hj49 v3 v4 hf _ (lv_sub hl [0, 1, 2, 3, 4] rfl)
      refine lv_iload hx hb dX6_linksAt_5 (lv_at hl 4 rfl) ?_
      refine lv_aload_n hx hb dX6_linksAt_7 rfl (lv_at hl 0 rfl) ?_
      refine va_get (D := (dC, dI)) (ci := 6) (v := .int (Md_m x)) (C := RX6) (T := TX6) (N := 30) hx hb hts hiX6 hown hK hP 0 rfl rfl 2 (by decide) ww0 (fun _ h9 => h9) rfl dX6_linksAt_8 ?_
      refine kg_icmp_ge (tgt := 59) hx hb hf dX6_linksAt_11 (by decide) (fun hc hf => ?_) (fun hc hf => ?_)
      · obtain ⟨qq, hf, hqq⟩ := omap_some hf
        have hkq : qq = r0 := by rw [← hqq] at hk1; exact hk1
        rw [hkq] at hf
        clear hkq hqq
        refine lv_iload_n hx hb dX6_linksAt_59 rfl (lv_at hl 3 rfl) ?_
        obtain rfl := Option.some.inj hf
        exact kg_iretR hx hb hr hlk rfl dX6_linksAt_60
      · refine lv_aload_n hx hb dX6_linksAt_14 rfl (lv_at hl 0 rfl) ?_
        refine va_get (D := (dC, dI)) (ci := 6) (v := .ref (A 1)) (C := RX6) (T := TX6) (N := 30) hx hb hts hiX6 hown hK hP 0 rfl rfl 4 (by decide) ww1 (fun _ h9 => h9) rfl dX6_linksAt_15 ?_
        refine lv_iload hx hb dX6_linksAt_18 (lv_at hl 4 rfl) ?_
        obtain ⟨g20, hv, hf⟩ := ob_bind hf
        refine kg_iald hx hb hK hP 1 0 rfl rfl hv dX6_linksAt_20 ?_
        refine lv_iload_n hx hb dX6_linksAt_21 rfl (lv_at hl 1 rfl) ?_
        refine kg_icmp_eq (tgt := 36) hx hb hf dX6_linksAt_22 (by decide) (fun hc hf => ?_) (fun hc hf => ?_)
        · exact hj36 v3 v4 hf _ (lv_sub hl [0, 1, 2, 3, 4] rfl)
        · refine lv_aload_n hx hb dX6_linksAt_25 rfl (lv_at hl 0 rfl) ?_
          refine va_get (D := (dC, dI)) (ci := 6) (v := .ref (A 2)) (C := RX6) (T := TX6) (N := 30) hx hb hts hiX6 hown hK hP 0 rfl rfl 5 (by decide) ww2 (fun _ h9 => h9) rfl dX6_linksAt_26 ?_
          refine lv_iload hx hb dX6_linksAt_29 (lv_at hl 4 rfl) ?_
          obtain ⟨g31, hv, hf⟩ := ob_bind hf
          refine kg_iald hx hb hK hP 2 0 rfl rfl hv dX6_linksAt_31 ?_
          refine lv_iload_n hx hb dX6_linksAt_32 rfl (lv_at hl 1 rfl) ?_
          refine kg_icmp_ne (tgt := 53) hx hb hf dX6_linksAt_33 (by decide) (fun hc hf => ?_) (fun hc hf => ?_)
          · refine lv_iinc (v := (v4 + 1)) (lv' := [(4, .int (v4 + 1)), (0, .ref (A 0)), (1, .int v1), (2, .int v2), (3, .int v3)]) hx hb dX6_linksAt_53 hl (k := 4) rfl rfl (by decide) rfl (fun ls hl => ?_)
            refine lv_goto (tgt := 5) hx hb dX6_linksAt_56 (by decide) ?_
            obtain rfl := Option.some.inj hf
            exact ih1 v3 (v4 + 1) hk1 _ (lv_sub hl [1, 2, 3, 4, 0] rfl)
          · exact hj36 v3 v4 hf _ (lv_sub hl [0, 1, 2, 3, 4] rfl)
  exact hlp5  FU 0 0 hf _ (lv_sub hl [2, 3, 4, 1, 0] rfl)
set_option maxHeartbeats 4000000 in
set_option maxRecDepth 100000 in
theorem c_X6_isBlock (l : Launch) (dC : Nat → ClassId) (dI : Nat → Nat → Nat) (cI cJ : ClassId) (A : Nat → Nat) (hq : Heap) (x : MdS) (v1 : Int32) (r0 : Bool) (hf : Md_m_isBlock x v1 = some r0) : MRi l yX6_isBlock (wAll yX6_isBlock cX6_isBlock 2 (some .boolean)) ({ frames := 3, cells := 0, slots := 0, locals := 87 } : Room) [.ref (A 0), .int v1] hq (dC, dI) (vTy cI cJ) (wMd cI cJ A x) (b2i r0) := by
  refine kg_metR (cc := cX6_isBlock) (maxL := 2) (ret := (some .boolean)) (by decide) rfl (Nat.le_of_ble_eq_true rfl) ?_
  intro p e s m args below meth c hx hb hr hts hown hlk hml hH hP hK hN ls hl
  subst hH
  have hl : lv_has ls 2 [(0, .ref (A 0)), (1, .int v1)] := hl
  have ww0 := hts (.fieldLink RX6 32 "SafeBlocksModel" "endedBy" "[I") (List.mem_cons_of_mem _ wd_8_6)
  have hiX6 : ∀ w ∈ u_ws RX6 TX6 30, w ∈ wAll yX6_isBlock cX6_isBlock 2 (some .boolean) := fun w h => List.mem_cons_of_mem _ (inlX6 w h)
  unfold Md_m_isBlock at hf
  refine lv_aload_n hx hb dX6_isBlock_0 rfl (lv_at hl 0 rfl) ?_
  refine lv_iload_n hx hb dX6_isBlock_1 rfl (lv_at hl 1 rfl) ?_
  obtain ⟨g2, hc, hf⟩ := ob_bind hf
  have hPc : va_P (dC, dI) vwCl (wMd cI cJ A x) s.heap := hP
  refine kg_retRi (va_runV (As := [.int v1]) (rest := []) ⟨hx, hb, hml, hown, hts⟩ (c_X6_isNode l dC dI cI cJ A s.heap x v1 _ hc) (cwV 1 hts (gw_V wd_12_13 wd_12_10 wd_12_11 wd_12_12 wd_1_5) rfl rfl rfl qX6_isNode ⟨Nat.le_of_ble_eq_true rfl, Nat.le_of_ble_eq_true rfl⟩) (kg_preVR (ci := 6) (q := (RX6, TX6, 30)) (q0 := 0) hPc hK hN rfl rfl) rfl rfl hl.1 rfl (lv_room (Nat.le_of_ble_eq_true rfl)) dX6_isBlock_2 ⟨Nat.zero_le _, Nat.zero_le _⟩) ?_
  refine kg_b_eq (tgt := 22) hx hb hf dX6_isBlock_5 (by decide) (fun hc hf => ?_) (fun hc hf => ?_)
  · refine lv_iconst (v := 0) hx hb dX6_isBlock_22 (by decide) ?_
    obtain rfl := Option.some.inj hf
    exact kg_zretR (b := false) hx hb hr hlk rfl rfl dX6_isBlock_23
  · refine lv_aload_n hx hb dX6_isBlock_8 rfl (lv_at hl 0 rfl) ?_
    refine va_get (D := (dC, dI)) (ci := 6) (v := .ref (A 6)) (C := RX6) (T := TX6) (N := 30) hx hb hts hiX6 hown hK hP 0 rfl rfl 10 (by decide) ww0 (fun _ h9 => h9) rfl dX6_isBlock_9 ?_
    refine lv_iload_n hx hb dX6_isBlock_12 rfl (lv_at hl 1 rfl) ?_
    obtain ⟨g13, hv, hf⟩ := ob_bind hf
    refine kg_iald hx hb hK hP 6 0 rfl rfl hv dX6_isBlock_13 ?_
    refine lv_iconst (v := (-1)) hx hb dX6_isBlock_14 (by decide) ?_
    refine kg_icmp_ne (tgt := 22) hx hb hf dX6_isBlock_15 (by decide) (fun hc hf => ?_) (fun hc hf => ?_)
    · refine lv_iconst (v := 0) hx hb dX6_isBlock_22 (by decide) ?_
      obtain rfl := Option.some.inj hf
      exact kg_zretR (b := false) hx hb hr hlk rfl rfl dX6_isBlock_23
    · refine lv_iconst (v := 1) hx hb dX6_isBlock_18 (by decide) ?_
      refine lv_goto (tgt := 23) hx hb dX6_isBlock_19 (by decide) ?_
      obtain rfl := Option.some.inj hf
      exact kg_zretR (b := true) hx hb hr hlk rfl rfl dX6_isBlock_23
set_option maxHeartbeats 4000000 in
set_option maxRecDepth 100000 in
theorem c_X6_nodesOf (l : Launch) (dC : Nat → ClassId) (dI : Nat → Nat → Nat) (cI cJ : ClassId) (A : Nat → Nat) (hq : Heap) (x : MdS) (v1 : Int32) (v2 : Int32) (r0 : Int32) (hf : Md_m_nodesOf x v1 v2 = some r0) : MRi l yX6_nodesOf (wAll yX6_nodesOf cX6_nodesOf 5 (some .int)) ({ frames := 1, cells := 0, slots := 0, locals := 40 } : Room) [.ref (A 0), .int v1, .int v2] hq (dC, dI) (vTy cI cJ) (wMd cI cJ A x) r0 := by
  refine kg_metR (cc := cX6_nodesOf) (maxL := 5) (ret := (some .int)) (by decide) rfl (Nat.le_of_ble_eq_true rfl) ?_
  intro p e s m args below meth c hx hb hr hts hown hlk hml hH hP hK hN ls hl
  subst hH
  have hl : lv_has ls 5 [(0, .ref (A 0)), (1, .int v1), (2, .int v2)] := hl
  have ww0 := hts (.fieldLink RX6 7 "SafeBlocksModel" "n" "I") (List.mem_cons_of_mem _ wd_7_23)
  have ww1 := hts (.fieldLink RX6 23 "SafeBlocksModel" "nameOf" "[I") (List.mem_cons_of_mem _ wd_8_3)
  have hiX6 : ∀ w ∈ u_ws RX6 TX6 30, w ∈ wAll yX6_nodesOf cX6_nodesOf 5 (some .int) := fun w h => List.mem_cons_of_mem _ (inlX6 w h)
  unfold Md_m_nodesOf at hf
  refine lv_iconst (v := 0) hx hb dX6_nodesOf_0 (by decide) ?_
  refine lv_istore_n (lv' := [(3, .int 0), (0, .ref (A 0)), (1, .int v1), (2, .int v2)]) hx hb dX6_nodesOf_1 rfl hl (by decide) rfl (fun ls hl => ?_)
  refine lv_iconst (v := 0) hx hb dX6_nodesOf_2 (by decide) ?_
  refine lv_istore (lv' := [(4, .int 0), (3, .int 0), (0, .ref (A 0)), (1, .int v1), (2, .int v2)]) hx hb dX6_nodesOf_3 hl (by decide) rfl (fun ls hl => ?_)
  have hlp5 : ∀ (n : Nat) (v3 : Int32) (v4 : Int32), iter (fun p : Int32 × Int32 => Md_m_nodesOf_s5 x v1 v2 p.1 p.2) n (v3, v4) = some r0 → ∀ (ls : Array Slot), lv_has ls 5 [(0, .ref (A 0)), (1, .int v1), (2, .int v2), (3, .int v3), (4, .int v4)] → W p l e ({ frames := 1, cells := 0, slots := 0, locals := 40 } : Room) s m args below meth c s.heap [] 0 0 (MQ below (QRi s.heap r0) args s 0 0 NoA) (F0 m 5 ls []) := by
    intro  n
    induction n with
    | zero => intro v3 v4 hf; exact iter_zero hf
    | succ n ih1 =>
      intro v3 v4 hf ls hl
      obtain ⟨q1, hf, hk1⟩ := iter_succ hf
      have hf : Md_m_nodesOf_s5 x v1 v2 v3 v4 = some q1 := hf
      unfold Md_m_nodesOf_s5 at hf
      refine lv_iload hx hb dX6_nodesOf_5 (lv_at hl 4 rfl) ?_
      refine lv_aload_n hx hb dX6_nodesOf_7 rfl (lv_at hl 0 rfl) ?_
      refine va_get (D := (dC, dI)) (ci := 6) (v := .int (Md_n x)) (C := RX6) (T := TX6) (N := 30) hx hb hts hiX6 hown hK hP 0 rfl rfl 1 (by decide) ww0 (fun _ h9 => h9) rfl dX6_nodesOf_8 ?_
      refine kg_icmp_ge (tgt := 43) hx hb hf dX6_nodesOf_11 (by decide) (fun hc hf => ?_) (fun hc hf => ?_)
      · obtain ⟨qq, hf, hqq⟩ := omap_some hf
        have hkq : qq = r0 := by rw [← hqq] at hk1; exact hk1
        rw [hkq] at hf
        clear hkq hqq
        refine lv_iload_n hx hb dX6_nodesOf_43 rfl (lv_at hl 3 rfl) ?_
        obtain rfl := Option.some.inj hf
        exact kg_iretR hx hb hr hlk rfl dX6_nodesOf_44
      · refine lv_aload_n hx hb dX6_nodesOf_14 rfl (lv_at hl 0 rfl) ?_
        refine va_get (D := (dC, dI)) (ci := 6) (v := .ref (A 3)) (C := RX6) (T := TX6) (N := 30) hx hb hts hiX6 hown hK hP 0 rfl rfl 7 (by decide) ww1 (fun _ h9 => h9) rfl dX6_nodesOf_15 ?_
        refine lv_bipush (v := 32) hx hb dX6_nodesOf_18 (by decide) ?_
        refine lv_iload_n hx hb dX6_nodesOf_20 rfl (lv_at hl 1 rfl) ?_
        refine lv_imul hx hb dX6_nodesOf_21 ?_
        refine lv_iload hx hb dX6_nodesOf_22 (lv_at hl 4 rfl) ?_
        refine lv_iadd hx hb dX6_nodesOf_24 ?_
        obtain ⟨g25, hv, hf⟩ := ob_bind hf
        refine kg_iald hx hb hK hP 3 0 rfl rfl hv dX6_nodesOf_25 ?_
        refine lv_iload_n hx hb dX6_nodesOf_26 rfl (lv_at hl 2 rfl) ?_
        refine kg_icmp_ne (tgt := 37) hx hb hf dX6_nodesOf_27 (by decide) (fun hc hf => ?_) (fun hc hf => ?_)
        · refine lv_iinc (v := (v4 + 1)) (lv' := [(4, .int (v4 + 1)), (0, .ref (A 0)), (1, .int v1), (2, .int v2), (3, .int v3)]) hx hb dX6_nodesOf_37 hl (k := 4) rfl rfl (by decide) rfl (fun ls hl => ?_)
          refine lv_goto (tgt := 5) hx hb dX6_nodesOf_40 (by decide) ?_
          obtain rfl := Option.some.inj hf
          exact ih1 v3 (v4 + 1) hk1 _ (lv_sub hl [1, 2, 3, 4, 0] rfl)
        · refine lv_iload_n hx hb dX6_nodesOf_30 rfl (lv_at hl 3 rfl) ?_
          refine lv_iconst (v := 1) hx hb dX6_nodesOf_31 (by decide) ?_
          refine lv_iload hx hb dX6_nodesOf_32 (lv_at hl 4 rfl) ?_
          refine lv_ishl hx hb dX6_nodesOf_34 ?_
          refine lv_ior hx hb dX6_nodesOf_35 ?_
          refine lv_istore_n (lv' := [(3, .int (v3 ||| (1 <<< (v4 &&& 31)))), (0, .ref (A 0)), (1, .int v1), (2, .int v2), (4, .int v4)]) hx hb dX6_nodesOf_36 rfl hl (by decide) rfl (fun ls hl => ?_)
          refine lv_iinc (v := (v4 + 1)) (lv' := [(4, .int (v4 + 1)), (3, .int (v3 ||| (1 <<< (v4 &&& 31)))), (0, .ref (A 0)), (1, .int v1), (2, .int v2)]) hx hb dX6_nodesOf_37 hl (k := 4) rfl rfl (by decide) rfl (fun ls hl => ?_)
          refine lv_goto (tgt := 5) hx hb dX6_nodesOf_40 (by decide) ?_
          obtain rfl := Option.some.inj hf
          exact ih1 (v3 ||| (1 <<< (v4 &&& 31))) (v4 + 1) hk1 _ (lv_sub hl [2, 3, 4, 1, 0] rfl)
  exact hlp5  FU 0 0 hf _ (lv_sub hl [2, 3, 4, 1, 0] rfl)
set_option maxHeartbeats 4000000 in
set_option maxRecDepth 100000 in
theorem c_X6_least (l : Launch) (dC : Nat → ClassId) (dI : Nat → Nat → Nat) (cI cJ : ClassId) (A : Nat → Nat) (hq : Heap) (x : MdS) (v1 : Int32) (r0 : Int32) (hf : Md_m_least x v1 = some r0) : MRi l yX6_least (wAll yX6_least cX6_least 3 (some .int)) ({ frames := 2, cells := 0, slots := 0, locals := 62 } : Room) [.ref (A 0), .int v1] hq (dC, dI) (vTy cI cJ) (wMd cI cJ A x) r0 := by
  refine kg_metR (cc := cX6_least) (maxL := 3) (ret := (some .int)) (by decide) rfl (Nat.le_of_ble_eq_true rfl) ?_
  intro p e s m args below meth c hx hb hr hts hown hlk hml hH hP hK hN ls hl
  subst hH
  have hl : lv_has ls 3 [(0, .ref (A 0)), (1, .int v1)] := hl
  unfold Md_m_least at hf
  refine lv_iconst (v := 0) hx hb dX6_least_0 (by decide) ?_
  refine lv_istore_n (lv' := [(2, .int 0), (0, .ref (A 0)), (1, .int v1)]) hx hb dX6_least_1 rfl hl (by decide) rfl (fun ls hl => ?_)
  have hlp2 : ∀ (n : Nat) (v2 : Int32), iter (fun p : Int32 => Md_m_least_s2 x v1 p) n (v2) = some r0 → ∀ (ls : Array Slot), lv_has ls 3 [(0, .ref (A 0)), (1, .int v1), (2, .int v2)] → W p l e ({ frames := 2, cells := 0, slots := 0, locals := 62 } : Room) s m args below meth c s.heap [] 0 0 (MQ below (QRi s.heap r0) args s 0 0 NoA) (F0 m 2 ls []) := by
    intro  n
    induction n with
    | zero => intro v2 hf; exact iter_zero hf
    | succ n ih1 =>
      intro v2 hf ls hl
      obtain ⟨q1, hf, hk1⟩ := iter_succ hf
      have hf : Md_m_least_s2 x v1 v2 = some q1 := hf
      unfold Md_m_least_s2 at hf
      refine lv_aload_n hx hb dX6_least_2 rfl (lv_at hl 0 rfl) ?_
      refine lv_iload_n hx hb dX6_least_3 rfl (lv_at hl 1 rfl) ?_
      refine lv_iload_n hx hb dX6_least_4 rfl (lv_at hl 2 rfl) ?_
      obtain ⟨g5, hc, hf⟩ := ob_bind hf
      have hPc : va_P (dC, dI) vwCl (wMd cI cJ A x) s.heap := hP
      refine kg_retRi (va_runV (As := [.int v1, .int v2]) (rest := []) ⟨hx, hb, hml, hown, hts⟩ (c_X6_has l dC dI cI cJ A s.heap x v1 v2 _ hc) (cwV 2 hts (gw_V wd_14_13 wd_14_10 wd_14_11 wd_14_12 wd_1_5) rfl rfl rfl qX6_has ⟨Nat.le_of_ble_eq_true rfl, Nat.le_of_ble_eq_true rfl⟩) (kg_preVR (ci := 6) (q := (RX6, TX6, 30)) (q0 := 0) hPc hK hN rfl rfl) rfl rfl hl.1 rfl (lv_room (Nat.le_of_ble_eq_true rfl)) dX6_least_5 ⟨Nat.zero_le _, Nat.zero_le _⟩) ?_
      refine kg_b_ne (tgt := 18) hx hb hf dX6_least_8 (by decide) (fun hc hf => ?_) (fun hc hf => ?_)
      · obtain ⟨qq, hf, hqq⟩ := omap_some hf
        have hkq : qq = r0 := by rw [← hqq] at hk1; exact hk1
        rw [hkq] at hf
        clear hkq hqq
        refine lv_iload_n hx hb dX6_least_18 rfl (lv_at hl 2 rfl) ?_
        obtain rfl := Option.some.inj hf
        exact kg_iretR hx hb hr hlk rfl dX6_least_19
      · refine lv_iload_n hx hb dX6_least_11 rfl (lv_at hl 2 rfl) ?_
        refine lv_iconst (v := 1) hx hb dX6_least_12 (by decide) ?_
        refine lv_iadd hx hb dX6_least_13 ?_
        refine lv_istore_n (lv' := [(2, .int (v2 + 1)), (0, .ref (A 0)), (1, .int v1)]) hx hb dX6_least_14 rfl hl (by decide) rfl (fun ls hl => ?_)
        refine lv_goto (tgt := 2) hx hb dX6_least_15 (by decide) ?_
        obtain rfl := Option.some.inj hf
        exact ih1 (v2 + 1) hk1 _ (lv_sub hl [1, 2, 0] rfl)
  exact hlp2  FU 0 hf _ (lv_sub hl [1, 2, 0] rfl)
set_option maxHeartbeats 4000000 in
set_option maxRecDepth 100000 in
theorem c_X6_bridgesAt (l : Launch) (dC : Nat → ClassId) (dI : Nat → Nat → Nat) (cI cJ : ClassId) (A : Nat → Nat) (hq : Heap) (x : MdS) (v1 : Int32) (r0 : Int32) (hf : Md_m_bridgesAt x v1 = some r0) : MRi l yX6_bridgesAt (wAll yX6_bridgesAt cX6_bridgesAt 4 (some .int)) ({ frames := 2, cells := 0, slots := 0, locals := 61 } : Room) [.ref (A 0), .int v1] hq (dC, dI) (vTy cI cJ) (wMd cI cJ A x) r0 := by
  refine kg_metR (cc := cX6_bridgesAt) (maxL := 4) (ret := (some .int)) (by decide) rfl (Nat.le_of_ble_eq_true rfl) ?_
  intro p e s m args below meth c hx hb hr hts hown hlk hml hH hP hK hN ls hl
  subst hH
  have hl : lv_has ls 4 [(0, .ref (A 0)), (1, .int v1)] := hl
  have ww0 := hts (.fieldLink RX6 78 "SafeBlocksModel" "m" "I") (List.mem_cons_of_mem _ wd_9_6)
  have ww1 := hts (.fieldLink RX6 13 "SafeBlocksModel" "first" "[I") (List.mem_cons_of_mem _ wd_8_0)
  have ww2 := hts (.fieldLink RX6 17 "SafeBlocksModel" "second" "[I") (List.mem_cons_of_mem _ wd_8_1)
  have hiX6 : ∀ w ∈ u_ws RX6 TX6 30, w ∈ wAll yX6_bridgesAt cX6_bridgesAt 4 (some .int) := fun w h => List.mem_cons_of_mem _ (inlX6 w h)
  unfold Md_m_bridgesAt at hf
  refine lv_iconst (v := 0) hx hb dX6_bridgesAt_0 (by decide) ?_
  refine lv_istore_n (lv' := [(2, .int 0), (0, .ref (A 0)), (1, .int v1)]) hx hb dX6_bridgesAt_1 rfl hl (by decide) rfl (fun ls hl => ?_)
  refine lv_iconst (v := 0) hx hb dX6_bridgesAt_2 (by decide) ?_
  refine lv_istore_n (lv' := [(3, .int 0), (2, .int 0), (0, .ref (A 0)), (1, .int v1)]) hx hb dX6_bridgesAt_3 rfl hl (by decide) rfl (fun ls hl => ?_)
  have hlp4 : ∀ (n : Nat) (v2 : Int32) (v3 : Int32), iter (fun p : Int32 × Int32 => Md_m_bridgesAt_s4 x v1 p.1 p.2) n (v2, v3) = some r0 → ∀ (ls : Array Slot), lv_has ls 4 [(0, .ref (A 0)), (1, .int v1), (2, .int v2), (3, .int v3)] → W p l e ({ frames := 2, cells := 0, slots := 0, locals := 61 } : Room) s m args below meth c s.heap [] 0 0 (MQ below (QRi s.heap r0) args s 0 0 NoA) (F0 m 4 ls []) := by
    intro  n
    induction n with
    | zero => intro v2 v3 hf; exact iter_zero hf
    | succ n ih1 =>
      intro v2 v3 hf ls hl
      obtain ⟨q1, hf, hk1⟩ := iter_succ hf
      have hf : Md_m_bridgesAt_s4 x v1 v2 v3 = some q1 := hf
      unfold Md_m_bridgesAt_s4 at hf
      have hj48 : ∀ (v2 : Int32) (v3 : Int32), Md_m_bridgesAt_j48 x v1 v2 v3 = some q1 → ∀ (ls : Array Slot), lv_has ls 4 [(0, .ref (A 0)), (1, .int v1), (2, .int v2), (3, .int v3)] → W p l e ({ frames := 2, cells := 0, slots := 0, locals := 61 } : Room) s m args below meth c s.heap [] 0 0 (MQ below (QRi s.heap r0) args s 0 0 NoA) (F0 m 48 ls []) := by
        intro v2 v3 hf ls hl
        unfold Md_m_bridgesAt_j48 at hf
        refine lv_iload_n hx hb dX6_bridgesAt_48 rfl (lv_at hl 2 rfl) ?_
        refine lv_iconst (v := 1) hx hb dX6_bridgesAt_49 (by decide) ?_
        refine lv_iadd hx hb dX6_bridgesAt_50 ?_
        refine lv_istore_n (lv' := [(2, .int (v2 + 1)), (0, .ref (A 0)), (1, .int v1), (3, .int v3)]) hx hb dX6_bridgesAt_51 rfl hl (by decide) rfl (fun ls hl => ?_)
        refine lv_iinc (v := (v3 + 1)) (lv' := [(3, .int (v3 + 1)), (2, .int (v2 + 1)), (0, .ref (A 0)), (1, .int v1)]) hx hb dX6_bridgesAt_52 hl (k := 3) rfl rfl (by decide) rfl (fun ls hl => ?_)
        refine lv_goto (tgt := 4) hx hb dX6_bridgesAt_55 (by decide) ?_
        obtain rfl := Option.some.inj hf
        exact ih1 (v2 + 1) (v3 + 1) hk1 _ (lv_sub hl [2, 3, 1, 0] rfl)
      refine lv_iload_n hx hb dX6_bridgesAt_4 rfl (lv_at hl 3 rfl) ?_
      refine lv_aload_n hx hb dX6_bridgesAt_5 rfl (lv_at hl 0 rfl) ?_
      refine va_get (D := (dC, dI)) (ci := 6) (v := .int (Md_m x)) (C := RX6) (T := TX6) (N := 30) hx hb hts hiX6 hown hK hP 0 rfl rfl 2 (by decide) ww0 (fun _ h9 => h9) rfl dX6_bridgesAt_6 ?_
      refine kg_icmp_ge (tgt := 58) hx hb hf dX6_bridgesAt_9 (by decide) (fun hc hf => ?_) (fun hc hf => ?_)
      · obtain ⟨qq, hf, hqq⟩ := omap_some hf
        have hkq : qq = r0 := by rw [← hqq] at hk1; exact hk1
        rw [hkq] at hf
        clear hkq hqq
        refine lv_iload_n hx hb dX6_bridgesAt_58 rfl (lv_at hl 2 rfl) ?_
        obtain rfl := Option.some.inj hf
        exact kg_iretR hx hb hr hlk rfl dX6_bridgesAt_59
      · refine lv_aload_n hx hb dX6_bridgesAt_12 rfl (lv_at hl 0 rfl) ?_
        refine lv_iload_n hx hb dX6_bridgesAt_13 rfl (lv_at hl 3 rfl) ?_
        obtain ⟨g14, hc, hf⟩ := ob_bind hf
        have hPc : va_P (dC, dI) vwCl (wMd cI cJ A x) s.heap := hP
        refine kg_retRi (va_runV (As := [.int v3]) (rest := []) ⟨hx, hb, hml, hown, hts⟩ (c_X6_isBridge l dC dI cI cJ A s.heap x v3 _ hc) (cwV 1 hts (gw_V wd_18_21 wd_18_18 wd_18_19 wd_18_20 wd_1_5) rfl rfl rfl qX6_isBridge ⟨Nat.le_of_ble_eq_true rfl, Nat.le_of_ble_eq_true rfl⟩) (kg_preVR (ci := 6) (q := (RX6, TX6, 30)) (q0 := 0) hPc hK hN rfl rfl) rfl rfl hl.1 rfl (lv_room (Nat.le_of_ble_eq_true rfl)) dX6_bridgesAt_14 ⟨Nat.zero_le _, Nat.zero_le _⟩) ?_
        refine kg_b_eq (tgt := 52) hx hb hf dX6_bridgesAt_17 (by decide) (fun hc hf => ?_) (fun hc hf => ?_)
        · refine lv_iinc (v := (v3 + 1)) (lv' := [(3, .int (v3 + 1)), (0, .ref (A 0)), (1, .int v1), (2, .int v2)]) hx hb dX6_bridgesAt_52 hl (k := 3) rfl rfl (by decide) rfl (fun ls hl => ?_)
          refine lv_goto (tgt := 4) hx hb dX6_bridgesAt_55 (by decide) ?_
          obtain rfl := Option.some.inj hf
          exact ih1 v2 (v3 + 1) hk1 _ (lv_sub hl [1, 2, 3, 0] rfl)
        · refine lv_aload_n hx hb dX6_bridgesAt_20 rfl (lv_at hl 0 rfl) ?_
          refine lv_aload_n hx hb dX6_bridgesAt_21 rfl (lv_at hl 0 rfl) ?_
          refine va_get (D := (dC, dI)) (ci := 6) (v := .ref (A 1)) (C := RX6) (T := TX6) (N := 30) hx hb hts hiX6 hown hK hP 0 rfl rfl 4 (by decide) ww1 (fun _ h9 => h9) rfl dX6_bridgesAt_22 ?_
          refine lv_iload_n hx hb dX6_bridgesAt_25 rfl (lv_at hl 3 rfl) ?_
          obtain ⟨g26, hv, hf⟩ := ob_bind hf
          refine kg_iald hx hb hK hP 1 0 rfl rfl hv dX6_bridgesAt_26 ?_
          obtain ⟨g27, hc, hf⟩ := ob_bind hf
          have hPc : va_P (dC, dI) vwCl (wMd cI cJ A x) s.heap := hP
          refine kg_retRi (va_runV (As := [.int g26]) (rest := []) ⟨hx, hb, hml, hown, hts⟩ (c_X6_blockAt l dC dI cI cJ A s.heap x g26 _ hc) (cwV 1 hts (gw_V wd_13_13 wd_13_10 wd_13_11 wd_13_12 wd_1_5) rfl rfl rfl qX6_blockAt ⟨Nat.le_of_ble_eq_true rfl, Nat.le_of_ble_eq_true rfl⟩) (kg_preVR (ci := 6) (q := (RX6, TX6, 30)) (q0 := 0) hPc hK hN rfl rfl) rfl rfl hl.1 rfl (lv_room (Nat.le_of_ble_eq_true rfl)) dX6_bridgesAt_27 ⟨Nat.zero_le _, Nat.zero_le _⟩) ?_
          refine lv_iload_n hx hb dX6_bridgesAt_30 rfl (lv_at hl 1 rfl) ?_
          refine kg_icmp_eq (tgt := 48) hx hb hf dX6_bridgesAt_31 (by decide) (fun hc hf => ?_) (fun hc hf => ?_)
          · exact hj48 v2 v3 hf _ (lv_sub hl [0, 1, 2, 3] rfl)
          · refine lv_aload_n hx hb dX6_bridgesAt_34 rfl (lv_at hl 0 rfl) ?_
            refine lv_aload_n hx hb dX6_bridgesAt_35 rfl (lv_at hl 0 rfl) ?_
            refine va_get (D := (dC, dI)) (ci := 6) (v := .ref (A 2)) (C := RX6) (T := TX6) (N := 30) hx hb hts hiX6 hown hK hP 0 rfl rfl 5 (by decide) ww2 (fun _ h9 => h9) rfl dX6_bridgesAt_36 ?_
            refine lv_iload_n hx hb dX6_bridgesAt_39 rfl (lv_at hl 3 rfl) ?_
            obtain ⟨g40, hv, hf⟩ := ob_bind hf
            refine kg_iald hx hb hK hP 2 0 rfl rfl hv dX6_bridgesAt_40 ?_
            obtain ⟨g41, hc, hf⟩ := ob_bind hf
            have hPc : va_P (dC, dI) vwCl (wMd cI cJ A x) s.heap := hP
            refine kg_retRi (va_runV (As := [.int g40]) (rest := []) ⟨hx, hb, hml, hown, hts⟩ (c_X6_blockAt l dC dI cI cJ A s.heap x g40 _ hc) (cwV 1 hts (gw_V wd_13_13 wd_13_10 wd_13_11 wd_13_12 wd_1_5) rfl rfl rfl qX6_blockAt ⟨Nat.le_of_ble_eq_true rfl, Nat.le_of_ble_eq_true rfl⟩) (kg_preVR (ci := 6) (q := (RX6, TX6, 30)) (q0 := 0) hPc hK hN rfl rfl) rfl rfl hl.1 rfl (lv_room (Nat.le_of_ble_eq_true rfl)) dX6_bridgesAt_41 ⟨Nat.zero_le _, Nat.zero_le _⟩) ?_
            refine lv_iload_n hx hb dX6_bridgesAt_44 rfl (lv_at hl 1 rfl) ?_
            refine kg_icmp_ne (tgt := 52) hx hb hf dX6_bridgesAt_45 (by decide) (fun hc hf => ?_) (fun hc hf => ?_)
            · refine lv_iinc (v := (v3 + 1)) (lv' := [(3, .int (v3 + 1)), (0, .ref (A 0)), (1, .int v1), (2, .int v2)]) hx hb dX6_bridgesAt_52 hl (k := 3) rfl rfl (by decide) rfl (fun ls hl => ?_)
              refine lv_goto (tgt := 4) hx hb dX6_bridgesAt_55 (by decide) ?_
              obtain rfl := Option.some.inj hf
              exact ih1 v2 (v3 + 1) hk1 _ (lv_sub hl [1, 2, 3, 0] rfl)
            · exact hj48 v2 v3 hf _ (lv_sub hl [0, 1, 2, 3] rfl)
  exact hlp4  FU 0 0 hf _ (lv_sub hl [2, 3, 1, 0] rfl)
set_option maxHeartbeats 4000000 in
set_option maxRecDepth 100000 in
theorem c_X6_linksIn (l : Launch) (dC : Nat → ClassId) (dI : Nat → Nat → Nat) (cI cJ : ClassId) (A : Nat → Nat) (hq : Heap) (x : MdS) (v1 : Int32) (r0 : Int32) (hf : Md_m_linksIn x v1 = some r0) : MRi l yX6_linksIn (wAll yX6_linksIn cX6_linksIn 4 (some .int)) ({ frames := 2, cells := 0, slots := 0, locals := 61 } : Room) [.ref (A 0), .int v1] hq (dC, dI) (vTy cI cJ) (wMd cI cJ A x) r0 := by
  refine kg_metR (cc := cX6_linksIn) (maxL := 4) (ret := (some .int)) (by decide) rfl (Nat.le_of_ble_eq_true rfl) ?_
  intro p e s m args below meth c hx hb hr hts hown hlk hml hH hP hK hN ls hl
  subst hH
  have hl : lv_has ls 4 [(0, .ref (A 0)), (1, .int v1)] := hl
  have ww0 := hts (.fieldLink RX6 78 "SafeBlocksModel" "m" "I") (List.mem_cons_of_mem _ wd_9_6)
  have ww1 := hts (.fieldLink RX6 13 "SafeBlocksModel" "first" "[I") (List.mem_cons_of_mem _ wd_8_0)
  have ww2 := hts (.fieldLink RX6 17 "SafeBlocksModel" "second" "[I") (List.mem_cons_of_mem _ wd_8_1)
  have hiX6 : ∀ w ∈ u_ws RX6 TX6 30, w ∈ wAll yX6_linksIn cX6_linksIn 4 (some .int) := fun w h => List.mem_cons_of_mem _ (inlX6 w h)
  unfold Md_m_linksIn at hf
  refine lv_iconst (v := 0) hx hb dX6_linksIn_0 (by decide) ?_
  refine lv_istore_n (lv' := [(2, .int 0), (0, .ref (A 0)), (1, .int v1)]) hx hb dX6_linksIn_1 rfl hl (by decide) rfl (fun ls hl => ?_)
  refine lv_iconst (v := 0) hx hb dX6_linksIn_2 (by decide) ?_
  refine lv_istore_n (lv' := [(3, .int 0), (2, .int 0), (0, .ref (A 0)), (1, .int v1)]) hx hb dX6_linksIn_3 rfl hl (by decide) rfl (fun ls hl => ?_)
  have hlp4 : ∀ (n : Nat) (v2 : Int32) (v3 : Int32), iter (fun p : Int32 × Int32 => Md_m_linksIn_s4 x v1 p.1 p.2) n (v2, v3) = some r0 → ∀ (ls : Array Slot), lv_has ls 4 [(0, .ref (A 0)), (1, .int v1), (2, .int v2), (3, .int v3)] → W p l e ({ frames := 2, cells := 0, slots := 0, locals := 61 } : Room) s m args below meth c s.heap [] 0 0 (MQ below (QRi s.heap r0) args s 0 0 NoA) (F0 m 4 ls []) := by
    intro  n
    induction n with
    | zero => intro v2 v3 hf; exact iter_zero hf
    | succ n ih1 =>
      intro v2 v3 hf ls hl
      obtain ⟨q1, hf, hk1⟩ := iter_succ hf
      have hf : Md_m_linksIn_s4 x v1 v2 v3 = some q1 := hf
      unfold Md_m_linksIn_s4 at hf
      refine lv_iload_n hx hb dX6_linksIn_4 rfl (lv_at hl 3 rfl) ?_
      refine lv_aload_n hx hb dX6_linksIn_5 rfl (lv_at hl 0 rfl) ?_
      refine va_get (D := (dC, dI)) (ci := 6) (v := .int (Md_m x)) (C := RX6) (T := TX6) (N := 30) hx hb hts hiX6 hown hK hP 0 rfl rfl 2 (by decide) ww0 (fun _ h9 => h9) rfl dX6_linksIn_6 ?_
      refine kg_icmp_ge (tgt := 50) hx hb hf dX6_linksIn_9 (by decide) (fun hc hf => ?_) (fun hc hf => ?_)
      · obtain ⟨qq, hf, hqq⟩ := omap_some hf
        have hkq : qq = r0 := by rw [← hqq] at hk1; exact hk1
        rw [hkq] at hf
        clear hkq hqq
        refine lv_iload_n hx hb dX6_linksIn_50 rfl (lv_at hl 2 rfl) ?_
        obtain rfl := Option.some.inj hf
        exact kg_iretR hx hb hr hlk rfl dX6_linksIn_51
      · refine lv_aload_n hx hb dX6_linksIn_12 rfl (lv_at hl 0 rfl) ?_
        refine lv_aload_n hx hb dX6_linksIn_13 rfl (lv_at hl 0 rfl) ?_
        refine va_get (D := (dC, dI)) (ci := 6) (v := .ref (A 1)) (C := RX6) (T := TX6) (N := 30) hx hb hts hiX6 hown hK hP 0 rfl rfl 4 (by decide) ww1 (fun _ h9 => h9) rfl dX6_linksIn_14 ?_
        refine lv_iload_n hx hb dX6_linksIn_17 rfl (lv_at hl 3 rfl) ?_
        obtain ⟨g18, hv, hf⟩ := ob_bind hf
        refine kg_iald hx hb hK hP 1 0 rfl rfl hv dX6_linksIn_18 ?_
        obtain ⟨g19, hc, hf⟩ := ob_bind hf
        have hPc : va_P (dC, dI) vwCl (wMd cI cJ A x) s.heap := hP
        refine kg_retRi (va_runV (As := [.int g18]) (rest := []) ⟨hx, hb, hml, hown, hts⟩ (c_X6_blockAt l dC dI cI cJ A s.heap x g18 _ hc) (cwV 1 hts (gw_V wd_13_13 wd_13_10 wd_13_11 wd_13_12 wd_1_5) rfl rfl rfl qX6_blockAt ⟨Nat.le_of_ble_eq_true rfl, Nat.le_of_ble_eq_true rfl⟩) (kg_preVR (ci := 6) (q := (RX6, TX6, 30)) (q0 := 0) hPc hK hN rfl rfl) rfl rfl hl.1 rfl (lv_room (Nat.le_of_ble_eq_true rfl)) dX6_linksIn_19 ⟨Nat.zero_le _, Nat.zero_le _⟩) ?_
        refine lv_iload_n hx hb dX6_linksIn_22 rfl (lv_at hl 1 rfl) ?_
        refine kg_icmp_ne (tgt := 44) hx hb hf dX6_linksIn_23 (by decide) (fun hc hf => ?_) (fun hc hf => ?_)
        · refine lv_iinc (v := (v3 + 1)) (lv' := [(3, .int (v3 + 1)), (0, .ref (A 0)), (1, .int v1), (2, .int v2)]) hx hb dX6_linksIn_44 hl (k := 3) rfl rfl (by decide) rfl (fun ls hl => ?_)
          refine lv_goto (tgt := 4) hx hb dX6_linksIn_47 (by decide) ?_
          obtain rfl := Option.some.inj hf
          exact ih1 v2 (v3 + 1) hk1 _ (lv_sub hl [1, 2, 3, 0] rfl)
        · refine lv_aload_n hx hb dX6_linksIn_26 rfl (lv_at hl 0 rfl) ?_
          refine lv_aload_n hx hb dX6_linksIn_27 rfl (lv_at hl 0 rfl) ?_
          refine va_get (D := (dC, dI)) (ci := 6) (v := .ref (A 2)) (C := RX6) (T := TX6) (N := 30) hx hb hts hiX6 hown hK hP 0 rfl rfl 5 (by decide) ww2 (fun _ h9 => h9) rfl dX6_linksIn_28 ?_
          refine lv_iload_n hx hb dX6_linksIn_31 rfl (lv_at hl 3 rfl) ?_
          obtain ⟨g32, hv, hf⟩ := ob_bind hf
          refine kg_iald hx hb hK hP 2 0 rfl rfl hv dX6_linksIn_32 ?_
          obtain ⟨g33, hc, hf⟩ := ob_bind hf
          have hPc : va_P (dC, dI) vwCl (wMd cI cJ A x) s.heap := hP
          refine kg_retRi (va_runV (As := [.int g32]) (rest := []) ⟨hx, hb, hml, hown, hts⟩ (c_X6_blockAt l dC dI cI cJ A s.heap x g32 _ hc) (cwV 1 hts (gw_V wd_13_13 wd_13_10 wd_13_11 wd_13_12 wd_1_5) rfl rfl rfl qX6_blockAt ⟨Nat.le_of_ble_eq_true rfl, Nat.le_of_ble_eq_true rfl⟩) (kg_preVR (ci := 6) (q := (RX6, TX6, 30)) (q0 := 0) hPc hK hN rfl rfl) rfl rfl hl.1 rfl (lv_room (Nat.le_of_ble_eq_true rfl)) dX6_linksIn_33 ⟨Nat.zero_le _, Nat.zero_le _⟩) ?_
          refine lv_iload_n hx hb dX6_linksIn_36 rfl (lv_at hl 1 rfl) ?_
          refine kg_icmp_ne (tgt := 44) hx hb hf dX6_linksIn_37 (by decide) (fun hc hf => ?_) (fun hc hf => ?_)
          · refine lv_iinc (v := (v3 + 1)) (lv' := [(3, .int (v3 + 1)), (0, .ref (A 0)), (1, .int v1), (2, .int v2)]) hx hb dX6_linksIn_44 hl (k := 3) rfl rfl (by decide) rfl (fun ls hl => ?_)
            refine lv_goto (tgt := 4) hx hb dX6_linksIn_47 (by decide) ?_
            obtain rfl := Option.some.inj hf
            exact ih1 v2 (v3 + 1) hk1 _ (lv_sub hl [1, 2, 3, 0] rfl)
          · refine lv_iload_n hx hb dX6_linksIn_40 rfl (lv_at hl 2 rfl) ?_
            refine lv_iconst (v := 1) hx hb dX6_linksIn_41 (by decide) ?_
            refine lv_iadd hx hb dX6_linksIn_42 ?_
            refine lv_istore_n (lv' := [(2, .int (v2 + 1)), (0, .ref (A 0)), (1, .int v1), (3, .int v3)]) hx hb dX6_linksIn_43 rfl hl (by decide) rfl (fun ls hl => ?_)
            refine lv_iinc (v := (v3 + 1)) (lv' := [(3, .int (v3 + 1)), (2, .int (v2 + 1)), (0, .ref (A 0)), (1, .int v1)]) hx hb dX6_linksIn_44 hl (k := 3) rfl rfl (by decide) rfl (fun ls hl => ?_)
            refine lv_goto (tgt := 4) hx hb dX6_linksIn_47 (by decide) ?_
            obtain rfl := Option.some.inj hf
            exact ih1 (v2 + 1) (v3 + 1) hk1 _ (lv_sub hl [2, 3, 1, 0] rfl)
  exact hlp4  FU 0 0 hf _ (lv_sub hl [2, 3, 1, 0] rfl)
set_option maxHeartbeats 4000000 in
set_option maxRecDepth 100000 in
theorem c_X6_children (l : Launch) (dC : Nat → ClassId) (dI : Nat → Nat → Nat) (cI cJ : ClassId) (A : Nat → Nat) (hq : Heap) (x : MdS) (v1 : Int32) (r0 : Int32) (hf : Md_m_children x v1 = some r0) : MRi l yX6_children (wAll yX6_children cX6_children 4 (some .int)) ({ frames := 4, cells := 0, slots := 0, locals := 108 } : Room) [.ref (A 0), .int v1] hq (dC, dI) (vTy cI cJ) (wMd cI cJ A x) r0 := by
  refine kg_metR (cc := cX6_children) (maxL := 4) (ret := (some .int)) (by decide) rfl (Nat.le_of_ble_eq_true rfl) ?_
  intro p e s m args below meth c hx hb hr hts hown hlk hml hH hP hK hN ls hl
  subst hH
  have hl : lv_has ls 4 [(0, .ref (A 0)), (1, .int v1)] := hl
  have ww0 := hts (.fieldLink RX6 7 "SafeBlocksModel" "n" "I") (List.mem_cons_of_mem _ wd_7_23)
  have ww1 := hts (.fieldLink RX6 26 "SafeBlocksModel" "parent" "[I") (List.mem_cons_of_mem _ wd_8_4)
  have hiX6 : ∀ w ∈ u_ws RX6 TX6 30, w ∈ wAll yX6_children cX6_children 4 (some .int) := fun w h => List.mem_cons_of_mem _ (inlX6 w h)
  unfold Md_m_children at hf
  refine lv_iconst (v := 0) hx hb dX6_children_0 (by decide) ?_
  refine lv_istore_n (lv' := [(2, .int 0), (0, .ref (A 0)), (1, .int v1)]) hx hb dX6_children_1 rfl hl (by decide) rfl (fun ls hl => ?_)
  refine lv_iconst (v := 0) hx hb dX6_children_2 (by decide) ?_
  refine lv_istore_n (lv' := [(3, .int 0), (2, .int 0), (0, .ref (A 0)), (1, .int v1)]) hx hb dX6_children_3 rfl hl (by decide) rfl (fun ls hl => ?_)
  have hlp4 : ∀ (n : Nat) (v2 : Int32) (v3 : Int32), iter (fun p : Int32 × Int32 => Md_m_children_s4 x v1 p.1 p.2) n (v2, v3) = some r0 → ∀ (ls : Array Slot), lv_has ls 4 [(0, .ref (A 0)), (1, .int v1), (2, .int v2), (3, .int v3)] → W p l e ({ frames := 4, cells := 0, slots := 0, locals := 108 } : Room) s m args below meth c s.heap [] 0 0 (MQ below (QRi s.heap r0) args s 0 0 NoA) (F0 m 4 ls []) := by
    intro  n
    induction n with
    | zero => intro v2 v3 hf; exact iter_zero hf
    | succ n ih1 =>
      intro v2 v3 hf ls hl
      obtain ⟨q1, hf, hk1⟩ := iter_succ hf
      have hf : Md_m_children_s4 x v1 v2 v3 = some q1 := hf
      unfold Md_m_children_s4 at hf
      refine lv_iload_n hx hb dX6_children_4 rfl (lv_at hl 3 rfl) ?_
      refine lv_aload_n hx hb dX6_children_5 rfl (lv_at hl 0 rfl) ?_
      refine va_get (D := (dC, dI)) (ci := 6) (v := .int (Md_n x)) (C := RX6) (T := TX6) (N := 30) hx hb hts hiX6 hown hK hP 0 rfl rfl 1 (by decide) ww0 (fun _ h9 => h9) rfl dX6_children_6 ?_
      refine kg_icmp_ge (tgt := 40) hx hb hf dX6_children_9 (by decide) (fun hc hf => ?_) (fun hc hf => ?_)
      · obtain ⟨qq, hf, hqq⟩ := omap_some hf
        have hkq : qq = r0 := by rw [← hqq] at hk1; exact hk1
        rw [hkq] at hf
        clear hkq hqq
        refine lv_iload_n hx hb dX6_children_40 rfl (lv_at hl 2 rfl) ?_
        obtain rfl := Option.some.inj hf
        exact kg_iretR hx hb hr hlk rfl dX6_children_41
      · refine lv_aload_n hx hb dX6_children_12 rfl (lv_at hl 0 rfl) ?_
        refine lv_iload_n hx hb dX6_children_13 rfl (lv_at hl 3 rfl) ?_
        obtain ⟨g14, hc, hf⟩ := ob_bind hf
        have hPc : va_P (dC, dI) vwCl (wMd cI cJ A x) s.heap := hP
        refine kg_retRi (va_runV (As := [.int v3]) (rest := []) ⟨hx, hb, hml, hown, hts⟩ (c_X6_isBlock l dC dI cI cJ A s.heap x v3 _ hc) (cwV 1 hts (gw_V wd_24_17 wd_24_14 wd_24_15 wd_24_16 wd_1_5) rfl rfl rfl qX6_isBlock ⟨Nat.le_of_ble_eq_true rfl, Nat.le_of_ble_eq_true rfl⟩) (kg_preVR (ci := 6) (q := (RX6, TX6, 30)) (q0 := 0) hPc hK hN rfl rfl) rfl rfl hl.1 rfl (lv_room (Nat.le_of_ble_eq_true rfl)) dX6_children_14 ⟨Nat.zero_le _, Nat.zero_le _⟩) ?_
        refine kg_b_eq (tgt := 34) hx hb hf dX6_children_17 (by decide) (fun hc hf => ?_) (fun hc hf => ?_)
        · refine lv_iinc (v := (v3 + 1)) (lv' := [(3, .int (v3 + 1)), (0, .ref (A 0)), (1, .int v1), (2, .int v2)]) hx hb dX6_children_34 hl (k := 3) rfl rfl (by decide) rfl (fun ls hl => ?_)
          refine lv_goto (tgt := 4) hx hb dX6_children_37 (by decide) ?_
          obtain rfl := Option.some.inj hf
          exact ih1 v2 (v3 + 1) hk1 _ (lv_sub hl [1, 2, 3, 0] rfl)
        · refine lv_aload_n hx hb dX6_children_20 rfl (lv_at hl 0 rfl) ?_
          refine va_get (D := (dC, dI)) (ci := 6) (v := .ref (A 4)) (C := RX6) (T := TX6) (N := 30) hx hb hts hiX6 hown hK hP 0 rfl rfl 8 (by decide) ww1 (fun _ h9 => h9) rfl dX6_children_21 ?_
          refine lv_iload_n hx hb dX6_children_24 rfl (lv_at hl 3 rfl) ?_
          obtain ⟨g25, hv, hf⟩ := ob_bind hf
          refine kg_iald hx hb hK hP 4 0 rfl rfl hv dX6_children_25 ?_
          refine lv_iload_n hx hb dX6_children_26 rfl (lv_at hl 1 rfl) ?_
          refine kg_icmp_ne (tgt := 34) hx hb hf dX6_children_27 (by decide) (fun hc hf => ?_) (fun hc hf => ?_)
          · refine lv_iinc (v := (v3 + 1)) (lv' := [(3, .int (v3 + 1)), (0, .ref (A 0)), (1, .int v1), (2, .int v2)]) hx hb dX6_children_34 hl (k := 3) rfl rfl (by decide) rfl (fun ls hl => ?_)
            refine lv_goto (tgt := 4) hx hb dX6_children_37 (by decide) ?_
            obtain rfl := Option.some.inj hf
            exact ih1 v2 (v3 + 1) hk1 _ (lv_sub hl [1, 2, 3, 0] rfl)
          · refine lv_iload_n hx hb dX6_children_30 rfl (lv_at hl 2 rfl) ?_
            refine lv_iconst (v := 1) hx hb dX6_children_31 (by decide) ?_
            refine lv_iadd hx hb dX6_children_32 ?_
            refine lv_istore_n (lv' := [(2, .int (v2 + 1)), (0, .ref (A 0)), (1, .int v1), (3, .int v3)]) hx hb dX6_children_33 rfl hl (by decide) rfl (fun ls hl => ?_)
            refine lv_iinc (v := (v3 + 1)) (lv' := [(3, .int (v3 + 1)), (2, .int (v2 + 1)), (0, .ref (A 0)), (1, .int v1)]) hx hb dX6_children_34 hl (k := 3) rfl rfl (by decide) rfl (fun ls hl => ?_)
            refine lv_goto (tgt := 4) hx hb dX6_children_37 (by decide) ?_
            obtain rfl := Option.some.inj hf
            exact ih1 (v2 + 1) (v3 + 1) hk1 _ (lv_sub hl [2, 3, 1, 0] rfl)
  exact hlp4  FU 0 0 hf _ (lv_sub hl [2, 3, 1, 0] rfl)
set_option maxHeartbeats 4000000 in
set_option maxRecDepth 100000 in
theorem c_X6_cutsIn (l : Launch) (dC : Nat → ClassId) (dI : Nat → Nat → Nat) (cI cJ : ClassId) (A : Nat → Nat) (hq : Heap) (x : MdS) (v1 : Int32) (r0 : Int32) (hf : Md_m_cutsIn x v1 = some r0) : MRi l yX6_cutsIn (wAll yX6_cutsIn cX6_cutsIn 4 (some .int)) ({ frames := 3, cells := 0, slots := 0, locals := 87 } : Room) [.ref (A 0), .int v1] hq (dC, dI) (vTy cI cJ) (wMd cI cJ A x) r0 := by
  refine kg_metR (cc := cX6_cutsIn) (maxL := 4) (ret := (some .int)) (by decide) rfl (Nat.le_of_ble_eq_true rfl) ?_
  intro p e s m args below meth c hx hb hr hts hown hlk hml hH hP hK hN ls hl
  subst hH
  have hl : lv_has ls 4 [(0, .ref (A 0)), (1, .int v1)] := hl
  have ww0 := hts (.fieldLink RX6 7 "SafeBlocksModel" "n" "I") (List.mem_cons_of_mem _ wd_7_23)
  have hiX6 : ∀ w ∈ u_ws RX6 TX6 30, w ∈ wAll yX6_cutsIn cX6_cutsIn 4 (some .int) := fun w h => List.mem_cons_of_mem _ (inlX6 w h)
  unfold Md_m_cutsIn at hf
  refine lv_iconst (v := 0) hx hb dX6_cutsIn_0 (by decide) ?_
  refine lv_istore_n (lv' := [(2, .int 0), (0, .ref (A 0)), (1, .int v1)]) hx hb dX6_cutsIn_1 rfl hl (by decide) rfl (fun ls hl => ?_)
  refine lv_iconst (v := 0) hx hb dX6_cutsIn_2 (by decide) ?_
  refine lv_istore_n (lv' := [(3, .int 0), (2, .int 0), (0, .ref (A 0)), (1, .int v1)]) hx hb dX6_cutsIn_3 rfl hl (by decide) rfl (fun ls hl => ?_)
  have hlp4 : ∀ (n : Nat) (v2 : Int32) (v3 : Int32), iter (fun p : Int32 × Int32 => Md_m_cutsIn_s4 x v1 p.1 p.2) n (v2, v3) = some r0 → ∀ (ls : Array Slot), lv_has ls 4 [(0, .ref (A 0)), (1, .int v1), (2, .int v2), (3, .int v3)] → W p l e ({ frames := 3, cells := 0, slots := 0, locals := 87 } : Room) s m args below meth c s.heap [] 0 0 (MQ below (QRi s.heap r0) args s 0 0 NoA) (F0 m 4 ls []) := by
    intro  n
    induction n with
    | zero => intro v2 v3 hf; exact iter_zero hf
    | succ n ih1 =>
      intro v2 v3 hf ls hl
      obtain ⟨q1, hf, hk1⟩ := iter_succ hf
      have hf : Md_m_cutsIn_s4 x v1 v2 v3 = some q1 := hf
      unfold Md_m_cutsIn_s4 at hf
      refine lv_iload_n hx hb dX6_cutsIn_4 rfl (lv_at hl 3 rfl) ?_
      refine lv_aload_n hx hb dX6_cutsIn_5 rfl (lv_at hl 0 rfl) ?_
      refine va_get (D := (dC, dI)) (ci := 6) (v := .int (Md_n x)) (C := RX6) (T := TX6) (N := 30) hx hb hts hiX6 hown hK hP 0 rfl rfl 1 (by decide) ww0 (fun _ h9 => h9) rfl dX6_cutsIn_6 ?_
      refine kg_icmp_ge (tgt := 41) hx hb hf dX6_cutsIn_9 (by decide) (fun hc hf => ?_) (fun hc hf => ?_)
      · obtain ⟨qq, hf, hqq⟩ := omap_some hf
        have hkq : qq = r0 := by rw [← hqq] at hk1; exact hk1
        rw [hkq] at hf
        clear hkq hqq
        refine lv_iload_n hx hb dX6_cutsIn_41 rfl (lv_at hl 2 rfl) ?_
        obtain rfl := Option.some.inj hf
        exact kg_iretR hx hb hr hlk rfl dX6_cutsIn_42
      · refine lv_aload_n hx hb dX6_cutsIn_12 rfl (lv_at hl 0 rfl) ?_
        refine lv_iload_n hx hb dX6_cutsIn_13 rfl (lv_at hl 3 rfl) ?_
        obtain ⟨g14, hc, hf⟩ := ob_bind hf
        have hPc : va_P (dC, dI) vwCl (wMd cI cJ A x) s.heap := hP
        refine kg_retRi (va_runV (As := [.int v3]) (rest := []) ⟨hx, hb, hml, hown, hts⟩ (c_X6_blockAt l dC dI cI cJ A s.heap x v3 _ hc) (cwV 1 hts (gw_V wd_13_13 wd_13_10 wd_13_11 wd_13_12 wd_1_5) rfl rfl rfl qX6_blockAt ⟨Nat.le_of_ble_eq_true rfl, Nat.le_of_ble_eq_true rfl⟩) (kg_preVR (ci := 6) (q := (RX6, TX6, 30)) (q0 := 0) hPc hK hN rfl rfl) rfl rfl hl.1 rfl (lv_room (Nat.le_of_ble_eq_true rfl)) dX6_cutsIn_14 ⟨Nat.zero_le _, Nat.zero_le _⟩) ?_
        refine lv_iload_n hx hb dX6_cutsIn_17 rfl (lv_at hl 1 rfl) ?_
        refine kg_icmp_ne (tgt := 35) hx hb hf dX6_cutsIn_18 (by decide) (fun hc hf => ?_) (fun hc hf => ?_)
        · refine lv_iinc (v := (v3 + 1)) (lv' := [(3, .int (v3 + 1)), (0, .ref (A 0)), (1, .int v1), (2, .int v2)]) hx hb dX6_cutsIn_35 hl (k := 3) rfl rfl (by decide) rfl (fun ls hl => ?_)
          refine lv_goto (tgt := 4) hx hb dX6_cutsIn_38 (by decide) ?_
          obtain rfl := Option.some.inj hf
          exact ih1 v2 (v3 + 1) hk1 _ (lv_sub hl [1, 2, 3, 0] rfl)
        · refine lv_aload_n hx hb dX6_cutsIn_21 rfl (lv_at hl 0 rfl) ?_
          refine lv_iload_n hx hb dX6_cutsIn_22 rfl (lv_at hl 3 rfl) ?_
          refine lv_iconst (v := 1) hx hb dX6_cutsIn_23 (by decide) ?_
          obtain ⟨g24, hc, hf⟩ := ob_bind hf
          have hPc : va_P (dC, dI) vwCl (wMd cI cJ A x) s.heap := hP
          refine kg_retRi (va_runV (As := [.int v3, .int 1]) (rest := []) ⟨hx, hb, hml, hown, hts⟩ (c_X6_partsAt l dC dI cI cJ A s.heap x v3 1 _ hc) (cwV 2 hts (gw_V wd_23_3 wd_23_0 wd_23_1 wd_23_2 wd_1_5) rfl rfl rfl qX6_partsAt ⟨Nat.le_of_ble_eq_true rfl, Nat.le_of_ble_eq_true rfl⟩) (kg_preVR (ci := 6) (q := (RX6, TX6, 30)) (q0 := 0) hPc hK hN rfl rfl) rfl rfl hl.1 rfl (lv_room (Nat.le_of_ble_eq_true rfl)) dX6_cutsIn_24 ⟨Nat.zero_le _, Nat.zero_le _⟩) ?_
          refine lv_iconst (v := 1) hx hb dX6_cutsIn_27 (by decide) ?_
          refine kg_icmp_le (tgt := 35) hx hb hf dX6_cutsIn_28 (by decide) (fun hc hf => ?_) (fun hc hf => ?_)
          · refine lv_iinc (v := (v3 + 1)) (lv' := [(3, .int (v3 + 1)), (0, .ref (A 0)), (1, .int v1), (2, .int v2)]) hx hb dX6_cutsIn_35 hl (k := 3) rfl rfl (by decide) rfl (fun ls hl => ?_)
            refine lv_goto (tgt := 4) hx hb dX6_cutsIn_38 (by decide) ?_
            obtain rfl := Option.some.inj hf
            exact ih1 v2 (v3 + 1) hk1 _ (lv_sub hl [1, 2, 3, 0] rfl)
          · refine lv_iload_n hx hb dX6_cutsIn_31 rfl (lv_at hl 2 rfl) ?_
            refine lv_iconst (v := 1) hx hb dX6_cutsIn_32 (by decide) ?_
            refine lv_iadd hx hb dX6_cutsIn_33 ?_
            refine lv_istore_n (lv' := [(2, .int (v2 + 1)), (0, .ref (A 0)), (1, .int v1), (3, .int v3)]) hx hb dX6_cutsIn_34 rfl hl (by decide) rfl (fun ls hl => ?_)
            refine lv_iinc (v := (v3 + 1)) (lv' := [(3, .int (v3 + 1)), (2, .int (v2 + 1)), (0, .ref (A 0)), (1, .int v1)]) hx hb dX6_cutsIn_35 hl (k := 3) rfl rfl (by decide) rfl (fun ls hl => ?_)
            refine lv_goto (tgt := 4) hx hb dX6_cutsIn_38 (by decide) ?_
            obtain rfl := Option.some.inj hf
            exact ih1 (v2 + 1) (v3 + 1) hk1 _ (lv_sub hl [2, 3, 1, 0] rfl)
  exact hlp4  FU 0 0 hf _ (lv_sub hl [2, 3, 1, 0] rfl)
set_option maxHeartbeats 4000000 in
set_option maxRecDepth 100000 in
theorem c_X6_partsIn (l : Launch) (dC : Nat → ClassId) (dI : Nat → Nat → Nat) (cI cJ : ClassId) (A : Nat → Nat) (hq : Heap) (x : MdS) (v1 : Int32) (v2 : Int32) (r0 : Int32) (hf : Md_m_partsIn x v1 v2 = some r0) : MRi l yX6_partsIn (wAll yX6_partsIn cX6_partsIn 5 (some .int)) ({ frames := 1, cells := 0, slots := 0, locals := 40 } : Room) [.ref (A 0), .int v1, .int v2] hq (dC, dI) (vTy cI cJ) (wMd cI cJ A x) r0 := by
  refine kg_metR (cc := cX6_partsIn) (maxL := 5) (ret := (some .int)) (by decide) rfl (Nat.le_of_ble_eq_true rfl) ?_
  intro p e s m args below meth c hx hb hr hts hown hlk hml hH hP hK hN ls hl
  subst hH
  have hl : lv_has ls 5 [(0, .ref (A 0)), (1, .int v1), (2, .int v2)] := hl
  have ww0 := hts (.fieldLink RX6 78 "SafeBlocksModel" "m" "I") (List.mem_cons_of_mem _ wd_9_6)
  have ww1 := hts (.fieldLink RX6 44 "SafeBlocksModel" "partOf" "[I") (List.mem_cons_of_mem _ wd_8_10)
  have ww2 := hts (.fieldLink RX6 23 "SafeBlocksModel" "nameOf" "[I") (List.mem_cons_of_mem _ wd_8_3)
  have ww3 := hts (.fieldLink RX6 13 "SafeBlocksModel" "first" "[I") (List.mem_cons_of_mem _ wd_8_0)
  have ww4 := hts (.fieldLink RX6 17 "SafeBlocksModel" "second" "[I") (List.mem_cons_of_mem _ wd_8_1)
  have hiX6 : ∀ w ∈ u_ws RX6 TX6 30, w ∈ wAll yX6_partsIn cX6_partsIn 5 (some .int) := fun w h => List.mem_cons_of_mem _ (inlX6 w h)
  unfold Md_m_partsIn at hf
  refine lv_iconst (v := 0) hx hb dX6_partsIn_0 (by decide) ?_
  refine lv_istore_n (lv' := [(3, .int 0), (0, .ref (A 0)), (1, .int v1), (2, .int v2)]) hx hb dX6_partsIn_1 rfl hl (by decide) rfl (fun ls hl => ?_)
  refine lv_iconst (v := 0) hx hb dX6_partsIn_2 (by decide) ?_
  refine lv_istore (lv' := [(4, .int 0), (3, .int 0), (0, .ref (A 0)), (1, .int v1), (2, .int v2)]) hx hb dX6_partsIn_3 hl (by decide) rfl (fun ls hl => ?_)
  have hlp5 : ∀ (n : Nat) (v3 : Int32) (v4 : Int32), iter (fun p : Int32 × Int32 => Md_m_partsIn_s5 x v1 v2 p.1 p.2) n (v3, v4) = some r0 → ∀ (ls : Array Slot), lv_has ls 5 [(0, .ref (A 0)), (1, .int v1), (2, .int v2), (3, .int v3), (4, .int v4)] → W p l e ({ frames := 1, cells := 0, slots := 0, locals := 40 } : Room) s m args below meth c s.heap [] 0 0 (MQ below (QRi s.heap r0) args s 0 0 NoA) (F0 m 5 ls []) := by
    intro  n
    induction n with
    | zero => intro v3 v4 hf; exact iter_zero hf
    | succ n ih1 =>
      intro v3 v4 hf ls hl
      obtain ⟨q1, hf, hk1⟩ := iter_succ hf
      have hf : Md_m_partsIn_s5 x v1 v2 v3 v4 = some q1 := hf
      unfold Md_m_partsIn_s5 at hf
      refine lv_iload hx hb dX6_partsIn_5 (lv_at hl 4 rfl) ?_
      refine lv_aload_n hx hb dX6_partsIn_7 rfl (lv_at hl 0 rfl) ?_
      refine va_get (D := (dC, dI)) (ci := 6) (v := .int (Md_m x)) (C := RX6) (T := TX6) (N := 30) hx hb hts hiX6 hown hK hP 0 rfl rfl 2 (by decide) ww0 (fun _ h9 => h9) rfl dX6_partsIn_8 ?_
      refine kg_icmp_ge (tgt := 78) hx hb hf dX6_partsIn_11 (by decide) (fun hc hf => ?_) (fun hc hf => ?_)
      · obtain ⟨qq, hf, hqq⟩ := omap_some hf
        have hkq : qq = r0 := by rw [← hqq] at hk1; exact hk1
        rw [hkq] at hf
        clear hkq hqq
        refine lv_iload_n hx hb dX6_partsIn_78 rfl (lv_at hl 3 rfl) ?_
        obtain rfl := Option.some.inj hf
        exact kg_iretR hx hb hr hlk rfl dX6_partsIn_79
      · refine lv_aload_n hx hb dX6_partsIn_14 rfl (lv_at hl 0 rfl) ?_
        refine va_get (D := (dC, dI)) (ci := 6) (v := .ref (A 10)) (C := RX6) (T := TX6) (N := 30) hx hb hts hiX6 hown hK hP 0 rfl rfl 18 (by decide) ww1 (fun _ h9 => h9) rfl dX6_partsIn_15 ?_
        refine lv_iload hx hb dX6_partsIn_18 (lv_at hl 4 rfl) ?_
        obtain ⟨g20, hv, hf⟩ := ob_bind hf
        refine kg_iald hx hb hK hP 10 0 rfl rfl hv dX6_partsIn_20 ?_
        refine lv_iload hx hb dX6_partsIn_21 (lv_at hl 4 rfl) ?_
        refine kg_icmp_ne (tgt := 72) hx hb hf dX6_partsIn_23 (by decide) (fun hc hf => ?_) (fun hc hf => ?_)
        · refine lv_iinc (v := (v4 + 1)) (lv' := [(4, .int (v4 + 1)), (0, .ref (A 0)), (1, .int v1), (2, .int v2), (3, .int v3)]) hx hb dX6_partsIn_72 hl (k := 4) rfl rfl (by decide) rfl (fun ls hl => ?_)
          refine lv_goto (tgt := 5) hx hb dX6_partsIn_75 (by decide) ?_
          obtain rfl := Option.some.inj hf
          exact ih1 v3 (v4 + 1) hk1 _ (lv_sub hl [1, 2, 3, 4, 0] rfl)
        · refine lv_aload_n hx hb dX6_partsIn_26 rfl (lv_at hl 0 rfl) ?_
          refine va_get (D := (dC, dI)) (ci := 6) (v := .ref (A 3)) (C := RX6) (T := TX6) (N := 30) hx hb hts hiX6 hown hK hP 0 rfl rfl 7 (by decide) ww2 (fun _ h9 => h9) rfl dX6_partsIn_27 ?_
          refine lv_bipush (v := 32) hx hb dX6_partsIn_30 (by decide) ?_
          refine lv_iload_n hx hb dX6_partsIn_32 rfl (lv_at hl 1 rfl) ?_
          refine lv_imul hx hb dX6_partsIn_33 ?_
          refine lv_aload_n hx hb dX6_partsIn_34 rfl (lv_at hl 0 rfl) ?_
          refine va_get (D := (dC, dI)) (ci := 6) (v := .ref (A 1)) (C := RX6) (T := TX6) (N := 30) hx hb hts hiX6 hown hK hP 0 rfl rfl 4 (by decide) ww3 (fun _ h9 => h9) rfl dX6_partsIn_35 ?_
          refine lv_iload hx hb dX6_partsIn_38 (lv_at hl 4 rfl) ?_
          obtain ⟨g40, hv, hf⟩ := ob_bind hf
          refine kg_iald hx hb hK hP 1 0 rfl rfl hv dX6_partsIn_40 ?_
          refine lv_iadd hx hb dX6_partsIn_41 ?_
          obtain ⟨g42, hv, hf⟩ := ob_bind hf
          refine kg_iald hx hb hK hP 3 0 rfl rfl hv dX6_partsIn_42 ?_
          refine lv_iload_n hx hb dX6_partsIn_43 rfl (lv_at hl 2 rfl) ?_
          refine kg_icmp_ne (tgt := 72) hx hb hf dX6_partsIn_44 (by decide) (fun hc hf => ?_) (fun hc hf => ?_)
          · refine lv_iinc (v := (v4 + 1)) (lv' := [(4, .int (v4 + 1)), (0, .ref (A 0)), (1, .int v1), (2, .int v2), (3, .int v3)]) hx hb dX6_partsIn_72 hl (k := 4) rfl rfl (by decide) rfl (fun ls hl => ?_)
            refine lv_goto (tgt := 5) hx hb dX6_partsIn_75 (by decide) ?_
            obtain rfl := Option.some.inj hf
            exact ih1 v3 (v4 + 1) hk1 _ (lv_sub hl [1, 2, 3, 4, 0] rfl)
          · refine lv_aload_n hx hb dX6_partsIn_47 rfl (lv_at hl 0 rfl) ?_
            refine va_get (D := (dC, dI)) (ci := 6) (v := .ref (A 3)) (C := RX6) (T := TX6) (N := 30) hx hb hts hiX6 hown hK hP 0 rfl rfl 7 (by decide) ww2 (fun _ h9 => h9) rfl dX6_partsIn_48 ?_
            refine lv_bipush (v := 32) hx hb dX6_partsIn_51 (by decide) ?_
            refine lv_iload_n hx hb dX6_partsIn_53 rfl (lv_at hl 1 rfl) ?_
            refine lv_imul hx hb dX6_partsIn_54 ?_
            refine lv_aload_n hx hb dX6_partsIn_55 rfl (lv_at hl 0 rfl) ?_
            refine va_get (D := (dC, dI)) (ci := 6) (v := .ref (A 2)) (C := RX6) (T := TX6) (N := 30) hx hb hts hiX6 hown hK hP 0 rfl rfl 5 (by decide) ww4 (fun _ h9 => h9) rfl dX6_partsIn_56 ?_
            refine lv_iload hx hb dX6_partsIn_59 (lv_at hl 4 rfl) ?_
            obtain ⟨g61, hv, hf⟩ := ob_bind hf
            refine kg_iald hx hb hK hP 2 0 rfl rfl hv dX6_partsIn_61 ?_
            refine lv_iadd hx hb dX6_partsIn_62 ?_
            obtain ⟨g63, hv, hf⟩ := ob_bind hf
            refine kg_iald hx hb hK hP 3 0 rfl rfl hv dX6_partsIn_63 ?_
            refine lv_iload_n hx hb dX6_partsIn_64 rfl (lv_at hl 2 rfl) ?_
            refine kg_icmp_ne (tgt := 72) hx hb hf dX6_partsIn_65 (by decide) (fun hc hf => ?_) (fun hc hf => ?_)
            · refine lv_iinc (v := (v4 + 1)) (lv' := [(4, .int (v4 + 1)), (0, .ref (A 0)), (1, .int v1), (2, .int v2), (3, .int v3)]) hx hb dX6_partsIn_72 hl (k := 4) rfl rfl (by decide) rfl (fun ls hl => ?_)
              refine lv_goto (tgt := 5) hx hb dX6_partsIn_75 (by decide) ?_
              obtain rfl := Option.some.inj hf
              exact ih1 v3 (v4 + 1) hk1 _ (lv_sub hl [1, 2, 3, 4, 0] rfl)
            · refine lv_iload_n hx hb dX6_partsIn_68 rfl (lv_at hl 3 rfl) ?_
              refine lv_iconst (v := 1) hx hb dX6_partsIn_69 (by decide) ?_
              refine lv_iadd hx hb dX6_partsIn_70 ?_
              refine lv_istore_n (lv' := [(3, .int (v3 + 1)), (0, .ref (A 0)), (1, .int v1), (2, .int v2), (4, .int v4)]) hx hb dX6_partsIn_71 rfl hl (by decide) rfl (fun ls hl => ?_)
              refine lv_iinc (v := (v4 + 1)) (lv' := [(4, .int (v4 + 1)), (3, .int (v3 + 1)), (0, .ref (A 0)), (1, .int v1), (2, .int v2)]) hx hb dX6_partsIn_72 hl (k := 4) rfl rfl (by decide) rfl (fun ls hl => ?_)
              refine lv_goto (tgt := 5) hx hb dX6_partsIn_75 (by decide) ?_
              obtain rfl := Option.some.inj hf
              exact ih1 (v3 + 1) (v4 + 1) hk1 _ (lv_sub hl [2, 3, 4, 1, 0] rfl)
  exact hlp5  FU 0 0 hf _ (lv_sub hl [2, 3, 4, 1, 0] rfl)
set_option maxHeartbeats 4000000 in
set_option maxRecDepth 100000 in
theorem c_X6_below (l : Launch) (dC : Nat → ClassId) (dI : Nat → Nat → Nat) (cI cJ : ClassId) (A : Nat → Nat) (hq : Heap) (x : MdS) (v1 : Int32) (r0 : Int32) (hf : Md_m_below x v1 = some r0) : MRi l yX6_below (wAll yX6_below cX6_below 5 (some .int)) ({ frames := 4, cells := 0, slots := 0, locals := 108 } : Room) [.ref (A 0), .int v1] hq (dC, dI) (vTy cI cJ) (wMd cI cJ A x) r0 := by
  refine kg_metR (cc := cX6_below) (maxL := 5) (ret := (some .int)) (by decide) rfl (Nat.le_of_ble_eq_true rfl) ?_
  intro p e s m args below meth c hx hb hr hts hown hlk hml hH hP hK hN ls hl
  subst hH
  have hl : lv_has ls 5 [(0, .ref (A 0)), (1, .int v1)] := hl
  have ww0 := hts (.fieldLink RX6 7 "SafeBlocksModel" "n" "I") (List.mem_cons_of_mem _ wd_7_23)
  have ww1 := hts (.fieldLink RX6 26 "SafeBlocksModel" "parent" "[I") (List.mem_cons_of_mem _ wd_8_4)
  have hiX6 : ∀ w ∈ u_ws RX6 TX6 30, w ∈ wAll yX6_below cX6_below 5 (some .int) := fun w h => List.mem_cons_of_mem _ (inlX6 w h)
  unfold Md_m_below at hf
  refine lv_iconst (v := 0) hx hb dX6_below_0 (by decide) ?_
  refine lv_istore_n (lv' := [(2, .int 0), (0, .ref (A 0)), (1, .int v1)]) hx hb dX6_below_1 rfl hl (by decide) rfl (fun ls hl => ?_)
  refine lv_iconst (v := 0) hx hb dX6_below_2 (by decide) ?_
  refine lv_istore_n (lv' := [(3, .int 0), (2, .int 0), (0, .ref (A 0)), (1, .int v1)]) hx hb dX6_below_3 rfl hl (by decide) rfl (fun ls hl => ?_)
  have hlp4 : ∀ (n : Nat) (v2 : Int32) (v3 : Int32), iter (fun p : Int32 × Int32 => Md_m_below_s4 x v1 p.1 p.2) n (v2, v3) = some r0 → ∀ (ls : Array Slot), lv_has ls 5 [(0, .ref (A 0)), (1, .int v1), (2, .int v2), (3, .int v3)] → W p l e ({ frames := 4, cells := 0, slots := 0, locals := 108 } : Room) s m args below meth c s.heap [] 0 0 (MQ below (QRi s.heap r0) args s 0 0 NoA) (F0 m 4 ls []) := by
    intro  n
    induction n with
    | zero => intro v2 v3 hf; exact iter_zero hf
    | succ n ih1 =>
      intro v2 v3 hf ls hl
      obtain ⟨q1, hf, hk1⟩ := iter_succ hf
      have hf : Md_m_below_s4 x v1 v2 v3 = some q1 := hf
      unfold Md_m_below_s4 at hf
      have hj50 : ∀ (v2 : Int32) (v3 : Int32) (v4 : Int32), Md_m_below_j50 x v1 v2 v3 v4 = some q1 → ∀ (ls : Array Slot), lv_has ls 5 [(0, .ref (A 0)), (1, .int v1), (2, .int v2), (3, .int v3), (4, .int v4)] → W p l e ({ frames := 4, cells := 0, slots := 0, locals := 108 } : Room) s m args below meth c s.heap [] 0 0 (MQ below (QRi s.heap r0) args s 0 0 NoA) (F0 m 50 ls []) := by
        intro v2 v3 v4 hf ls hl
        unfold Md_m_below_j50 at hf
        refine lv_iload hx hb dX6_below_50 (lv_at hl 4 rfl) ?_
        refine lv_iload_n hx hb dX6_below_52 rfl (lv_at hl 1 rfl) ?_
        refine kg_icmp_ne (tgt := 65) hx hb hf dX6_below_53 (by decide) (fun hc hf => ?_) (fun hc hf => ?_)
        · refine lv_iinc (v := (v3 + 1)) (lv' := [(3, .int (v3 + 1)), (0, .ref (A 0)), (1, .int v1), (2, .int v2), (4, .int v4)]) hx hb dX6_below_65 hl (k := 3) rfl rfl (by decide) rfl (fun ls hl => ?_)
          refine lv_goto (tgt := 4) hx hb dX6_below_68 (by decide) ?_
          obtain rfl := Option.some.inj hf
          exact ih1 v2 (v3 + 1) hk1 _ (lv_sub hl [1, 2, 3, 0] rfl)
        · refine lv_iload_n hx hb dX6_below_56 rfl (lv_at hl 2 rfl) ?_
          refine lv_aload_n hx hb dX6_below_57 rfl (lv_at hl 0 rfl) ?_
          refine lv_iconst (v := 0) hx hb dX6_below_58 (by decide) ?_
          refine lv_iload_n hx hb dX6_below_59 rfl (lv_at hl 3 rfl) ?_
          obtain ⟨g60, hc, hf⟩ := ob_bind hf
          have hPc : va_P (dC, dI) vwCl (wMd cI cJ A x) s.heap := hP
          refine kg_retRi (va_runV (As := [.int 0, .int v3]) (rest := [.int v2]) ⟨hx, hb, hml, hown, hts⟩ (c_X6_sizeOf l dC dI cI cJ A s.heap x 0 v3 _ hc) (cwV 2 hts (gw_V wd_13_21 wd_13_18 wd_13_19 wd_13_20 wd_1_5) rfl rfl rfl qX6_sizeOf ⟨Nat.le_of_ble_eq_true rfl, Nat.le_of_ble_eq_true rfl⟩) (kg_preVR (ci := 6) (q := (RX6, TX6, 30)) (q0 := 0) hPc hK hN rfl rfl) rfl rfl hl.1 rfl (lv_room (Nat.le_of_ble_eq_true rfl)) dX6_below_60 ⟨Nat.zero_le _, Nat.zero_le _⟩) ?_
          refine lv_iadd hx hb dX6_below_63 ?_
          refine lv_istore_n (lv' := [(2, .int (v2 + g60)), (0, .ref (A 0)), (1, .int v1), (3, .int v3), (4, .int v4)]) hx hb dX6_below_64 rfl hl (by decide) rfl (fun ls hl => ?_)
          refine lv_iinc (v := (v3 + 1)) (lv' := [(3, .int (v3 + 1)), (2, .int (v2 + g60)), (0, .ref (A 0)), (1, .int v1), (4, .int v4)]) hx hb dX6_below_65 hl (k := 3) rfl rfl (by decide) rfl (fun ls hl => ?_)
          refine lv_goto (tgt := 4) hx hb dX6_below_68 (by decide) ?_
          obtain rfl := Option.some.inj hf
          exact ih1 (v2 + g60) (v3 + 1) hk1 _ (lv_sub hl [2, 3, 1, 0] rfl)
      refine lv_iload_n hx hb dX6_below_4 rfl (lv_at hl 3 rfl) ?_
      refine lv_aload_n hx hb dX6_below_5 rfl (lv_at hl 0 rfl) ?_
      refine va_get (D := (dC, dI)) (ci := 6) (v := .int (Md_n x)) (C := RX6) (T := TX6) (N := 30) hx hb hts hiX6 hown hK hP 0 rfl rfl 1 (by decide) ww0 (fun _ h9 => h9) rfl dX6_below_6 ?_
      refine kg_icmp_ge (tgt := 71) hx hb hf dX6_below_9 (by decide) (fun hc hf => ?_) (fun hc hf => ?_)
      · obtain ⟨qq, hf, hqq⟩ := omap_some hf
        have hkq : qq = r0 := by rw [← hqq] at hk1; exact hk1
        rw [hkq] at hf
        clear hkq hqq
        refine lv_iload_n hx hb dX6_below_71 rfl (lv_at hl 2 rfl) ?_
        obtain rfl := Option.some.inj hf
        exact kg_iretR hx hb hr hlk rfl dX6_below_72
      · refine lv_aload_n hx hb dX6_below_12 rfl (lv_at hl 0 rfl) ?_
        refine lv_iload_n hx hb dX6_below_13 rfl (lv_at hl 3 rfl) ?_
        obtain ⟨g14, hc, hf⟩ := ob_bind hf
        have hPc : va_P (dC, dI) vwCl (wMd cI cJ A x) s.heap := hP
        refine kg_retRi (va_runV (As := [.int v3]) (rest := []) ⟨hx, hb, hml, hown, hts⟩ (c_X6_isBlock l dC dI cI cJ A s.heap x v3 _ hc) (cwV 1 hts (gw_V wd_24_17 wd_24_14 wd_24_15 wd_24_16 wd_1_5) rfl rfl rfl qX6_isBlock ⟨Nat.le_of_ble_eq_true rfl, Nat.le_of_ble_eq_true rfl⟩) (kg_preVR (ci := 6) (q := (RX6, TX6, 30)) (q0 := 0) hPc hK hN rfl rfl) rfl rfl hl.1 rfl (lv_room (Nat.le_of_ble_eq_true rfl)) dX6_below_14 ⟨Nat.zero_le _, Nat.zero_le _⟩) ?_
        refine kg_b_ne (tgt := 23) hx hb hf dX6_below_17 (by decide) (fun hc hf => ?_) (fun hc hf => ?_)
        · refine lv_iload_n hx hb dX6_below_23 rfl (lv_at hl 3 rfl) ?_
          refine lv_istore (lv' := [(4, .int v3), (0, .ref (A 0)), (1, .int v1), (2, .int v2), (3, .int v3)]) hx hb dX6_below_24 hl (by decide) rfl (fun ls hl => ?_)
          have hlp26 : ∀ (v2 : Int32) (v3 : Int32), ∀ (n : Nat) (v4 : Int32), iter (fun p : Int32 => Md_m_below_s26 x v1 v2 v3 p) n (v4) = some q1 → ∀ (ls : Array Slot), lv_has ls 5 [(0, .ref (A 0)), (1, .int v1), (2, .int v2), (3, .int v3), (4, .int v4)] → W p l e ({ frames := 4, cells := 0, slots := 0, locals := 108 } : Room) s m args below meth c s.heap [] 0 0 (MQ below (QRi s.heap r0) args s 0 0 NoA) (F0 m 26 ls []) := by
            intro v2 v3 n
            induction n with
            | zero => intro v4 hf; exact iter_zero hf
            | succ n ih2 =>
              intro v4 hf ls hl
              obtain ⟨q2, hf, hk2⟩ := iter_succ hf
              have hf : Md_m_below_s26 x v1 v2 v3 v4 = some q2 := hf
              unfold Md_m_below_s26 at hf
              refine lv_iload hx hb dX6_below_26 (lv_at hl 4 rfl) ?_
              refine lv_iload_n hx hb dX6_below_28 rfl (lv_at hl 1 rfl) ?_
              refine kg_icmp_eq (tgt := 50) hx hb hf dX6_below_29 (by decide) (fun hc hf => ?_) (fun hc hf => ?_)
              · obtain ⟨qq, hf, hqq⟩ := omap_some hf
                have hkq : qq = q1 := by rw [← hqq] at hk2; exact hk2
                rw [hkq] at hf
                clear hkq hqq
                exact hj50 v2 v3 v4 hf _ (lv_sub hl [0, 1, 2, 3, 4] rfl)
              · refine lv_iload hx hb dX6_below_32 (lv_at hl 4 rfl) ?_
                refine lv_iconst (v := (-1)) hx hb dX6_below_34 (by decide) ?_
                refine kg_icmp_eq (tgt := 50) hx hb hf dX6_below_35 (by decide) (fun hc hf => ?_) (fun hc hf => ?_)
                · obtain ⟨qq, hf, hqq⟩ := omap_some hf
                  have hkq : qq = q1 := by rw [← hqq] at hk2; exact hk2
                  rw [hkq] at hf
                  clear hkq hqq
                  exact hj50 v2 v3 v4 hf _ (lv_sub hl [0, 1, 2, 3, 4] rfl)
                · refine lv_aload_n hx hb dX6_below_38 rfl (lv_at hl 0 rfl) ?_
                  refine va_get (D := (dC, dI)) (ci := 6) (v := .ref (A 4)) (C := RX6) (T := TX6) (N := 30) hx hb hts hiX6 hown hK hP 0 rfl rfl 8 (by decide) ww1 (fun _ h9 => h9) rfl dX6_below_39 ?_
                  refine lv_iload hx hb dX6_below_42 (lv_at hl 4 rfl) ?_
                  obtain ⟨g44, hv, hf⟩ := ob_bind hf
                  refine kg_iald hx hb hK hP 4 0 rfl rfl hv dX6_below_44 ?_
                  refine lv_istore (lv' := [(4, .int g44), (0, .ref (A 0)), (1, .int v1), (2, .int v2), (3, .int v3)]) hx hb dX6_below_45 hl (by decide) rfl (fun ls hl => ?_)
                  refine lv_goto (tgt := 26) hx hb dX6_below_47 (by decide) ?_
                  obtain rfl := Option.some.inj hf
                  exact ih2 g44 hk2 _ (lv_sub hl [1, 2, 3, 4, 0] rfl)
          exact hlp26 v2 v3 FU v3 hf _ (lv_sub hl [1, 2, 3, 4, 0] rfl)
        · refine lv_goto (tgt := 65) hx hb dX6_below_20 (by decide) ?_
          refine lv_iinc (v := (v3 + 1)) (lv' := [(3, .int (v3 + 1)), (0, .ref (A 0)), (1, .int v1), (2, .int v2)]) hx hb dX6_below_65 hl (k := 3) rfl rfl (by decide) rfl (fun ls hl => ?_)
          refine lv_goto (tgt := 4) hx hb dX6_below_68 (by decide) ?_
          obtain rfl := Option.some.inj hf
          exact ih1 v2 (v3 + 1) hk1 _ (lv_sub hl [1, 2, 3, 0] rfl)
  exact hlp4  FU 0 0 hf _ (lv_sub hl [2, 3, 1, 0] rfl)
set_option maxHeartbeats 4000000 in
set_option maxRecDepth 100000 in
theorem c_X6_childOf (l : Launch) (dC : Nat → ClassId) (dI : Nat → Nat → Nat) (cI cJ : ClassId) (A : Nat → Nat) (hq : Heap) (x : MdS) (v1 : Int32) (v2 : Int32) (r0 : Int32) (hf : Md_m_childOf x v1 v2 = some r0) : MRi l yX6_childOf (wAll yX6_childOf cX6_childOf 5 (some .int)) ({ frames := 4, cells := 0, slots := 0, locals := 108 } : Room) [.ref (A 0), .int v1, .int v2] hq (dC, dI) (vTy cI cJ) (wMd cI cJ A x) r0 := by
  refine kg_metR (cc := cX6_childOf) (maxL := 5) (ret := (some .int)) (by decide) rfl (Nat.le_of_ble_eq_true rfl) ?_
  intro p e s m args below meth c hx hb hr hts hown hlk hml hH hP hK hN ls hl
  subst hH
  have hl : lv_has ls 5 [(0, .ref (A 0)), (1, .int v1), (2, .int v2)] := hl
  have ww0 := hts (.fieldLink RX6 7 "SafeBlocksModel" "n" "I") (List.mem_cons_of_mem _ wd_7_23)
  have ww1 := hts (.fieldLink RX6 26 "SafeBlocksModel" "parent" "[I") (List.mem_cons_of_mem _ wd_8_4)
  have hiX6 : ∀ w ∈ u_ws RX6 TX6 30, w ∈ wAll yX6_childOf cX6_childOf 5 (some .int) := fun w h => List.mem_cons_of_mem _ (inlX6 w h)
  unfold Md_m_childOf at hf
  refine lv_iload_n hx hb dX6_childOf_0 rfl (lv_at hl 2 rfl) ?_
  refine lv_istore_n (lv' := [(3, .int v2), (0, .ref (A 0)), (1, .int v1), (2, .int v2)]) hx hb dX6_childOf_1 rfl hl (by decide) rfl (fun ls hl => ?_)
  refine lv_iconst (v := 0) hx hb dX6_childOf_2 (by decide) ?_
  refine lv_istore (lv' := [(4, .int 0), (3, .int v2), (0, .ref (A 0)), (1, .int v1), (2, .int v2)]) hx hb dX6_childOf_3 hl (by decide) rfl (fun ls hl => ?_)
  have hlp5 : ∀ (n : Nat) (v3 : Int32) (v4 : Int32), iter (fun p : Int32 × Int32 => Md_m_childOf_s5 x v1 p.1 p.2) n (v3, v4) = some r0 → ∀ (ls : Array Slot), lv_has ls 5 [(0, .ref (A 0)), (1, .int v1), (3, .int v3), (4, .int v4)] → W p l e ({ frames := 4, cells := 0, slots := 0, locals := 108 } : Room) s m args below meth c s.heap [] 0 0 (MQ below (QRi s.heap r0) args s 0 0 NoA) (F0 m 5 ls []) := by
    intro  n
    induction n with
    | zero => intro v3 v4 hf; exact iter_zero hf
    | succ n ih1 =>
      intro v3 v4 hf ls hl
      obtain ⟨q1, hf, hk1⟩ := iter_succ hf
      have hf : Md_m_childOf_s5 x v1 v3 v4 = some q1 := hf
      unfold Md_m_childOf_s5 at hf
      refine lv_iload hx hb dX6_childOf_5 (lv_at hl 3 rfl) ?_
      refine lv_aload_n hx hb dX6_childOf_7 rfl (lv_at hl 0 rfl) ?_
      refine va_get (D := (dC, dI)) (ci := 6) (v := .int (Md_n x)) (C := RX6) (T := TX6) (N := 30) hx hb hts hiX6 hown hK hP 0 rfl rfl 1 (by decide) ww0 (fun _ h9 => h9) rfl dX6_childOf_8 ?_
      refine kg_icmp_ge (tgt := 54) hx hb hf dX6_childOf_11 (by decide) (fun hc hf => ?_) (fun hc hf => ?_)
      · obtain ⟨qq, hf, hqq⟩ := omap_some hf
        have hkq : qq = r0 := by rw [← hqq] at hk1; exact hk1
        rw [hkq] at hf
        clear hkq hqq
        refine lv_iconst (v := (-1)) hx hb dX6_childOf_54 (by decide) ?_
        obtain rfl := Option.some.inj hf
        exact kg_iretR hx hb hr hlk rfl dX6_childOf_55
      · refine lv_aload_n hx hb dX6_childOf_14 rfl (lv_at hl 0 rfl) ?_
        refine lv_iload hx hb dX6_childOf_15 (lv_at hl 3 rfl) ?_
        obtain ⟨g17, hc, hf⟩ := ob_bind hf
        have hPc : va_P (dC, dI) vwCl (wMd cI cJ A x) s.heap := hP
        refine kg_retRi (va_runV (As := [.int v4]) (rest := []) ⟨hx, hb, hml, hown, hts⟩ (c_X6_isBlock l dC dI cI cJ A s.heap x v4 _ hc) (cwV 1 hts (gw_V wd_24_17 wd_24_14 wd_24_15 wd_24_16 wd_1_5) rfl rfl rfl qX6_isBlock ⟨Nat.le_of_ble_eq_true rfl, Nat.le_of_ble_eq_true rfl⟩) (kg_preVR (ci := 6) (q := (RX6, TX6, 30)) (q0 := 0) hPc hK hN rfl rfl) rfl rfl hl.1 rfl (lv_room (Nat.le_of_ble_eq_true rfl)) dX6_childOf_17 ⟨Nat.zero_le _, Nat.zero_le _⟩) ?_
        refine kg_b_eq (tgt := 48) hx hb hf dX6_childOf_20 (by decide) (fun hc hf => ?_) (fun hc hf => ?_)
        · refine lv_iinc (v := (v4 + 1)) (lv' := [(4, .int (v4 + 1)), (0, .ref (A 0)), (1, .int v1), (3, .int v3)]) hx hb dX6_childOf_48 hl (k := 3) rfl rfl (by decide) rfl (fun ls hl => ?_)
          refine lv_goto (tgt := 5) hx hb dX6_childOf_51 (by decide) ?_
          obtain rfl := Option.some.inj hf
          exact ih1 v3 (v4 + 1) hk1 _ (lv_sub hl [1, 2, 3, 0] rfl)
        · refine lv_aload_n hx hb dX6_childOf_23 rfl (lv_at hl 0 rfl) ?_
          refine va_get (D := (dC, dI)) (ci := 6) (v := .ref (A 4)) (C := RX6) (T := TX6) (N := 30) hx hb hts hiX6 hown hK hP 0 rfl rfl 8 (by decide) ww1 (fun _ h9 => h9) rfl dX6_childOf_24 ?_
          refine lv_iload hx hb dX6_childOf_27 (lv_at hl 3 rfl) ?_
          obtain ⟨g29, hv, hf⟩ := ob_bind hf
          refine kg_iald hx hb hK hP 4 0 rfl rfl hv dX6_childOf_29 ?_
          refine lv_iload_n hx hb dX6_childOf_30 rfl (lv_at hl 1 rfl) ?_
          refine kg_icmp_eq (tgt := 37) hx hb hf dX6_childOf_31 (by decide) (fun hc hf => ?_) (fun hc hf => ?_)
          · refine lv_iload_n hx hb dX6_childOf_37 rfl (lv_at hl 2 rfl) ?_
            refine kg_if_ne (tgt := 44) hx hb hf dX6_childOf_38 (by decide) (fun hc hf => ?_) (fun hc hf => ?_)
            · refine lv_iload_n hx hb dX6_childOf_44 rfl (lv_at hl 2 rfl) ?_
              refine lv_iconst (v := 1) hx hb dX6_childOf_45 (by decide) ?_
              refine lv_isub hx hb dX6_childOf_46 ?_
              refine lv_istore_n (lv' := [(3, .int (v3 - 1)), (0, .ref (A 0)), (1, .int v1), (4, .int v4)]) hx hb dX6_childOf_47 rfl hl (by decide) rfl (fun ls hl => ?_)
              refine lv_iinc (v := (v4 + 1)) (lv' := [(4, .int (v4 + 1)), (3, .int (v3 - 1)), (0, .ref (A 0)), (1, .int v1)]) hx hb dX6_childOf_48 hl (k := 3) rfl rfl (by decide) rfl (fun ls hl => ?_)
              refine lv_goto (tgt := 5) hx hb dX6_childOf_51 (by decide) ?_
              obtain rfl := Option.some.inj hf
              exact ih1 (v3 - 1) (v4 + 1) hk1 _ (lv_sub hl [2, 3, 1, 0] rfl)
            · obtain ⟨qq, hf, hqq⟩ := omap_some hf
              have hkq : qq = r0 := by rw [← hqq] at hk1; exact hk1
              rw [hkq] at hf
              clear hkq hqq
              refine lv_iload hx hb dX6_childOf_41 (lv_at hl 3 rfl) ?_
              obtain rfl := Option.some.inj hf
              exact kg_iretR hx hb hr hlk rfl dX6_childOf_43
          · refine lv_goto (tgt := 48) hx hb dX6_childOf_34 (by decide) ?_
            refine lv_iinc (v := (v4 + 1)) (lv' := [(4, .int (v4 + 1)), (0, .ref (A 0)), (1, .int v1), (3, .int v3)]) hx hb dX6_childOf_48 hl (k := 3) rfl rfl (by decide) rfl (fun ls hl => ?_)
            refine lv_goto (tgt := 5) hx hb dX6_childOf_51 (by decide) ?_
            obtain rfl := Option.some.inj hf
            exact ih1 v3 (v4 + 1) hk1 _ (lv_sub hl [1, 2, 3, 0] rfl)
  exact hlp5  FU v2 0 hf _ (lv_sub hl [2, 3, 1, 0] rfl)
set_option maxHeartbeats 4000000 in
set_option maxRecDepth 100000 in
theorem c_X6_isLand (l : Launch) (dC : Nat → ClassId) (dI : Nat → Nat → Nat) (cI cJ : ClassId) (A : Nat → Nat) (hq : Heap) (x : MdS) (v1 : Int32) (r0 : Bool) (hf : Md_m_isLand x v1 = some r0) : MRi l yX6_isLand (wAll yX6_isLand cX6_isLand 2 (some .boolean)) ({ frames := 3, cells := 0, slots := 0, locals := 87 } : Room) [.ref (A 0), .int v1] hq (dC, dI) (vTy cI cJ) (wMd cI cJ A x) (b2i r0) := by
  refine kg_metR (cc := cX6_isLand) (maxL := 2) (ret := (some .boolean)) (by decide) rfl (Nat.le_of_ble_eq_true rfl) ?_
  intro p e s m args below meth c hx hb hr hts hown hlk hml hH hP hK hN ls hl
  subst hH
  have hl : lv_has ls 2 [(0, .ref (A 0)), (1, .int v1)] := hl
  have ww0 := hts (.fieldLink RX6 32 "SafeBlocksModel" "endedBy" "[I") (List.mem_cons_of_mem _ wd_8_6)
  have hiX6 : ∀ w ∈ u_ws RX6 TX6 30, w ∈ wAll yX6_isLand cX6_isLand 2 (some .boolean) := fun w h => List.mem_cons_of_mem _ (inlX6 w h)
  unfold Md_m_isLand at hf
  refine lv_aload_n hx hb dX6_isLand_0 rfl (lv_at hl 0 rfl) ?_
  refine lv_iload_n hx hb dX6_isLand_1 rfl (lv_at hl 1 rfl) ?_
  obtain ⟨g2, hc, hf⟩ := ob_bind hf
  have hPc : va_P (dC, dI) vwCl (wMd cI cJ A x) s.heap := hP
  refine kg_retRi (va_runV (As := [.int v1]) (rest := []) ⟨hx, hb, hml, hown, hts⟩ (c_X6_isNode l dC dI cI cJ A s.heap x v1 _ hc) (cwV 1 hts (gw_V wd_12_13 wd_12_10 wd_12_11 wd_12_12 wd_1_5) rfl rfl rfl qX6_isNode ⟨Nat.le_of_ble_eq_true rfl, Nat.le_of_ble_eq_true rfl⟩) (kg_preVR (ci := 6) (q := (RX6, TX6, 30)) (q0 := 0) hPc hK hN rfl rfl) rfl rfl hl.1 rfl (lv_room (Nat.le_of_ble_eq_true rfl)) dX6_isLand_2 ⟨Nat.zero_le _, Nat.zero_le _⟩) ?_
  refine kg_b_eq (tgt := 25) hx hb hf dX6_isLand_5 (by decide) (fun hc hf => ?_) (fun hc hf => ?_)
  · refine lv_iconst (v := 0) hx hb dX6_isLand_25 (by decide) ?_
    obtain rfl := Option.some.inj hf
    exact kg_zretR (b := false) hx hb hr hlk rfl rfl dX6_isLand_26
  · refine lv_aload_n hx hb dX6_isLand_8 rfl (lv_at hl 0 rfl) ?_
    refine va_get (D := (dC, dI)) (ci := 6) (v := .ref (A 6)) (C := RX6) (T := TX6) (N := 30) hx hb hts hiX6 hown hK hP 0 rfl rfl 10 (by decide) ww0 (fun _ h9 => h9) rfl dX6_isLand_9 ?_
    refine lv_bipush (v := 32) hx hb dX6_isLand_12 (by decide) ?_
    refine lv_iload_n hx hb dX6_isLand_14 rfl (lv_at hl 1 rfl) ?_
    refine lv_iadd hx hb dX6_isLand_15 ?_
    obtain ⟨g16, hv, hf⟩ := ob_bind hf
    refine kg_iald hx hb hK hP 6 0 rfl rfl hv dX6_isLand_16 ?_
    refine lv_iconst (v := (-1)) hx hb dX6_isLand_17 (by decide) ?_
    refine kg_icmp_ne (tgt := 25) hx hb hf dX6_isLand_18 (by decide) (fun hc hf => ?_) (fun hc hf => ?_)
    · refine lv_iconst (v := 0) hx hb dX6_isLand_25 (by decide) ?_
      obtain rfl := Option.some.inj hf
      exact kg_zretR (b := false) hx hb hr hlk rfl rfl dX6_isLand_26
    · refine lv_iconst (v := 1) hx hb dX6_isLand_21 (by decide) ?_
      refine lv_goto (tgt := 26) hx hb dX6_isLand_22 (by decide) ?_
      obtain rfl := Option.some.inj hf
      exact kg_zretR (b := true) hx hb hr hlk rfl rfl dX6_isLand_26
set_option maxHeartbeats 4000000 in
set_option maxRecDepth 100000 in
theorem c_X6_isBlockOf (l : Launch) (dC : Nat → ClassId) (dI : Nat → Nat → Nat) (cI cJ : ClassId) (A : Nat → Nat) (hq : Heap) (x : MdS) (v1 : Int32) (v2 : Int32) (r0 : Bool) (hf : Md_m_isBlockOf x v1 v2 = some r0) : MRi l yX6_isBlockOf (wAll yX6_isBlockOf cX6_isBlockOf 3 (some .boolean)) ({ frames := 4, cells := 0, slots := 0, locals := 108 } : Room) [.ref (A 0), .int v1, .int v2] hq (dC, dI) (vTy cI cJ) (wMd cI cJ A x) (b2i r0) := by
  refine kg_metR (cc := cX6_isBlockOf) (maxL := 3) (ret := (some .boolean)) (by decide) rfl (Nat.le_of_ble_eq_true rfl) ?_
  intro p e s m args below meth c hx hb hr hts hown hlk hml hH hP hK hN ls hl
  subst hH
  have hl : lv_has ls 3 [(0, .ref (A 0)), (1, .int v1), (2, .int v2)] := hl
  unfold Md_m_isBlockOf at hf
  refine lv_aload_n hx hb dX6_isBlockOf_0 rfl (lv_at hl 0 rfl) ?_
  refine lv_iload_n hx hb dX6_isBlockOf_1 rfl (lv_at hl 1 rfl) ?_
  obtain ⟨g2, hc, hf⟩ := ob_bind hf
  have hPc : va_P (dC, dI) vwCl (wMd cI cJ A x) s.heap := hP
  refine kg_retRi (va_runV (As := [.int v1]) (rest := []) ⟨hx, hb, hml, hown, hts⟩ (c_X6_isBlock l dC dI cI cJ A s.heap x v1 _ hc) (cwV 1 hts (gw_V wd_24_17 wd_24_14 wd_24_15 wd_24_16 wd_1_5) rfl rfl rfl qX6_isBlock ⟨Nat.le_of_ble_eq_true rfl, Nat.le_of_ble_eq_true rfl⟩) (kg_preVR (ci := 6) (q := (RX6, TX6, 30)) (q0 := 0) hPc hK hN rfl rfl) rfl rfl hl.1 rfl (lv_room (Nat.le_of_ble_eq_true rfl)) dX6_isBlockOf_2 ⟨Nat.zero_le _, Nat.zero_le _⟩) ?_
  refine kg_b_eq (tgt := 21) hx hb hf dX6_isBlockOf_5 (by decide) (fun hc hf => ?_) (fun hc hf => ?_)
  · refine lv_iconst (v := 0) hx hb dX6_isBlockOf_21 (by decide) ?_
    obtain rfl := Option.some.inj hf
    exact kg_zretR (b := false) hx hb hr hlk rfl rfl dX6_isBlockOf_22
  · refine lv_aload_n hx hb dX6_isBlockOf_8 rfl (lv_at hl 0 rfl) ?_
    refine lv_iload_n hx hb dX6_isBlockOf_9 rfl (lv_at hl 1 rfl) ?_
    obtain ⟨g10, hc, hf⟩ := ob_bind hf
    have hPc : va_P (dC, dI) vwCl (wMd cI cJ A x) s.heap := hP
    refine kg_retRi (va_runV (As := [.int v1]) (rest := []) ⟨hx, hb, hml, hown, hts⟩ (c_X6_landOf l dC dI cI cJ A s.heap x v1 _ hc) (cwV 1 hts (gw_V wd_13_17 wd_13_14 wd_13_15 wd_13_16 wd_1_5) rfl rfl rfl qX6_landOf ⟨Nat.le_of_ble_eq_true rfl, Nat.le_of_ble_eq_true rfl⟩) (kg_preVR (ci := 6) (q := (RX6, TX6, 30)) (q0 := 0) hPc hK hN rfl rfl) rfl rfl hl.1 rfl (lv_room (Nat.le_of_ble_eq_true rfl)) dX6_isBlockOf_10 ⟨Nat.zero_le _, Nat.zero_le _⟩) ?_
    refine lv_iload_n hx hb dX6_isBlockOf_13 rfl (lv_at hl 2 rfl) ?_
    refine kg_icmp_ne (tgt := 21) hx hb hf dX6_isBlockOf_14 (by decide) (fun hc hf => ?_) (fun hc hf => ?_)
    · refine lv_iconst (v := 0) hx hb dX6_isBlockOf_21 (by decide) ?_
      obtain rfl := Option.some.inj hf
      exact kg_zretR (b := false) hx hb hr hlk rfl rfl dX6_isBlockOf_22
    · refine lv_iconst (v := 1) hx hb dX6_isBlockOf_17 (by decide) ?_
      refine lv_goto (tgt := 22) hx hb dX6_isBlockOf_18 (by decide) ?_
      obtain rfl := Option.some.inj hf
      exact kg_zretR (b := true) hx hb hr hlk rfl rfl dX6_isBlockOf_22
set_option maxHeartbeats 4000000 in
set_option maxRecDepth 100000 in
theorem c_X6_blocksOf (l : Launch) (dC : Nat → ClassId) (dI : Nat → Nat → Nat) (cI cJ : ClassId) (A : Nat → Nat) (hq : Heap) (x : MdS) (v1 : Int32) (r0 : Int32) (hf : Md_m_blocksOf x v1 = some r0) : MRi l yX6_blocksOf (wAll yX6_blocksOf cX6_blocksOf 4 (some .int)) ({ frames := 5, cells := 0, slots := 0, locals := 130 } : Room) [.ref (A 0), .int v1] hq (dC, dI) (vTy cI cJ) (wMd cI cJ A x) r0 := by
  refine kg_metR (cc := cX6_blocksOf) (maxL := 4) (ret := (some .int)) (by decide) rfl (Nat.le_of_ble_eq_true rfl) ?_
  intro p e s m args below meth c hx hb hr hts hown hlk hml hH hP hK hN ls hl
  subst hH
  have hl : lv_has ls 4 [(0, .ref (A 0)), (1, .int v1)] := hl
  have ww0 := hts (.fieldLink RX6 7 "SafeBlocksModel" "n" "I") (List.mem_cons_of_mem _ wd_7_23)
  have hiX6 : ∀ w ∈ u_ws RX6 TX6 30, w ∈ wAll yX6_blocksOf cX6_blocksOf 4 (some .int) := fun w h => List.mem_cons_of_mem _ (inlX6 w h)
  unfold Md_m_blocksOf at hf
  refine lv_iconst (v := 0) hx hb dX6_blocksOf_0 (by decide) ?_
  refine lv_istore_n (lv' := [(2, .int 0), (0, .ref (A 0)), (1, .int v1)]) hx hb dX6_blocksOf_1 rfl hl (by decide) rfl (fun ls hl => ?_)
  refine lv_iconst (v := 0) hx hb dX6_blocksOf_2 (by decide) ?_
  refine lv_istore_n (lv' := [(3, .int 0), (2, .int 0), (0, .ref (A 0)), (1, .int v1)]) hx hb dX6_blocksOf_3 rfl hl (by decide) rfl (fun ls hl => ?_)
  have hlp4 : ∀ (n : Nat) (v2 : Int32) (v3 : Int32), iter (fun p : Int32 × Int32 => Md_m_blocksOf_s4 x v1 p.1 p.2) n (v2, v3) = some r0 → ∀ (ls : Array Slot), lv_has ls 4 [(0, .ref (A 0)), (1, .int v1), (2, .int v2), (3, .int v3)] → W p l e ({ frames := 5, cells := 0, slots := 0, locals := 130 } : Room) s m args below meth c s.heap [] 0 0 (MQ below (QRi s.heap r0) args s 0 0 NoA) (F0 m 4 ls []) := by
    intro  n
    induction n with
    | zero => intro v2 v3 hf; exact iter_zero hf
    | succ n ih1 =>
      intro v2 v3 hf ls hl
      obtain ⟨q1, hf, hk1⟩ := iter_succ hf
      have hf : Md_m_blocksOf_s4 x v1 v2 v3 = some q1 := hf
      unfold Md_m_blocksOf_s4 at hf
      refine lv_iload_n hx hb dX6_blocksOf_4 rfl (lv_at hl 3 rfl) ?_
      refine lv_aload_n hx hb dX6_blocksOf_5 rfl (lv_at hl 0 rfl) ?_
      refine va_get (D := (dC, dI)) (ci := 6) (v := .int (Md_n x)) (C := RX6) (T := TX6) (N := 30) hx hb hts hiX6 hown hK hP 0 rfl rfl 1 (by decide) ww0 (fun _ h9 => h9) rfl dX6_blocksOf_6 ?_
      refine kg_icmp_ge (tgt := 31) hx hb hf dX6_blocksOf_9 (by decide) (fun hc hf => ?_) (fun hc hf => ?_)
      · obtain ⟨qq, hf, hqq⟩ := omap_some hf
        have hkq : qq = r0 := by rw [← hqq] at hk1; exact hk1
        rw [hkq] at hf
        clear hkq hqq
        refine lv_iload_n hx hb dX6_blocksOf_31 rfl (lv_at hl 2 rfl) ?_
        obtain rfl := Option.some.inj hf
        exact kg_iretR hx hb hr hlk rfl dX6_blocksOf_32
      · refine lv_aload_n hx hb dX6_blocksOf_12 rfl (lv_at hl 0 rfl) ?_
        refine lv_iload_n hx hb dX6_blocksOf_13 rfl (lv_at hl 3 rfl) ?_
        refine lv_iload_n hx hb dX6_blocksOf_14 rfl (lv_at hl 1 rfl) ?_
        obtain ⟨g15, hc, hf⟩ := ob_bind hf
        have hPc : va_P (dC, dI) vwCl (wMd cI cJ A x) s.heap := hP
        refine kg_retRi (va_runV (As := [.int v3, .int v1]) (rest := []) ⟨hx, hb, hml, hown, hts⟩ (c_X6_isBlockOf l dC dI cI cJ A s.heap x v3 v1 _ hc) (cwV 2 hts (gw_V wd_29_23 wd_29_20 wd_29_21 wd_29_22 wd_1_5) rfl rfl rfl qX6_isBlockOf ⟨Nat.le_of_ble_eq_true rfl, Nat.le_of_ble_eq_true rfl⟩) (kg_preVR (ci := 6) (q := (RX6, TX6, 30)) (q0 := 0) hPc hK hN rfl rfl) rfl rfl hl.1 rfl (lv_room (Nat.le_of_ble_eq_true rfl)) dX6_blocksOf_15 ⟨Nat.zero_le _, Nat.zero_le _⟩) ?_
        refine kg_b_eq (tgt := 25) hx hb hf dX6_blocksOf_18 (by decide) (fun hc hf => ?_) (fun hc hf => ?_)
        · refine lv_iinc (v := (v3 + 1)) (lv' := [(3, .int (v3 + 1)), (0, .ref (A 0)), (1, .int v1), (2, .int v2)]) hx hb dX6_blocksOf_25 hl (k := 3) rfl rfl (by decide) rfl (fun ls hl => ?_)
          refine lv_goto (tgt := 4) hx hb dX6_blocksOf_28 (by decide) ?_
          obtain rfl := Option.some.inj hf
          exact ih1 v2 (v3 + 1) hk1 _ (lv_sub hl [1, 2, 3, 0] rfl)
        · refine lv_iload_n hx hb dX6_blocksOf_21 rfl (lv_at hl 2 rfl) ?_
          refine lv_iconst (v := 1) hx hb dX6_blocksOf_22 (by decide) ?_
          refine lv_iadd hx hb dX6_blocksOf_23 ?_
          refine lv_istore_n (lv' := [(2, .int (v2 + 1)), (0, .ref (A 0)), (1, .int v1), (3, .int v3)]) hx hb dX6_blocksOf_24 rfl hl (by decide) rfl (fun ls hl => ?_)
          refine lv_iinc (v := (v3 + 1)) (lv' := [(3, .int (v3 + 1)), (2, .int (v2 + 1)), (0, .ref (A 0)), (1, .int v1)]) hx hb dX6_blocksOf_25 hl (k := 3) rfl rfl (by decide) rfl (fun ls hl => ?_)
          refine lv_goto (tgt := 4) hx hb dX6_blocksOf_28 (by decide) ?_
          obtain rfl := Option.some.inj hf
          exact ih1 (v2 + 1) (v3 + 1) hk1 _ (lv_sub hl [2, 3, 1, 0] rfl)
  exact hlp4  FU 0 0 hf _ (lv_sub hl [2, 3, 1, 0] rfl)
set_option maxHeartbeats 4000000 in
set_option maxRecDepth 100000 in
theorem c_X6_linksOf (l : Launch) (dC : Nat → ClassId) (dI : Nat → Nat → Nat) (cI cJ : ClassId) (A : Nat → Nat) (hq : Heap) (x : MdS) (v1 : Int32) (v2 : Int32) (r0 : Int32) (hf : Md_m_linksOf x v1 v2 = some r0) : MRi l yX6_linksOf (wAll yX6_linksOf cX6_linksOf 5 (some .int)) ({ frames := 2, cells := 0, slots := 0, locals := 61 } : Room) [.ref (A 0), .int v1, .int v2] hq (dC, dI) (vTy cI cJ) (wMd cI cJ A x) r0 := by
  refine kg_metR (cc := cX6_linksOf) (maxL := 5) (ret := (some .int)) (by decide) rfl (Nat.le_of_ble_eq_true rfl) ?_
  intro p e s m args below meth c hx hb hr hts hown hlk hml hH hP hK hN ls hl
  subst hH
  have hl : lv_has ls 5 [(0, .ref (A 0)), (1, .int v1), (2, .int v2)] := hl
  have ww0 := hts (.fieldLink RX6 78 "SafeBlocksModel" "m" "I") (List.mem_cons_of_mem _ wd_9_6)
  have ww1 := hts (.fieldLink RX6 13 "SafeBlocksModel" "first" "[I") (List.mem_cons_of_mem _ wd_8_0)
  have hiX6 : ∀ w ∈ u_ws RX6 TX6 30, w ∈ wAll yX6_linksOf cX6_linksOf 5 (some .int) := fun w h => List.mem_cons_of_mem _ (inlX6 w h)
  unfold Md_m_linksOf at hf
  refine lv_iconst (v := 0) hx hb dX6_linksOf_0 (by decide) ?_
  refine lv_istore_n (lv' := [(3, .int 0), (0, .ref (A 0)), (1, .int v1), (2, .int v2)]) hx hb dX6_linksOf_1 rfl hl (by decide) rfl (fun ls hl => ?_)
  refine lv_iconst (v := 0) hx hb dX6_linksOf_2 (by decide) ?_
  refine lv_istore (lv' := [(4, .int 0), (3, .int 0), (0, .ref (A 0)), (1, .int v1), (2, .int v2)]) hx hb dX6_linksOf_3 hl (by decide) rfl (fun ls hl => ?_)
  have hlp5 : ∀ (n : Nat) (v3 : Int32) (v4 : Int32), iter (fun p : Int32 × Int32 => Md_m_linksOf_s5 x v1 v2 p.1 p.2) n (v3, v4) = some r0 → ∀ (ls : Array Slot), lv_has ls 5 [(0, .ref (A 0)), (1, .int v1), (2, .int v2), (3, .int v3), (4, .int v4)] → W p l e ({ frames := 2, cells := 0, slots := 0, locals := 61 } : Room) s m args below meth c s.heap [] 0 0 (MQ below (QRi s.heap r0) args s 0 0 NoA) (F0 m 5 ls []) := by
    intro  n
    induction n with
    | zero => intro v3 v4 hf; exact iter_zero hf
    | succ n ih1 =>
      intro v3 v4 hf ls hl
      obtain ⟨q1, hf, hk1⟩ := iter_succ hf
      have hf : Md_m_linksOf_s5 x v1 v2 v3 v4 = some q1 := hf
      unfold Md_m_linksOf_s5 at hf
      have hj42 : ∀ (v3 : Int32) (v4 : Int32), Md_m_linksOf_j42 x v1 v2 v3 v4 = some q1 → ∀ (ls : Array Slot), lv_has ls 5 [(0, .ref (A 0)), (1, .int v1), (2, .int v2), (3, .int v3), (4, .int v4)] → W p l e ({ frames := 2, cells := 0, slots := 0, locals := 61 } : Room) s m args below meth c s.heap [] 0 0 (MQ below (QRi s.heap r0) args s 0 0 NoA) (F0 m 42 ls []) := by
        intro v3 v4 hf ls hl
        unfold Md_m_linksOf_j42 at hf
        refine lv_iload_n hx hb dX6_linksOf_42 rfl (lv_at hl 3 rfl) ?_
        refine lv_iconst (v := 1) hx hb dX6_linksOf_43 (by decide) ?_
        refine lv_iadd hx hb dX6_linksOf_44 ?_
        refine lv_istore_n (lv' := [(3, .int (v3 + 1)), (0, .ref (A 0)), (1, .int v1), (2, .int v2), (4, .int v4)]) hx hb dX6_linksOf_45 rfl hl (by decide) rfl (fun ls hl => ?_)
        refine lv_iinc (v := (v4 + 1)) (lv' := [(4, .int (v4 + 1)), (3, .int (v3 + 1)), (0, .ref (A 0)), (1, .int v1), (2, .int v2)]) hx hb dX6_linksOf_46 hl (k := 4) rfl rfl (by decide) rfl (fun ls hl => ?_)
        refine lv_goto (tgt := 5) hx hb dX6_linksOf_49 (by decide) ?_
        obtain rfl := Option.some.inj hf
        exact ih1 (v3 + 1) (v4 + 1) hk1 _ (lv_sub hl [2, 3, 4, 1, 0] rfl)
      refine lv_iload hx hb dX6_linksOf_5 (lv_at hl 4 rfl) ?_
      refine lv_aload_n hx hb dX6_linksOf_7 rfl (lv_at hl 0 rfl) ?_
      refine va_get (D := (dC, dI)) (ci := 6) (v := .int (Md_m x)) (C := RX6) (T := TX6) (N := 30) hx hb hts hiX6 hown hK hP 0 rfl rfl 2 (by decide) ww0 (fun _ h9 => h9) rfl dX6_linksOf_8 ?_
      refine kg_icmp_ge (tgt := 52) hx hb hf dX6_linksOf_11 (by decide) (fun hc hf => ?_) (fun hc hf => ?_)
      · obtain ⟨qq, hf, hqq⟩ := omap_some hf
        have hkq : qq = r0 := by rw [← hqq] at hk1; exact hk1
        rw [hkq] at hf
        clear hkq hqq
        refine lv_iload_n hx hb dX6_linksOf_52 rfl (lv_at hl 3 rfl) ?_
        obtain rfl := Option.some.inj hf
        exact kg_iretR hx hb hr hlk rfl dX6_linksOf_53
      · refine lv_aload_n hx hb dX6_linksOf_14 rfl (lv_at hl 0 rfl) ?_
        refine lv_aload_n hx hb dX6_linksOf_15 rfl (lv_at hl 0 rfl) ?_
        refine va_get (D := (dC, dI)) (ci := 6) (v := .ref (A 1)) (C := RX6) (T := TX6) (N := 30) hx hb hts hiX6 hown hK hP 0 rfl rfl 4 (by decide) ww1 (fun _ h9 => h9) rfl dX6_linksOf_16 ?_
        refine lv_iload hx hb dX6_linksOf_19 (lv_at hl 4 rfl) ?_
        obtain ⟨g21, hv, hf⟩ := ob_bind hf
        refine kg_iald hx hb hK hP 1 0 rfl rfl hv dX6_linksOf_21 ?_
        obtain ⟨g22, hc, hf⟩ := ob_bind hf
        have hPc : va_P (dC, dI) vwCl (wMd cI cJ A x) s.heap := hP
        refine kg_retRi (va_runV (As := [.int g21]) (rest := []) ⟨hx, hb, hml, hown, hts⟩ (c_X6_landOf l dC dI cI cJ A s.heap x g21 _ hc) (cwV 1 hts (gw_V wd_13_17 wd_13_14 wd_13_15 wd_13_16 wd_1_5) rfl rfl rfl qX6_landOf ⟨Nat.le_of_ble_eq_true rfl, Nat.le_of_ble_eq_true rfl⟩) (kg_preVR (ci := 6) (q := (RX6, TX6, 30)) (q0 := 0) hPc hK hN rfl rfl) rfl rfl hl.1 rfl (lv_room (Nat.le_of_ble_eq_true rfl)) dX6_linksOf_22 ⟨Nat.zero_le _, Nat.zero_le _⟩) ?_
        refine lv_iload_n hx hb dX6_linksOf_25 rfl (lv_at hl 1 rfl) ?_
        refine kg_icmp_ne (tgt := 46) hx hb hf dX6_linksOf_26 (by decide) (fun hc hf => ?_) (fun hc hf => ?_)
        · refine lv_iinc (v := (v4 + 1)) (lv' := [(4, .int (v4 + 1)), (0, .ref (A 0)), (1, .int v1), (2, .int v2), (3, .int v3)]) hx hb dX6_linksOf_46 hl (k := 4) rfl rfl (by decide) rfl (fun ls hl => ?_)
          refine lv_goto (tgt := 5) hx hb dX6_linksOf_49 (by decide) ?_
          obtain rfl := Option.some.inj hf
          exact ih1 v3 (v4 + 1) hk1 _ (lv_sub hl [1, 2, 3, 4, 0] rfl)
        · refine lv_iload_n hx hb dX6_linksOf_29 rfl (lv_at hl 2 rfl) ?_
          refine kg_if_eq (tgt := 42) hx hb hf dX6_linksOf_30 (by decide) (fun hc hf => ?_) (fun hc hf => ?_)
          · exact hj42 v3 v4 hf _ (lv_sub hl [0, 1, 2, 3, 4] rfl)
          · refine lv_aload_n hx hb dX6_linksOf_33 rfl (lv_at hl 0 rfl) ?_
            refine lv_iload hx hb dX6_linksOf_34 (lv_at hl 4 rfl) ?_
            obtain ⟨g36, hc, hf⟩ := ob_bind hf
            have hPc : va_P (dC, dI) vwCl (wMd cI cJ A x) s.heap := hP
            refine kg_retRi (va_runV (As := [.int v4]) (rest := []) ⟨hx, hb, hml, hown, hts⟩ (c_X6_isBridge l dC dI cI cJ A s.heap x v4 _ hc) (cwV 1 hts (gw_V wd_18_21 wd_18_18 wd_18_19 wd_18_20 wd_1_5) rfl rfl rfl qX6_isBridge ⟨Nat.le_of_ble_eq_true rfl, Nat.le_of_ble_eq_true rfl⟩) (kg_preVR (ci := 6) (q := (RX6, TX6, 30)) (q0 := 0) hPc hK hN rfl rfl) rfl rfl hl.1 rfl (lv_room (Nat.le_of_ble_eq_true rfl)) dX6_linksOf_36 ⟨Nat.zero_le _, Nat.zero_le _⟩) ?_
            refine kg_b_eq (tgt := 46) hx hb hf dX6_linksOf_39 (by decide) (fun hc hf => ?_) (fun hc hf => ?_)
            · refine lv_iinc (v := (v4 + 1)) (lv' := [(4, .int (v4 + 1)), (0, .ref (A 0)), (1, .int v1), (2, .int v2), (3, .int v3)]) hx hb dX6_linksOf_46 hl (k := 4) rfl rfl (by decide) rfl (fun ls hl => ?_)
              refine lv_goto (tgt := 5) hx hb dX6_linksOf_49 (by decide) ?_
              obtain rfl := Option.some.inj hf
              exact ih1 v3 (v4 + 1) hk1 _ (lv_sub hl [1, 2, 3, 4, 0] rfl)
            · exact hj42 v3 v4 hf _ (lv_sub hl [0, 1, 2, 3, 4] rfl)
  exact hlp5  FU 0 0 hf _ (lv_sub hl [2, 3, 4, 1, 0] rfl)
set_option maxHeartbeats 4000000 in
set_option maxRecDepth 100000 in
theorem c_X6_rootOf (l : Launch) (dC : Nat → ClassId) (dI : Nat → Nat → Nat) (cI cJ : ClassId) (A : Nat → Nat) (hq : Heap) (x : MdS) (v1 : Int32) (r0 : Int32) (hf : Md_m_rootOf x v1 = some r0) : MRi l yX6_rootOf (wAll yX6_rootOf cX6_rootOf 3 (some .int)) ({ frames := 2, cells := 0, slots := 0, locals := 61 } : Room) [.ref (A 0), .int v1] hq (dC, dI) (vTy cI cJ) (wMd cI cJ A x) r0 := by
  refine kg_metR (cc := cX6_rootOf) (maxL := 3) (ret := (some .int)) (by decide) rfl (Nat.le_of_ble_eq_true rfl) ?_
  intro p e s m args below meth c hx hb hr hts hown hlk hml hH hP hK hN ls hl
  subst hH
  have hl : lv_has ls 3 [(0, .ref (A 0)), (1, .int v1)] := hl
  have ww0 := hts (.fieldLink RX6 26 "SafeBlocksModel" "parent" "[I") (List.mem_cons_of_mem _ wd_8_4)
  have hiX6 : ∀ w ∈ u_ws RX6 TX6 30, w ∈ wAll yX6_rootOf cX6_rootOf 3 (some .int) := fun w h => List.mem_cons_of_mem _ (inlX6 w h)
  unfold Md_m_rootOf at hf
  refine lv_aload_n hx hb dX6_rootOf_0 rfl (lv_at hl 0 rfl) ?_
  refine lv_iload_n hx hb dX6_rootOf_1 rfl (lv_at hl 1 rfl) ?_
  obtain ⟨g2, hc, hf⟩ := ob_bind hf
  have hPc : va_P (dC, dI) vwCl (wMd cI cJ A x) s.heap := hP
  refine kg_retRi (va_runV (As := [.int v1]) (rest := []) ⟨hx, hb, hml, hown, hts⟩ (c_X6_blockAt l dC dI cI cJ A s.heap x v1 _ hc) (cwV 1 hts (gw_V wd_13_13 wd_13_10 wd_13_11 wd_13_12 wd_1_5) rfl rfl rfl qX6_blockAt ⟨Nat.le_of_ble_eq_true rfl, Nat.le_of_ble_eq_true rfl⟩) (kg_preVR (ci := 6) (q := (RX6, TX6, 30)) (q0 := 0) hPc hK hN rfl rfl) rfl rfl hl.1 rfl (lv_room (Nat.le_of_ble_eq_true rfl)) dX6_rootOf_2 ⟨Nat.zero_le _, Nat.zero_le _⟩) ?_
  refine lv_istore_n (lv' := [(2, .int g2), (0, .ref (A 0)), (1, .int v1)]) hx hb dX6_rootOf_5 rfl hl (by decide) rfl (fun ls hl => ?_)
  have hlp6 : ∀ (n : Nat) (v2 : Int32), iter (fun p : Int32 => Md_m_rootOf_s6 x p) n (v2) = some r0 → ∀ (ls : Array Slot), lv_has ls 3 [(0, .ref (A 0)), (2, .int v2)] → W p l e ({ frames := 2, cells := 0, slots := 0, locals := 61 } : Room) s m args below meth c s.heap [] 0 0 (MQ below (QRi s.heap r0) args s 0 0 NoA) (F0 m 6 ls []) := by
    intro  n
    induction n with
    | zero => intro v2 hf; exact iter_zero hf
    | succ n ih1 =>
      intro v2 hf ls hl
      obtain ⟨q1, hf, hk1⟩ := iter_succ hf
      have hf : Md_m_rootOf_s6 x v2 = some q1 := hf
      unfold Md_m_rootOf_s6 at hf
      refine lv_aload_n hx hb dX6_rootOf_6 rfl (lv_at hl 0 rfl) ?_
      refine va_get (D := (dC, dI)) (ci := 6) (v := .ref (A 4)) (C := RX6) (T := TX6) (N := 30) hx hb hts hiX6 hown hK hP 0 rfl rfl 8 (by decide) ww0 (fun _ h9 => h9) rfl dX6_rootOf_7 ?_
      refine lv_iload_n hx hb dX6_rootOf_10 rfl (lv_at hl 1 rfl) ?_
      obtain ⟨g11, hv, hf⟩ := ob_bind hf
      refine kg_iald hx hb hK hP 4 0 rfl rfl hv dX6_rootOf_11 ?_
      refine lv_iconst (v := (-1)) hx hb dX6_rootOf_12 (by decide) ?_
      refine kg_icmp_eq (tgt := 26) hx hb hf dX6_rootOf_13 (by decide) (fun hc hf => ?_) (fun hc hf => ?_)
      · obtain ⟨qq, hf, hqq⟩ := omap_some hf
        have hkq : qq = r0 := by rw [← hqq] at hk1; exact hk1
        rw [hkq] at hf
        clear hkq hqq
        refine lv_iload_n hx hb dX6_rootOf_26 rfl (lv_at hl 1 rfl) ?_
        obtain rfl := Option.some.inj hf
        exact kg_iretR hx hb hr hlk rfl dX6_rootOf_27
      · refine lv_aload_n hx hb dX6_rootOf_16 rfl (lv_at hl 0 rfl) ?_
        refine va_get (D := (dC, dI)) (ci := 6) (v := .ref (A 4)) (C := RX6) (T := TX6) (N := 30) hx hb hts hiX6 hown hK hP 0 rfl rfl 8 (by decide) ww0 (fun _ h9 => h9) rfl dX6_rootOf_17 ?_
        refine lv_iload_n hx hb dX6_rootOf_20 rfl (lv_at hl 1 rfl) ?_
        obtain ⟨g21, hv, hf⟩ := ob_bind hf
        refine kg_iald hx hb hK hP 4 0 rfl rfl hv dX6_rootOf_21 ?_
        refine lv_istore_n (lv' := [(2, .int g21), (0, .ref (A 0))]) hx hb dX6_rootOf_22 rfl hl (by decide) rfl (fun ls hl => ?_)
        refine lv_goto (tgt := 6) hx hb dX6_rootOf_23 (by decide) ?_
        obtain rfl := Option.some.inj hf
        exact ih1 g21 hk1 _ (lv_sub hl [1, 0] rfl)
  exact hlp6  FU g2 hf _ (lv_sub hl [1, 0] rfl)
set_option maxHeartbeats 4000000 in
set_option maxRecDepth 100000 in
theorem c_X6_lone (l : Launch) (dC : Nat → ClassId) (dI : Nat → Nat → Nat) (cI cJ : ClassId) (A : Nat → Nat) (hq : Heap) (x : MdS) (v1 : Int32) (r0 : Int32) (hf : Md_m_lone x v1 = some r0) : MRi l yX6_lone (wAll yX6_lone cX6_lone 4 (some .int)) ({ frames := 5, cells := 0, slots := 0, locals := 130 } : Room) [.ref (A 0), .int v1] hq (dC, dI) (vTy cI cJ) (wMd cI cJ A x) r0 := by
  refine kg_metR (cc := cX6_lone) (maxL := 4) (ret := (some .int)) (by decide) rfl (Nat.le_of_ble_eq_true rfl) ?_
  intro p e s m args below meth c hx hb hr hts hown hlk hml hH hP hK hN ls hl
  subst hH
  have hl : lv_has ls 4 [(0, .ref (A 0)), (1, .int v1)] := hl
  have ww0 := hts (.fieldLink RX6 7 "SafeBlocksModel" "n" "I") (List.mem_cons_of_mem _ wd_7_23)
  have hiX6 : ∀ w ∈ u_ws RX6 TX6 30, w ∈ wAll yX6_lone cX6_lone 4 (some .int) := fun w h => List.mem_cons_of_mem _ (inlX6 w h)
  unfold Md_m_lone at hf
  refine lv_iconst (v := 0) hx hb dX6_lone_0 (by decide) ?_
  refine lv_istore_n (lv' := [(2, .int 0), (0, .ref (A 0)), (1, .int v1)]) hx hb dX6_lone_1 rfl hl (by decide) rfl (fun ls hl => ?_)
  refine lv_iconst (v := 0) hx hb dX6_lone_2 (by decide) ?_
  refine lv_istore_n (lv' := [(3, .int 0), (2, .int 0), (0, .ref (A 0)), (1, .int v1)]) hx hb dX6_lone_3 rfl hl (by decide) rfl (fun ls hl => ?_)
  have hlp4 : ∀ (n : Nat) (v2 : Int32) (v3 : Int32), iter (fun p : Int32 × Int32 => Md_m_lone_s4 x v1 p.1 p.2) n (v2, v3) = some r0 → ∀ (ls : Array Slot), lv_has ls 4 [(0, .ref (A 0)), (1, .int v1), (2, .int v2), (3, .int v3)] → W p l e ({ frames := 5, cells := 0, slots := 0, locals := 130 } : Room) s m args below meth c s.heap [] 0 0 (MQ below (QRi s.heap r0) args s 0 0 NoA) (F0 m 4 ls []) := by
    intro  n
    induction n with
    | zero => intro v2 v3 hf; exact iter_zero hf
    | succ n ih1 =>
      intro v2 v3 hf ls hl
      obtain ⟨q1, hf, hk1⟩ := iter_succ hf
      have hf : Md_m_lone_s4 x v1 v2 v3 = some q1 := hf
      unfold Md_m_lone_s4 at hf
      refine lv_iload_n hx hb dX6_lone_4 rfl (lv_at hl 3 rfl) ?_
      refine lv_aload_n hx hb dX6_lone_5 rfl (lv_at hl 0 rfl) ?_
      refine va_get (D := (dC, dI)) (ci := 6) (v := .int (Md_n x)) (C := RX6) (T := TX6) (N := 30) hx hb hts hiX6 hown hK hP 0 rfl rfl 1 (by decide) ww0 (fun _ h9 => h9) rfl dX6_lone_6 ?_
      refine kg_icmp_ge (tgt := 40) hx hb hf dX6_lone_9 (by decide) (fun hc hf => ?_) (fun hc hf => ?_)
      · obtain ⟨qq, hf, hqq⟩ := omap_some hf
        have hkq : qq = r0 := by rw [← hqq] at hk1; exact hk1
        rw [hkq] at hf
        clear hkq hqq
        refine lv_iload_n hx hb dX6_lone_40 rfl (lv_at hl 2 rfl) ?_
        obtain rfl := Option.some.inj hf
        exact kg_iretR hx hb hr hlk rfl dX6_lone_41
      · refine lv_aload_n hx hb dX6_lone_12 rfl (lv_at hl 0 rfl) ?_
        refine lv_iload_n hx hb dX6_lone_13 rfl (lv_at hl 3 rfl) ?_
        refine lv_iload_n hx hb dX6_lone_14 rfl (lv_at hl 1 rfl) ?_
        obtain ⟨g15, hc, hf⟩ := ob_bind hf
        have hPc : va_P (dC, dI) vwCl (wMd cI cJ A x) s.heap := hP
        refine kg_retRi (va_runV (As := [.int v3, .int v1]) (rest := []) ⟨hx, hb, hml, hown, hts⟩ (c_X6_isBlockOf l dC dI cI cJ A s.heap x v3 v1 _ hc) (cwV 2 hts (gw_V wd_29_23 wd_29_20 wd_29_21 wd_29_22 wd_1_5) rfl rfl rfl qX6_isBlockOf ⟨Nat.le_of_ble_eq_true rfl, Nat.le_of_ble_eq_true rfl⟩) (kg_preVR (ci := 6) (q := (RX6, TX6, 30)) (q0 := 0) hPc hK hN rfl rfl) rfl rfl hl.1 rfl (lv_room (Nat.le_of_ble_eq_true rfl)) dX6_lone_15 ⟨Nat.zero_le _, Nat.zero_le _⟩) ?_
        refine kg_b_eq (tgt := 34) hx hb hf dX6_lone_18 (by decide) (fun hc hf => ?_) (fun hc hf => ?_)
        · refine lv_iinc (v := (v3 + 1)) (lv' := [(3, .int (v3 + 1)), (0, .ref (A 0)), (1, .int v1), (2, .int v2)]) hx hb dX6_lone_34 hl (k := 3) rfl rfl (by decide) rfl (fun ls hl => ?_)
          refine lv_goto (tgt := 4) hx hb dX6_lone_37 (by decide) ?_
          obtain rfl := Option.some.inj hf
          exact ih1 v2 (v3 + 1) hk1 _ (lv_sub hl [1, 2, 3, 0] rfl)
        · refine lv_aload_n hx hb dX6_lone_21 rfl (lv_at hl 0 rfl) ?_
          refine lv_iload_n hx hb dX6_lone_22 rfl (lv_at hl 3 rfl) ?_
          obtain ⟨g23, hc, hf⟩ := ob_bind hf
          have hPc : va_P (dC, dI) vwCl (wMd cI cJ A x) s.heap := hP
          refine kg_retRi (va_runV (As := [.int v3]) (rest := []) ⟨hx, hb, hml, hown, hts⟩ (c_X6_bridgesAt l dC dI cI cJ A s.heap x v3 _ hc) (cwV 1 hts (gw_V wd_25_9 wd_25_6 wd_25_7 wd_25_8 wd_1_5) rfl rfl rfl qX6_bridgesAt ⟨Nat.le_of_ble_eq_true rfl, Nat.le_of_ble_eq_true rfl⟩) (kg_preVR (ci := 6) (q := (RX6, TX6, 30)) (q0 := 0) hPc hK hN rfl rfl) rfl rfl hl.1 rfl (lv_room (Nat.le_of_ble_eq_true rfl)) dX6_lone_23 ⟨Nat.zero_le _, Nat.zero_le _⟩) ?_
          refine lv_iconst (v := 1) hx hb dX6_lone_26 (by decide) ?_
          refine kg_icmp_ne (tgt := 34) hx hb hf dX6_lone_27 (by decide) (fun hc hf => ?_) (fun hc hf => ?_)
          · refine lv_iinc (v := (v3 + 1)) (lv' := [(3, .int (v3 + 1)), (0, .ref (A 0)), (1, .int v1), (2, .int v2)]) hx hb dX6_lone_34 hl (k := 3) rfl rfl (by decide) rfl (fun ls hl => ?_)
            refine lv_goto (tgt := 4) hx hb dX6_lone_37 (by decide) ?_
            obtain rfl := Option.some.inj hf
            exact ih1 v2 (v3 + 1) hk1 _ (lv_sub hl [1, 2, 3, 0] rfl)
          · refine lv_iload_n hx hb dX6_lone_30 rfl (lv_at hl 2 rfl) ?_
            refine lv_iconst (v := 1) hx hb dX6_lone_31 (by decide) ?_
            refine lv_iadd hx hb dX6_lone_32 ?_
            refine lv_istore_n (lv' := [(2, .int (v2 + 1)), (0, .ref (A 0)), (1, .int v1), (3, .int v3)]) hx hb dX6_lone_33 rfl hl (by decide) rfl (fun ls hl => ?_)
            refine lv_iinc (v := (v3 + 1)) (lv' := [(3, .int (v3 + 1)), (2, .int (v2 + 1)), (0, .ref (A 0)), (1, .int v1)]) hx hb dX6_lone_34 hl (k := 3) rfl rfl (by decide) rfl (fun ls hl => ?_)
            refine lv_goto (tgt := 4) hx hb dX6_lone_37 (by decide) ?_
            obtain rfl := Option.some.inj hf
            exact ih1 (v2 + 1) (v3 + 1) hk1 _ (lv_sub hl [2, 3, 1, 0] rfl)
  exact hlp4  FU 0 0 hf _ (lv_sub hl [2, 3, 1, 0] rfl)
set_option maxHeartbeats 4000000 in
set_option maxRecDepth 100000 in
theorem c_X6_mend (l : Launch) (dC : Nat → ClassId) (dI : Nat → Nat → Nat) (cI cJ : ClassId) (A : Nat → Nat) (hq : Heap) (x : MdS) (v1 : Int32) (r0 : Int32) (hf : Md_m_mend x v1 = some r0) : MRi l yX6_mend (wAll yX6_mend cX6_mend 2 (some .int)) ({ frames := 6, cells := 0, slots := 0, locals := 153 } : Room) [.ref (A 0), .int v1] hq (dC, dI) (vTy cI cJ) (wMd cI cJ A x) r0 := by
  refine kg_metR (cc := cX6_mend) (maxL := 2) (ret := (some .int)) (by decide) rfl (Nat.le_of_ble_eq_true rfl) ?_
  intro p e s m args below meth c hx hb hr hts hown hlk hml hH hP hK hN ls hl
  subst hH
  have hl : lv_has ls 2 [(0, .ref (A 0)), (1, .int v1)] := hl
  unfold Md_m_mend at hf
  refine lv_aload_n hx hb dX6_mend_0 rfl (lv_at hl 0 rfl) ?_
  refine lv_iload_n hx hb dX6_mend_1 rfl (lv_at hl 1 rfl) ?_
  obtain ⟨g2, hc, hf⟩ := ob_bind hf
  have hPc : va_P (dC, dI) vwCl (wMd cI cJ A x) s.heap := hP
  refine kg_retRi (va_runV (As := [.int v1]) (rest := []) ⟨hx, hb, hml, hown, hts⟩ (c_X6_lone l dC dI cI cJ A s.heap x v1 _ hc) (cwV 1 hts (gw_V wd_30_15 wd_30_12 wd_30_13 wd_30_14 wd_1_5) rfl rfl rfl qX6_lone ⟨Nat.le_of_ble_eq_true rfl, Nat.le_of_ble_eq_true rfl⟩) (kg_preVR (ci := 6) (q := (RX6, TX6, 30)) (q0 := 0) hPc hK hN rfl rfl) rfl rfl hl.1 rfl (lv_room (Nat.le_of_ble_eq_true rfl)) dX6_mend_2 ⟨Nat.zero_le _, Nat.zero_le _⟩) ?_
  refine lv_iconst (v := 1) hx hb dX6_mend_5 (by decide) ?_
  refine lv_iadd hx hb dX6_mend_6 ?_
  refine lv_iconst (v := 2) hx hb dX6_mend_7 (by decide) ?_
  obtain ⟨g8, hv, hf⟩ := ob_bind hf
  refine kg_idiv hx hb hv dX6_mend_8 ?_
  obtain rfl := Option.some.inj hf
  exact kg_iretR hx hb hr hlk rfl dX6_mend_9
set_option maxHeartbeats 4000000 in
set_option maxRecDepth 100000 in
theorem c_X6_cutsOf (l : Launch) (dC : Nat → ClassId) (dI : Nat → Nat → Nat) (cI cJ : ClassId) (A : Nat → Nat) (hq : Heap) (x : MdS) (v1 : Int32) (r0 : Int32) (hf : Md_m_cutsOf x v1 = some r0) : MRi l yX6_cutsOf (wAll yX6_cutsOf cX6_cutsOf 4 (some .int)) ({ frames := 4, cells := 0, slots := 0, locals := 108 } : Room) [.ref (A 0), .int v1] hq (dC, dI) (vTy cI cJ) (wMd cI cJ A x) r0 := by
  refine kg_metR (cc := cX6_cutsOf) (maxL := 4) (ret := (some .int)) (by decide) rfl (Nat.le_of_ble_eq_true rfl) ?_
  intro p e s m args below meth c hx hb hr hts hown hlk hml hH hP hK hN ls hl
  subst hH
  have hl : lv_has ls 4 [(0, .ref (A 0)), (1, .int v1)] := hl
  have ww0 := hts (.fieldLink RX6 7 "SafeBlocksModel" "n" "I") (List.mem_cons_of_mem _ wd_7_23)
  have hiX6 : ∀ w ∈ u_ws RX6 TX6 30, w ∈ wAll yX6_cutsOf cX6_cutsOf 4 (some .int) := fun w h => List.mem_cons_of_mem _ (inlX6 w h)
  unfold Md_m_cutsOf at hf
  refine lv_iconst (v := 0) hx hb dX6_cutsOf_0 (by decide) ?_
  refine lv_istore_n (lv' := [(2, .int 0), (0, .ref (A 0)), (1, .int v1)]) hx hb dX6_cutsOf_1 rfl hl (by decide) rfl (fun ls hl => ?_)
  refine lv_iconst (v := 0) hx hb dX6_cutsOf_2 (by decide) ?_
  refine lv_istore_n (lv' := [(3, .int 0), (2, .int 0), (0, .ref (A 0)), (1, .int v1)]) hx hb dX6_cutsOf_3 rfl hl (by decide) rfl (fun ls hl => ?_)
  have hlp4 : ∀ (n : Nat) (v2 : Int32) (v3 : Int32), iter (fun p : Int32 × Int32 => Md_m_cutsOf_s4 x v1 p.1 p.2) n (v2, v3) = some r0 → ∀ (ls : Array Slot), lv_has ls 4 [(0, .ref (A 0)), (1, .int v1), (2, .int v2), (3, .int v3)] → W p l e ({ frames := 4, cells := 0, slots := 0, locals := 108 } : Room) s m args below meth c s.heap [] 0 0 (MQ below (QRi s.heap r0) args s 0 0 NoA) (F0 m 4 ls []) := by
    intro  n
    induction n with
    | zero => intro v2 v3 hf; exact iter_zero hf
    | succ n ih1 =>
      intro v2 v3 hf ls hl
      obtain ⟨q1, hf, hk1⟩ := iter_succ hf
      have hf : Md_m_cutsOf_s4 x v1 v2 v3 = some q1 := hf
      unfold Md_m_cutsOf_s4 at hf
      refine lv_iload_n hx hb dX6_cutsOf_4 rfl (lv_at hl 3 rfl) ?_
      refine lv_aload_n hx hb dX6_cutsOf_5 rfl (lv_at hl 0 rfl) ?_
      refine va_get (D := (dC, dI)) (ci := 6) (v := .int (Md_n x)) (C := RX6) (T := TX6) (N := 30) hx hb hts hiX6 hown hK hP 0 rfl rfl 1 (by decide) ww0 (fun _ h9 => h9) rfl dX6_cutsOf_6 ?_
      refine kg_icmp_ge (tgt := 39) hx hb hf dX6_cutsOf_9 (by decide) (fun hc hf => ?_) (fun hc hf => ?_)
      · obtain ⟨qq, hf, hqq⟩ := omap_some hf
        have hkq : qq = r0 := by rw [← hqq] at hk1; exact hk1
        rw [hkq] at hf
        clear hkq hqq
        refine lv_iload_n hx hb dX6_cutsOf_39 rfl (lv_at hl 2 rfl) ?_
        obtain rfl := Option.some.inj hf
        exact kg_iretR hx hb hr hlk rfl dX6_cutsOf_40
      · refine lv_aload_n hx hb dX6_cutsOf_12 rfl (lv_at hl 0 rfl) ?_
        refine lv_iload_n hx hb dX6_cutsOf_13 rfl (lv_at hl 3 rfl) ?_
        obtain ⟨g14, hc, hf⟩ := ob_bind hf
        have hPc : va_P (dC, dI) vwCl (wMd cI cJ A x) s.heap := hP
        refine kg_retRi (va_runV (As := [.int v3]) (rest := []) ⟨hx, hb, hml, hown, hts⟩ (c_X6_landOf l dC dI cI cJ A s.heap x v3 _ hc) (cwV 1 hts (gw_V wd_13_17 wd_13_14 wd_13_15 wd_13_16 wd_1_5) rfl rfl rfl qX6_landOf ⟨Nat.le_of_ble_eq_true rfl, Nat.le_of_ble_eq_true rfl⟩) (kg_preVR (ci := 6) (q := (RX6, TX6, 30)) (q0 := 0) hPc hK hN rfl rfl) rfl rfl hl.1 rfl (lv_room (Nat.le_of_ble_eq_true rfl)) dX6_cutsOf_14 ⟨Nat.zero_le _, Nat.zero_le _⟩) ?_
        refine lv_iload_n hx hb dX6_cutsOf_17 rfl (lv_at hl 1 rfl) ?_
        refine kg_icmp_ne (tgt := 33) hx hb hf dX6_cutsOf_18 (by decide) (fun hc hf => ?_) (fun hc hf => ?_)
        · refine lv_iinc (v := (v3 + 1)) (lv' := [(3, .int (v3 + 1)), (0, .ref (A 0)), (1, .int v1), (2, .int v2)]) hx hb dX6_cutsOf_33 hl (k := 3) rfl rfl (by decide) rfl (fun ls hl => ?_)
          refine lv_goto (tgt := 4) hx hb dX6_cutsOf_36 (by decide) ?_
          obtain rfl := Option.some.inj hf
          exact ih1 v2 (v3 + 1) hk1 _ (lv_sub hl [1, 2, 3, 0] rfl)
        · refine lv_aload_n hx hb dX6_cutsOf_21 rfl (lv_at hl 0 rfl) ?_
          refine lv_iload_n hx hb dX6_cutsOf_22 rfl (lv_at hl 3 rfl) ?_
          obtain ⟨g23, hc, hf⟩ := ob_bind hf
          have hPc : va_P (dC, dI) vwCl (wMd cI cJ A x) s.heap := hP
          refine kg_retRi (va_runV (As := [.int v3]) (rest := []) ⟨hx, hb, hml, hown, hts⟩ (c_X6_isCut l dC dI cI cJ A s.heap x v3 _ hc) (cwV 1 hts (gw_V wd_23_7 wd_23_4 wd_23_5 wd_23_6 wd_1_5) rfl rfl rfl qX6_isCut ⟨Nat.le_of_ble_eq_true rfl, Nat.le_of_ble_eq_true rfl⟩) (kg_preVR (ci := 6) (q := (RX6, TX6, 30)) (q0 := 0) hPc hK hN rfl rfl) rfl rfl hl.1 rfl (lv_room (Nat.le_of_ble_eq_true rfl)) dX6_cutsOf_23 ⟨Nat.zero_le _, Nat.zero_le _⟩) ?_
          refine kg_b_eq (tgt := 33) hx hb hf dX6_cutsOf_26 (by decide) (fun hc hf => ?_) (fun hc hf => ?_)
          · refine lv_iinc (v := (v3 + 1)) (lv' := [(3, .int (v3 + 1)), (0, .ref (A 0)), (1, .int v1), (2, .int v2)]) hx hb dX6_cutsOf_33 hl (k := 3) rfl rfl (by decide) rfl (fun ls hl => ?_)
            refine lv_goto (tgt := 4) hx hb dX6_cutsOf_36 (by decide) ?_
            obtain rfl := Option.some.inj hf
            exact ih1 v2 (v3 + 1) hk1 _ (lv_sub hl [1, 2, 3, 0] rfl)
          · refine lv_iload_n hx hb dX6_cutsOf_29 rfl (lv_at hl 2 rfl) ?_
            refine lv_iconst (v := 1) hx hb dX6_cutsOf_30 (by decide) ?_
            refine lv_iadd hx hb dX6_cutsOf_31 ?_
            refine lv_istore_n (lv' := [(2, .int (v2 + 1)), (0, .ref (A 0)), (1, .int v1), (3, .int v3)]) hx hb dX6_cutsOf_32 rfl hl (by decide) rfl (fun ls hl => ?_)
            refine lv_iinc (v := (v3 + 1)) (lv' := [(3, .int (v3 + 1)), (2, .int (v2 + 1)), (0, .ref (A 0)), (1, .int v1)]) hx hb dX6_cutsOf_33 hl (k := 3) rfl rfl (by decide) rfl (fun ls hl => ?_)
            refine lv_goto (tgt := 4) hx hb dX6_cutsOf_36 (by decide) ?_
            obtain rfl := Option.some.inj hf
            exact ih1 (v2 + 1) (v3 + 1) hk1 _ (lv_sub hl [2, 3, 1, 0] rfl)
  exact hlp4  FU 0 0 hf _ (lv_sub hl [2, 3, 1, 0] rfl)
set_option maxHeartbeats 4000000 in
set_option maxRecDepth 100000 in
theorem c_X6_apart (l : Launch) (dC : Nat → ClassId) (dI : Nat → Nat → Nat) (cI cJ : ClassId) (A : Nat → Nat) (hq : Heap) (x : MdS) (v1 : Int32) (v2 : Int32) (r0 : Int32) (hf : Md_m_apart x v1 v2 = some r0) : MRi l yX6_apart (wAll yX6_apart cX6_apart 3 (some .int)) ({ frames := 3, cells := 0, slots := 0, locals := 88 } : Room) [.ref (A 0), .int v1, .int v2] hq (dC, dI) (vTy cI cJ) (wMd cI cJ A x) r0 := by
  refine kg_metR (cc := cX6_apart) (maxL := 3) (ret := (some .int)) (by decide) rfl (Nat.le_of_ble_eq_true rfl) ?_
  intro p e s m args below meth c hx hb hr hts hown hlk hml hH hP hK hN ls hl
  subst hH
  have hl : lv_has ls 3 [(0, .ref (A 0)), (1, .int v1), (2, .int v2)] := hl
  unfold Md_m_apart at hf
  refine lv_aload_n hx hb dX6_apart_0 rfl (lv_at hl 0 rfl) ?_
  refine lv_aload_n hx hb dX6_apart_1 rfl (lv_at hl 0 rfl) ?_
  refine lv_iload_n hx hb dX6_apart_2 rfl (lv_at hl 1 rfl) ?_
  refine lv_iload_n hx hb dX6_apart_3 rfl (lv_at hl 2 rfl) ?_
  obtain ⟨g4, hc, hf⟩ := ob_bind hf
  have hPc : va_P (dC, dI) vwCl (wMd cI cJ A x) s.heap := hP
  refine kg_retRi (va_runV (As := [.int v1, .int v2]) (rest := [.ref (A 0)]) ⟨hx, hb, hml, hown, hts⟩ (c_X6_onWay l dC dI cI cJ A s.heap x v1 v2 _ hc) (cwV 2 hts (gw_V wd_14_17 wd_14_14 wd_14_15 wd_14_16 wd_1_5) rfl rfl rfl qX6_onWay ⟨Nat.le_of_ble_eq_true rfl, Nat.le_of_ble_eq_true rfl⟩) (kg_preVR (ci := 6) (q := (RX6, TX6, 30)) (q0 := 0) hPc hK hN rfl rfl) rfl rfl hl.1 rfl (lv_room (Nat.le_of_ble_eq_true rfl)) dX6_apart_4 ⟨Nat.zero_le _, Nat.zero_le _⟩) ?_
  obtain ⟨g7, hc, hf⟩ := ob_bind hf
  have hPc : va_P (dC, dI) vwCl (wMd cI cJ A x) s.heap := hP
  refine kg_retRi (va_runV (As := [.int g4]) (rest := []) ⟨hx, hb, hml, hown, hts⟩ (c_X6_count l dC dI cI cJ A s.heap x g4 _ hc) (cwV 1 hts (gw_V wd_15_1 wd_14_22 wd_14_23 wd_15_0 wd_1_5) rfl rfl rfl qX6_count ⟨Nat.le_of_ble_eq_true rfl, Nat.le_of_ble_eq_true rfl⟩) (kg_preVR (ci := 6) (q := (RX6, TX6, 30)) (q0 := 0) hPc hK hN rfl rfl) rfl rfl hl.1 rfl (lv_room (Nat.le_of_ble_eq_true rfl)) dX6_apart_7 ⟨Nat.zero_le _, Nat.zero_le _⟩) ?_
  refine lv_iconst (v := 1) hx hb dX6_apart_10 (by decide) ?_
  refine lv_isub hx hb dX6_apart_11 ?_
  obtain rfl := Option.some.inj hf
  exact kg_iretR hx hb hr hlk rfl dX6_apart_12
set_option maxHeartbeats 4000000 in
set_option maxRecDepth 100000 in
theorem c_X6_longest (l : Launch) (dC : Nat → ClassId) (dI : Nat → Nat → Nat) (cI cJ : ClassId) (A : Nat → Nat) (hq : Heap) (x : MdS) (v1 : Int32) (v2 : Int32) (r0 : Int32) (hf : Md_m_longest x v1 v2 = some r0) : MRi l yX6_longest (wAll yX6_longest cX6_longest 8 (some .int)) ({ frames := 5, cells := 0, slots := 0, locals := 130 } : Room) [.ref (A 0), .int v1, .int v2] hq (dC, dI) (vTy cI cJ) (wMd cI cJ A x) r0 := by
  refine kg_metR (cc := cX6_longest) (maxL := 8) (ret := (some .int)) (by decide) rfl (Nat.le_of_ble_eq_true rfl) ?_
  intro p e s m args below meth c hx hb hr hts hown hlk hml hH hP hK hN ls hl
  subst hH
  have hl : lv_has ls 8 [(0, .ref (A 0)), (1, .int v1), (2, .int v2)] := hl
  have ww0 := hts (.fieldLink RX6 7 "SafeBlocksModel" "n" "I") (List.mem_cons_of_mem _ wd_7_23)
  have hiX6 : ∀ w ∈ u_ws RX6 TX6 30, w ∈ wAll yX6_longest cX6_longest 8 (some .int) := fun w h => List.mem_cons_of_mem _ (inlX6 w h)
  unfold Md_m_longest at hf
  refine lv_iconst (v := (-1)) hx hb dX6_longest_0 (by decide) ?_
  refine lv_istore_n (lv' := [(3, .int (-1)), (0, .ref (A 0)), (1, .int v1), (2, .int v2)]) hx hb dX6_longest_1 rfl hl (by decide) rfl (fun ls hl => ?_)
  refine lv_iconst (v := 0) hx hb dX6_longest_2 (by decide) ?_
  refine lv_istore (lv' := [(4, .int 0), (3, .int (-1)), (0, .ref (A 0)), (1, .int v1), (2, .int v2)]) hx hb dX6_longest_3 hl (by decide) rfl (fun ls hl => ?_)
  refine lv_iconst (v := 0) hx hb dX6_longest_5 (by decide) ?_
  refine lv_istore (lv' := [(5, .int 0), (4, .int 0), (3, .int (-1)), (0, .ref (A 0)), (1, .int v1), (2, .int v2)]) hx hb dX6_longest_6 hl (by decide) rfl (fun ls hl => ?_)
  refine lv_iconst (v := 0) hx hb dX6_longest_8 (by decide) ?_
  refine lv_istore (lv' := [(6, .int 0), (5, .int 0), (4, .int 0), (3, .int (-1)), (0, .ref (A 0)), (1, .int v1), (2, .int v2)]) hx hb dX6_longest_9 hl (by decide) rfl (fun ls hl => ?_)
  have hlp11 : ∀ (n : Nat) (v3 : Int32) (v4 : Int32) (v5 : Int32) (v6 : Int32), iter (fun p : Int32 × Int32 × Int32 × Int32 => Md_m_longest_s11 x v1 v2 p.1 p.2.1 p.2.2.1 p.2.2.2) n (v3, v4, v5, v6) = some r0 → ∀ (ls : Array Slot), lv_has ls 8 [(0, .ref (A 0)), (1, .int v1), (2, .int v2), (3, .int v3), (4, .int v4), (5, .int v5), (6, .int v6)] → W p l e ({ frames := 5, cells := 0, slots := 0, locals := 130 } : Room) s m args below meth c s.heap [] 0 0 (MQ below (QRi s.heap r0) args s 0 0 NoA) (F0 m 11 ls []) := by
    intro  n
    induction n with
    | zero => intro v3 v4 v5 v6 hf; exact iter_zero hf
    | succ n ih1 =>
      intro v3 v4 v5 v6 hf ls hl
      obtain ⟨q1, hf, hk1⟩ := iter_succ hf
      have hf : Md_m_longest_s11 x v1 v2 v3 v4 v5 v6 = some q1 := hf
      unfold Md_m_longest_s11 at hf
      refine lv_iload hx hb dX6_longest_11 (lv_at hl 6 rfl) ?_
      refine lv_aload_n hx hb dX6_longest_13 rfl (lv_at hl 0 rfl) ?_
      refine va_get (D := (dC, dI)) (ci := 6) (v := .int (Md_n x)) (C := RX6) (T := TX6) (N := 30) hx hb hts hiX6 hown hK hP 0 rfl rfl 1 (by decide) ww0 (fun _ h9 => h9) rfl dX6_longest_14 ?_
      refine kg_icmp_ge (tgt := 97) hx hb hf dX6_longest_17 (by decide) (fun hc hf => ?_) (fun hc hf => ?_)
      · obtain ⟨qq, hf, hqq⟩ := omap_some hf
        have hkq : qq = r0 := by rw [← hqq] at hk1; exact hk1
        rw [hkq] at hf
        clear hkq hqq
        refine lv_iload_n hx hb dX6_longest_97 rfl (lv_at hl 2 rfl) ?_
        refine kg_if_ne (tgt := 105) hx hb hf dX6_longest_98 (by decide) (fun hc hf => ?_) (fun hc hf => ?_)
        · refine lv_iload_n hx hb dX6_longest_105 rfl (lv_at hl 2 rfl) ?_
          refine lv_iconst (v := 1) hx hb dX6_longest_106 (by decide) ?_
          refine kg_icmp_ne (tgt := 115) hx hb hf dX6_longest_107 (by decide) (fun hc hf => ?_) (fun hc hf => ?_)
          · refine lv_iload hx hb dX6_longest_115 (lv_at hl 5 rfl) ?_
            obtain rfl := Option.some.inj hf
            exact kg_iretR hx hb hr hlk rfl dX6_longest_117
          · refine lv_iload hx hb dX6_longest_110 (lv_at hl 4 rfl) ?_
            refine lv_goto (tgt := 117) hx hb dX6_longest_112 (by decide) ?_
            obtain rfl := Option.some.inj hf
            exact kg_iretR hx hb hr hlk rfl dX6_longest_117
        · refine lv_iload_n hx hb dX6_longest_101 rfl (lv_at hl 3 rfl) ?_
          refine lv_goto (tgt := 117) hx hb dX6_longest_102 (by decide) ?_
          obtain rfl := Option.some.inj hf
          exact kg_iretR hx hb hr hlk rfl dX6_longest_117
      · refine lv_iload hx hb dX6_longest_20 (lv_at hl 6 rfl) ?_
        refine lv_istore (lv' := [(7, .int v6), (0, .ref (A 0)), (1, .int v1), (2, .int v2), (3, .int v3), (4, .int v4), (5, .int v5), (6, .int v6)]) hx hb dX6_longest_22 hl (by decide) rfl (fun ls hl => ?_)
        have hlp24 : ∀ (v6 : Int32), ∀ (n : Nat) (v3 : Int32) (v4 : Int32) (v5 : Int32) (v7 : Int32), iter (fun p : Int32 × Int32 × Int32 × Int32 => Md_m_longest_s24 x v1 v2 v6 p.1 p.2.1 p.2.2.1 p.2.2.2) n (v3, v4, v5, v7) = some q1 → ∀ (ls : Array Slot), lv_has ls 8 [(0, .ref (A 0)), (1, .int v1), (2, .int v2), (3, .int v3), (4, .int v4), (5, .int v5), (6, .int v6), (7, .int v7)] → W p l e ({ frames := 5, cells := 0, slots := 0, locals := 130 } : Room) s m args below meth c s.heap [] 0 0 (MQ below (QRi s.heap r0) args s 0 0 NoA) (F0 m 24 ls []) := by
          intro v6 n
          induction n with
          | zero => intro v3 v4 v5 v7 hf; exact iter_zero hf
          | succ n ih2 =>
            intro v3 v4 v5 v7 hf ls hl
            obtain ⟨q2, hf, hk2⟩ := iter_succ hf
            have hf : Md_m_longest_s24 x v1 v2 v6 v3 v4 v5 v7 = some q2 := hf
            unfold Md_m_longest_s24 at hf
            refine lv_iload hx hb dX6_longest_24 (lv_at hl 7 rfl) ?_
            refine lv_aload_n hx hb dX6_longest_26 rfl (lv_at hl 0 rfl) ?_
            refine va_get (D := (dC, dI)) (ci := 6) (v := .int (Md_n x)) (C := RX6) (T := TX6) (N := 30) hx hb hts hiX6 hown hK hP 0 rfl rfl 1 (by decide) ww0 (fun _ h9 => h9) rfl dX6_longest_27 ?_
            refine kg_icmp_ge (tgt := 91) hx hb hf dX6_longest_30 (by decide) (fun hc hf => ?_) (fun hc hf => ?_)
            · obtain ⟨qq, hf, hqq⟩ := omap_some hf
              have hkq : qq = q1 := by rw [← hqq] at hk2; exact hk2
              rw [hkq] at hf
              clear hkq hqq
              refine lv_iinc (v := (v6 + 1)) (lv' := [(6, .int (v6 + 1)), (0, .ref (A 0)), (1, .int v1), (2, .int v2), (3, .int v3), (4, .int v4), (5, .int v5), (7, .int v7)]) hx hb dX6_longest_91 hl (k := 6) rfl rfl (by decide) rfl (fun ls hl => ?_)
              refine lv_goto (tgt := 11) hx hb dX6_longest_94 (by decide) ?_
              obtain rfl := Option.some.inj hf
              exact ih1 v3 v4 v5 (v6 + 1) hk1 _ (lv_sub hl [1, 2, 3, 4, 5, 6, 0] rfl)
            · refine lv_aload_n hx hb dX6_longest_33 rfl (lv_at hl 0 rfl) ?_
              refine lv_iload hx hb dX6_longest_34 (lv_at hl 6 rfl) ?_
              refine lv_iload_n hx hb dX6_longest_36 rfl (lv_at hl 1 rfl) ?_
              obtain ⟨g37, hc, hf⟩ := ob_bind hf
              have hPc : va_P (dC, dI) vwCl (wMd cI cJ A x) s.heap := hP
              refine kg_retRi (va_runV (As := [.int v6, .int v1]) (rest := []) ⟨hx, hb, hml, hown, hts⟩ (c_X6_isBlockOf l dC dI cI cJ A s.heap x v6 v1 _ hc) (cwV 2 hts (gw_V wd_29_23 wd_29_20 wd_29_21 wd_29_22 wd_1_5) rfl rfl rfl qX6_isBlockOf ⟨Nat.le_of_ble_eq_true rfl, Nat.le_of_ble_eq_true rfl⟩) (kg_preVR (ci := 6) (q := (RX6, TX6, 30)) (q0 := 0) hPc hK hN rfl rfl) rfl rfl hl.1 rfl (lv_room (Nat.le_of_ble_eq_true rfl)) dX6_longest_37 ⟨Nat.zero_le _, Nat.zero_le _⟩) ?_
              refine kg_b_eq (tgt := 85) hx hb hf dX6_longest_40 (by decide) (fun hc hf => ?_) (fun hc hf => ?_)
              · refine lv_iinc (v := (v7 + 1)) (lv' := [(7, .int (v7 + 1)), (0, .ref (A 0)), (1, .int v1), (2, .int v2), (3, .int v3), (4, .int v4), (5, .int v5), (6, .int v6)]) hx hb dX6_longest_85 hl (k := 7) rfl rfl (by decide) rfl (fun ls hl => ?_)
                refine lv_goto (tgt := 24) hx hb dX6_longest_88 (by decide) ?_
                obtain rfl := Option.some.inj hf
                exact ih2 v3 v4 v5 (v7 + 1) hk2 _ (lv_sub hl [1, 2, 3, 4, 5, 6, 7, 0] rfl)
              · refine lv_aload_n hx hb dX6_longest_43 rfl (lv_at hl 0 rfl) ?_
                refine lv_iload hx hb dX6_longest_44 (lv_at hl 7 rfl) ?_
                refine lv_iload_n hx hb dX6_longest_46 rfl (lv_at hl 1 rfl) ?_
                obtain ⟨g47, hc, hf⟩ := ob_bind hf
                have hPc : va_P (dC, dI) vwCl (wMd cI cJ A x) s.heap := hP
                refine kg_retRi (va_runV (As := [.int v7, .int v1]) (rest := []) ⟨hx, hb, hml, hown, hts⟩ (c_X6_isBlockOf l dC dI cI cJ A s.heap x v7 v1 _ hc) (cwV 2 hts (gw_V wd_29_23 wd_29_20 wd_29_21 wd_29_22 wd_1_5) rfl rfl rfl qX6_isBlockOf ⟨Nat.le_of_ble_eq_true rfl, Nat.le_of_ble_eq_true rfl⟩) (kg_preVR (ci := 6) (q := (RX6, TX6, 30)) (q0 := 0) hPc hK hN rfl rfl) rfl rfl hl.1 rfl (lv_room (Nat.le_of_ble_eq_true rfl)) dX6_longest_47 ⟨Nat.zero_le _, Nat.zero_le _⟩) ?_
                refine kg_b_eq (tgt := 85) hx hb hf dX6_longest_50 (by decide) (fun hc hf => ?_) (fun hc hf => ?_)
                · refine lv_iinc (v := (v7 + 1)) (lv' := [(7, .int (v7 + 1)), (0, .ref (A 0)), (1, .int v1), (2, .int v2), (3, .int v3), (4, .int v4), (5, .int v5), (6, .int v6)]) hx hb dX6_longest_85 hl (k := 7) rfl rfl (by decide) rfl (fun ls hl => ?_)
                  refine lv_goto (tgt := 24) hx hb dX6_longest_88 (by decide) ?_
                  obtain rfl := Option.some.inj hf
                  exact ih2 v3 v4 v5 (v7 + 1) hk2 _ (lv_sub hl [1, 2, 3, 4, 5, 6, 7, 0] rfl)
                · refine lv_aload_n hx hb dX6_longest_53 rfl (lv_at hl 0 rfl) ?_
                  refine lv_iload hx hb dX6_longest_54 (lv_at hl 6 rfl) ?_
                  refine lv_iload hx hb dX6_longest_56 (lv_at hl 7 rfl) ?_
                  obtain ⟨g58, hc, hf⟩ := ob_bind hf
                  have hPc : va_P (dC, dI) vwCl (wMd cI cJ A x) s.heap := hP
                  refine kg_retRi (va_runV (As := [.int v6, .int v7]) (rest := []) ⟨hx, hb, hml, hown, hts⟩ (c_X6_apart l dC dI cI cJ A s.heap x v6 v7 _ hc) (cwV 2 hts (gw_V wd_31_3 wd_31_0 wd_31_1 wd_31_2 wd_1_5) rfl rfl rfl qX6_apart ⟨Nat.le_of_ble_eq_true rfl, Nat.le_of_ble_eq_true rfl⟩) (kg_preVR (ci := 6) (q := (RX6, TX6, 30)) (q0 := 0) hPc hK hN rfl rfl) rfl rfl hl.1 rfl (lv_room (Nat.le_of_ble_eq_true rfl)) dX6_longest_58 ⟨Nat.zero_le _, Nat.zero_le _⟩) ?_
                  refine lv_iload_n hx hb dX6_longest_61 rfl (lv_at hl 3 rfl) ?_
                  refine kg_icmp_gt (tgt := 68) hx hb hf dX6_longest_62 (by decide) (fun hc hf => ?_) (fun hc hf => ?_)
                  · refine lv_aload_n hx hb dX6_longest_68 rfl (lv_at hl 0 rfl) ?_
                    refine lv_iload hx hb dX6_longest_69 (lv_at hl 6 rfl) ?_
                    refine lv_iload hx hb dX6_longest_71 (lv_at hl 7 rfl) ?_
                    obtain ⟨g73, hc, hf⟩ := ob_bind hf
                    have hPc : va_P (dC, dI) vwCl (wMd cI cJ A x) s.heap := hP
                    refine kg_retRi (va_runV (As := [.int v6, .int v7]) (rest := []) ⟨hx, hb, hml, hown, hts⟩ (c_X6_apart l dC dI cI cJ A s.heap x v6 v7 _ hc) (cwV 2 hts (gw_V wd_31_3 wd_31_0 wd_31_1 wd_31_2 wd_1_5) rfl rfl rfl qX6_apart ⟨Nat.le_of_ble_eq_true rfl, Nat.le_of_ble_eq_true rfl⟩) (kg_preVR (ci := 6) (q := (RX6, TX6, 30)) (q0 := 0) hPc hK hN rfl rfl) rfl rfl hl.1 rfl (lv_room (Nat.le_of_ble_eq_true rfl)) dX6_longest_73 ⟨Nat.zero_le _, Nat.zero_le _⟩) ?_
                    refine lv_istore_n (lv' := [(3, .int g73), (0, .ref (A 0)), (1, .int v1), (2, .int v2), (4, .int v4), (5, .int v5), (6, .int v6), (7, .int v7)]) hx hb dX6_longest_76 rfl hl (by decide) rfl (fun ls hl => ?_)
                    refine lv_iload hx hb dX6_longest_77 (lv_at hl 6 rfl) ?_
                    refine lv_istore (lv' := [(4, .int v6), (3, .int g73), (0, .ref (A 0)), (1, .int v1), (2, .int v2), (5, .int v5), (6, .int v6), (7, .int v7)]) hx hb dX6_longest_79 hl (by decide) rfl (fun ls hl => ?_)
                    refine lv_iload hx hb dX6_longest_81 (lv_at hl 7 rfl) ?_
                    refine lv_istore (lv' := [(5, .int v7), (4, .int v6), (3, .int g73), (0, .ref (A 0)), (1, .int v1), (2, .int v2), (6, .int v6), (7, .int v7)]) hx hb dX6_longest_83 hl (by decide) rfl (fun ls hl => ?_)
                    refine lv_iinc (v := (v7 + 1)) (lv' := [(7, .int (v7 + 1)), (5, .int v7), (4, .int v6), (3, .int g73), (0, .ref (A 0)), (1, .int v1), (2, .int v2), (6, .int v6)]) hx hb dX6_longest_85 hl (k := 7) rfl rfl (by decide) rfl (fun ls hl => ?_)
                    refine lv_goto (tgt := 24) hx hb dX6_longest_88 (by decide) ?_
                    obtain rfl := Option.some.inj hf
                    exact ih2 g73 v6 v7 (v7 + 1) hk2 _ (lv_sub hl [4, 5, 6, 3, 2, 1, 7, 0] rfl)
                  · refine lv_goto (tgt := 85) hx hb dX6_longest_65 (by decide) ?_
                    refine lv_iinc (v := (v7 + 1)) (lv' := [(7, .int (v7 + 1)), (0, .ref (A 0)), (1, .int v1), (2, .int v2), (3, .int v3), (4, .int v4), (5, .int v5), (6, .int v6)]) hx hb dX6_longest_85 hl (k := 7) rfl rfl (by decide) rfl (fun ls hl => ?_)
                    refine lv_goto (tgt := 24) hx hb dX6_longest_88 (by decide) ?_
                    obtain rfl := Option.some.inj hf
                    exact ih2 v3 v4 v5 (v7 + 1) hk2 _ (lv_sub hl [1, 2, 3, 4, 5, 6, 7, 0] rfl)
        exact hlp24 v6 FU v3 v4 v5 v6 hf _ (lv_sub hl [1, 2, 3, 4, 5, 6, 7, 0] rfl)
  exact hlp11  FU (-1) 0 0 0 hf _ (lv_sub hl [4, 5, 6, 3, 2, 1, 0] rfl)
set_option maxHeartbeats 4000000 in
set_option maxRecDepth 100000 in
theorem c_X6_steps (l : Launch) (dC : Nat → ClassId) (dI : Nat → Nat → Nat) (cI cJ : ClassId) (A : Nat → Nat) (hq : Heap) (x : MdS) (v1 : Int32) (v2 : Int32) (v3 : Int32) (r0 : Int32) (hf : Md_m_steps x v1 v2 v3 = some r0) : MRi l yX6_steps (wAll yX6_steps cX6_steps 8 (some .int)) ({ frames := 2, cells := 0, slots := 0, locals := 62 } : Room) [.ref (A 0), .int v1, .int v2, .int v3] hq (dC, dI) (vTy cI cJ) (wMd cI cJ A x) r0 := by
  refine kg_metR (cc := cX6_steps) (maxL := 8) (ret := (some .int)) (by decide) rfl (Nat.le_of_ble_eq_true rfl) ?_
  intro p e s m args below meth c hx hb hr hts hown hlk hml hH hP hK hN ls hl
  subst hH
  have hl : lv_has ls 8 [(0, .ref (A 0)), (1, .int v1), (2, .int v2), (3, .int v3)] := hl
  have ww0 := hts (.fieldLink RX6 17 "SafeBlocksModel" "second" "[I") (List.mem_cons_of_mem _ wd_8_1)
  have ww1 := hts (.fieldLink RX6 13 "SafeBlocksModel" "first" "[I") (List.mem_cons_of_mem _ wd_8_0)
  have ww2 := hts (.fieldLink RX6 78 "SafeBlocksModel" "m" "I") (List.mem_cons_of_mem _ wd_9_6)
  have hiX6 : ∀ w ∈ u_ws RX6 TX6 30, w ∈ wAll yX6_steps cX6_steps 8 (some .int) := fun w h => List.mem_cons_of_mem _ (inlX6 w h)
  unfold Md_m_steps at hf
  refine lv_iconst (v := 1) hx hb dX6_steps_0 (by decide) ?_
  refine lv_iload_n hx hb dX6_steps_1 rfl (lv_at hl 1 rfl) ?_
  refine lv_ishl hx hb dX6_steps_2 ?_
  refine lv_istore (lv' := [(4, .int (1 <<< (v1 &&& 31))), (0, .ref (A 0)), (1, .int v1), (2, .int v2), (3, .int v3)]) hx hb dX6_steps_3 hl (by decide) rfl (fun ls hl => ?_)
  refine lv_iconst (v := 0) hx hb dX6_steps_5 (by decide) ?_
  refine lv_istore (lv' := [(5, .int 0), (4, .int (1 <<< (v1 &&& 31))), (0, .ref (A 0)), (1, .int v1), (2, .int v2), (3, .int v3)]) hx hb dX6_steps_6 hl (by decide) rfl (fun ls hl => ?_)
  have hlp8 : ∀ (n : Nat) (v4 : Int32) (v5 : Int32), iter (fun p : Int32 × Int32 => Md_m_steps_s8 x v2 v3 p.1 p.2) n (v4, v5) = some r0 → ∀ (ls : Array Slot), lv_has ls 8 [(0, .ref (A 0)), (2, .int v2), (3, .int v3), (4, .int v4), (5, .int v5)] → W p l e ({ frames := 2, cells := 0, slots := 0, locals := 62 } : Room) s m args below meth c s.heap [] 0 0 (MQ below (QRi s.heap r0) args s 0 0 NoA) (F0 m 8 ls []) := by
    intro  n
    induction n with
    | zero => intro v4 v5 hf; exact iter_zero hf
    | succ n ih1 =>
      intro v4 v5 hf ls hl
      obtain ⟨q1, hf, hk1⟩ := iter_succ hf
      have hf : Md_m_steps_s8 x v2 v3 v4 v5 = some q1 := hf
      unfold Md_m_steps_s8 at hf
      refine lv_aload_n hx hb dX6_steps_8 rfl (lv_at hl 0 rfl) ?_
      refine lv_iload hx hb dX6_steps_9 (lv_at hl 3 rfl) ?_
      refine lv_iload_n hx hb dX6_steps_11 rfl (lv_at hl 1 rfl) ?_
      obtain ⟨g12, hc, hf⟩ := ob_bind hf
      have hPc : va_P (dC, dI) vwCl (wMd cI cJ A x) s.heap := hP
      refine kg_retRi (va_runV (As := [.int v4, .int v2]) (rest := []) ⟨hx, hb, hml, hown, hts⟩ (c_X6_has l dC dI cI cJ A s.heap x v4 v2 _ hc) (cwV 2 hts (gw_V wd_14_13 wd_14_10 wd_14_11 wd_14_12 wd_1_5) rfl rfl rfl qX6_has ⟨Nat.le_of_ble_eq_true rfl, Nat.le_of_ble_eq_true rfl⟩) (kg_preVR (ci := 6) (q := (RX6, TX6, 30)) (q0 := 0) hPc hK hN rfl rfl) rfl rfl hl.1 rfl (lv_room (Nat.le_of_ble_eq_true rfl)) dX6_steps_12 ⟨Nat.zero_le _, Nat.zero_le _⟩) ?_
      refine kg_b_ne (tgt := 129) hx hb hf dX6_steps_15 (by decide) (fun hc hf => ?_) (fun hc hf => ?_)
      · obtain ⟨qq, hf, hqq⟩ := omap_some hf
        have hkq : qq = r0 := by rw [← hqq] at hk1; exact hk1
        rw [hkq] at hf
        clear hkq hqq
        refine lv_iload hx hb dX6_steps_129 (lv_at hl 4 rfl) ?_
        obtain rfl := Option.some.inj hf
        exact kg_iretR hx hb hr hlk rfl dX6_steps_131
      · refine lv_iload hx hb dX6_steps_18 (lv_at hl 4 rfl) ?_
        refine lv_bipush (v := 32) hx hb dX6_steps_20 (by decide) ?_
        refine kg_icmp_gt (tgt := 129) hx hb hf dX6_steps_22 (by decide) (fun hc hf => ?_) (fun hc hf => ?_)
        · obtain ⟨qq, hf, hqq⟩ := omap_some hf
          have hkq : qq = r0 := by rw [← hqq] at hk1; exact hk1
          rw [hkq] at hf
          clear hkq hqq
          refine lv_iload hx hb dX6_steps_129 (lv_at hl 4 rfl) ?_
          obtain rfl := Option.some.inj hf
          exact kg_iretR hx hb hr hlk rfl dX6_steps_131
        · refine lv_iload hx hb dX6_steps_25 (lv_at hl 3 rfl) ?_
          refine lv_istore (lv' := [(6, .int v4), (0, .ref (A 0)), (2, .int v2), (3, .int v3), (4, .int v4), (5, .int v5)]) hx hb dX6_steps_27 hl (by decide) rfl (fun ls hl => ?_)
          refine lv_iconst (v := 0) hx hb dX6_steps_29 (by decide) ?_
          refine lv_istore (lv' := [(7, .int 0), (6, .int v4), (0, .ref (A 0)), (2, .int v2), (3, .int v3), (4, .int v4), (5, .int v5)]) hx hb dX6_steps_30 hl (by decide) rfl (fun ls hl => ?_)
          have hlp32 : ∀ (v4 : Int32) (v5 : Int32), ∀ (n : Nat) (v6 : Int32) (v7 : Int32), iter (fun p : Int32 × Int32 => Md_m_steps_s32 x v2 v3 v4 v5 p.1 p.2) n (v6, v7) = some q1 → ∀ (ls : Array Slot), lv_has ls 8 [(0, .ref (A 0)), (2, .int v2), (3, .int v3), (4, .int v4), (5, .int v5), (6, .int v6), (7, .int v7)] → W p l e ({ frames := 2, cells := 0, slots := 0, locals := 62 } : Room) s m args below meth c s.heap [] 0 0 (MQ below (QRi s.heap r0) args s 0 0 NoA) (F0 m 32 ls []) := by
            intro v4 v5 n
            induction n with
            | zero => intro v6 v7 hf; exact iter_zero hf
            | succ n ih2 =>
              intro v6 v7 hf ls hl
              obtain ⟨q2, hf, hk2⟩ := iter_succ hf
              have hf : Md_m_steps_s32 x v2 v3 v4 v5 v6 v7 = some q2 := hf
              unfold Md_m_steps_s32 at hf
              have hj80 : ∀ (v6 : Int32) (v7 : Int32), Md_m_steps_j80 x v2 v3 v4 v5 v6 v7 = some q2 → ∀ (ls : Array Slot), lv_has ls 8 [(0, .ref (A 0)), (2, .int v2), (3, .int v3), (4, .int v4), (5, .int v5), (6, .int v6), (7, .int v7)] → W p l e ({ frames := 2, cells := 0, slots := 0, locals := 62 } : Room) s m args below meth c s.heap [] 0 0 (MQ below (QRi s.heap r0) args s 0 0 NoA) (F0 m 80 ls []) := by
                intro v6 v7 hf ls hl
                unfold Md_m_steps_j80 at hf
                refine lv_aload_n hx hb dX6_steps_80 rfl (lv_at hl 0 rfl) ?_
                refine lv_iload hx hb dX6_steps_81 (lv_at hl 3 rfl) ?_
                refine lv_aload_n hx hb dX6_steps_83 rfl (lv_at hl 0 rfl) ?_
                refine va_get (D := (dC, dI)) (ci := 6) (v := .ref (A 2)) (C := RX6) (T := TX6) (N := 30) hx hb hts hiX6 hown hK hP 0 rfl rfl 5 (by decide) ww0 (fun _ h9 => h9) rfl dX6_steps_84 ?_
                refine lv_iload hx hb dX6_steps_87 (lv_at hl 6 rfl) ?_
                obtain ⟨g89, hv, hf⟩ := ob_bind hf
                refine kg_iald hx hb hK hP 2 0 rfl rfl hv dX6_steps_89 ?_
                obtain ⟨g90, hc, hf⟩ := ob_bind hf
                have hPc : va_P (dC, dI) vwCl (wMd cI cJ A x) s.heap := hP
                refine kg_retRi (va_runV (As := [.int v4, .int g89]) (rest := []) ⟨hx, hb, hml, hown, hts⟩ (c_X6_has l dC dI cI cJ A s.heap x v4 g89 _ hc) (cwV 2 hts (gw_V wd_14_13 wd_14_10 wd_14_11 wd_14_12 wd_1_5) rfl rfl rfl qX6_has ⟨Nat.le_of_ble_eq_true rfl, Nat.le_of_ble_eq_true rfl⟩) (kg_preVR (ci := 6) (q := (RX6, TX6, 30)) (q0 := 0) hPc hK hN rfl rfl) rfl rfl hl.1 rfl (lv_room (Nat.le_of_ble_eq_true rfl)) dX6_steps_90 ⟨Nat.zero_le _, Nat.zero_le _⟩) ?_
                refine kg_b_eq (tgt := 110) hx hb hf dX6_steps_93 (by decide) (fun hc hf => ?_) (fun hc hf => ?_)
                · refine lv_iinc (v := (v7 + 1)) (lv' := [(7, .int (v7 + 1)), (0, .ref (A 0)), (2, .int v2), (3, .int v3), (4, .int v4), (5, .int v5), (6, .int v6)]) hx hb dX6_steps_110 hl (k := 6) rfl rfl (by decide) rfl (fun ls hl => ?_)
                  refine lv_goto (tgt := 32) hx hb dX6_steps_113 (by decide) ?_
                  obtain rfl := Option.some.inj hf
                  exact ih2 v6 (v7 + 1) hk2 _ (lv_sub hl [1, 2, 3, 4, 5, 6, 0] rfl)
                · refine lv_iload hx hb dX6_steps_96 (lv_at hl 5 rfl) ?_
                  refine lv_iconst (v := 1) hx hb dX6_steps_98 (by decide) ?_
                  refine lv_aload_n hx hb dX6_steps_99 rfl (lv_at hl 0 rfl) ?_
                  refine va_get (D := (dC, dI)) (ci := 6) (v := .ref (A 1)) (C := RX6) (T := TX6) (N := 30) hx hb hts hiX6 hown hK hP 0 rfl rfl 4 (by decide) ww1 (fun _ h9 => h9) rfl dX6_steps_100 ?_
                  refine lv_iload hx hb dX6_steps_103 (lv_at hl 6 rfl) ?_
                  obtain ⟨g105, hv, hf⟩ := ob_bind hf
                  refine kg_iald hx hb hK hP 1 0 rfl rfl hv dX6_steps_105 ?_
                  refine lv_ishl hx hb dX6_steps_106 ?_
                  refine lv_ior hx hb dX6_steps_107 ?_
                  refine lv_istore (lv' := [(6, .int (v6 ||| (1 <<< (g105 &&& 31)))), (0, .ref (A 0)), (2, .int v2), (3, .int v3), (4, .int v4), (5, .int v5), (7, .int v7)]) hx hb dX6_steps_108 hl (by decide) rfl (fun ls hl => ?_)
                  refine lv_iinc (v := (v7 + 1)) (lv' := [(7, .int (v7 + 1)), (6, .int (v6 ||| (1 <<< (g105 &&& 31)))), (0, .ref (A 0)), (2, .int v2), (3, .int v3), (4, .int v4), (5, .int v5)]) hx hb dX6_steps_110 hl (k := 6) rfl rfl (by decide) rfl (fun ls hl => ?_)
                  refine lv_goto (tgt := 32) hx hb dX6_steps_113 (by decide) ?_
                  obtain rfl := Option.some.inj hf
                  exact ih2 (v6 ||| (1 <<< (g105 &&& 31))) (v7 + 1) hk2 _ (lv_sub hl [2, 3, 4, 5, 6, 1, 0] rfl)
              refine lv_iload hx hb dX6_steps_32 (lv_at hl 6 rfl) ?_
              refine lv_aload_n hx hb dX6_steps_34 rfl (lv_at hl 0 rfl) ?_
              refine va_get (D := (dC, dI)) (ci := 6) (v := .int (Md_m x)) (C := RX6) (T := TX6) (N := 30) hx hb hts hiX6 hown hK hP 0 rfl rfl 2 (by decide) ww2 (fun _ h9 => h9) rfl dX6_steps_35 ?_
              refine kg_icmp_ge (tgt := 116) hx hb hf dX6_steps_38 (by decide) (fun hc hf => ?_) (fun hc hf => ?_)
              · obtain ⟨qq, hf, hqq⟩ := omap_some hf
                have hkq : qq = q1 := by rw [← hqq] at hk2; exact hk2
                rw [hkq] at hf
                clear hkq hqq
                refine lv_iload hx hb dX6_steps_116 (lv_at hl 5 rfl) ?_
                refine lv_istore (lv' := [(4, .int v6), (0, .ref (A 0)), (2, .int v2), (3, .int v3), (5, .int v5), (6, .int v6), (7, .int v7)]) hx hb dX6_steps_118 hl (by decide) rfl (fun ls hl => ?_)
                refine lv_iload hx hb dX6_steps_120 (lv_at hl 4 rfl) ?_
                refine lv_iconst (v := 1) hx hb dX6_steps_122 (by decide) ?_
                refine lv_iadd hx hb dX6_steps_123 ?_
                refine lv_istore (lv' := [(5, .int (v5 + 1)), (4, .int v6), (0, .ref (A 0)), (2, .int v2), (3, .int v3), (6, .int v6), (7, .int v7)]) hx hb dX6_steps_124 hl (by decide) rfl (fun ls hl => ?_)
                refine lv_goto (tgt := 8) hx hb dX6_steps_126 (by decide) ?_
                obtain rfl := Option.some.inj hf
                exact ih1 v6 (v5 + 1) hk1 _ (lv_sub hl [2, 3, 4, 1, 0] rfl)
              · refine lv_iload hx hb dX6_steps_41 (lv_at hl 6 rfl) ?_
                refine lv_iload_n hx hb dX6_steps_43 rfl (lv_at hl 2 rfl) ?_
                refine kg_icmp_ne (tgt := 50) hx hb hf dX6_steps_44 (by decide) (fun hc hf => ?_) (fun hc hf => ?_)
                · refine lv_aload_n hx hb dX6_steps_50 rfl (lv_at hl 0 rfl) ?_
                  refine lv_iload hx hb dX6_steps_51 (lv_at hl 3 rfl) ?_
                  refine lv_aload_n hx hb dX6_steps_53 rfl (lv_at hl 0 rfl) ?_
                  refine va_get (D := (dC, dI)) (ci := 6) (v := .ref (A 1)) (C := RX6) (T := TX6) (N := 30) hx hb hts hiX6 hown hK hP 0 rfl rfl 4 (by decide) ww1 (fun _ h9 => h9) rfl dX6_steps_54 ?_
                  refine lv_iload hx hb dX6_steps_57 (lv_at hl 6 rfl) ?_
                  obtain ⟨g59, hv, hf⟩ := ob_bind hf
                  refine kg_iald hx hb hK hP 1 0 rfl rfl hv dX6_steps_59 ?_
                  obtain ⟨g60, hc, hf⟩ := ob_bind hf
                  have hPc : va_P (dC, dI) vwCl (wMd cI cJ A x) s.heap := hP
                  refine kg_retRi (va_runV (As := [.int v4, .int g59]) (rest := []) ⟨hx, hb, hml, hown, hts⟩ (c_X6_has l dC dI cI cJ A s.heap x v4 g59 _ hc) (cwV 2 hts (gw_V wd_14_13 wd_14_10 wd_14_11 wd_14_12 wd_1_5) rfl rfl rfl qX6_has ⟨Nat.le_of_ble_eq_true rfl, Nat.le_of_ble_eq_true rfl⟩) (kg_preVR (ci := 6) (q := (RX6, TX6, 30)) (q0 := 0) hPc hK hN rfl rfl) rfl rfl hl.1 rfl (lv_room (Nat.le_of_ble_eq_true rfl)) dX6_steps_60 ⟨Nat.zero_le _, Nat.zero_le _⟩) ?_
                  refine kg_b_eq (tgt := 80) hx hb hf dX6_steps_63 (by decide) (fun hc hf => ?_) (fun hc hf => ?_)
                  · exact hj80 v6 v7 hf _ (lv_sub hl [0, 1, 2, 3, 4, 5, 6] rfl)
                  · refine lv_iload hx hb dX6_steps_66 (lv_at hl 5 rfl) ?_
                    refine lv_iconst (v := 1) hx hb dX6_steps_68 (by decide) ?_
                    refine lv_aload_n hx hb dX6_steps_69 rfl (lv_at hl 0 rfl) ?_
                    refine va_get (D := (dC, dI)) (ci := 6) (v := .ref (A 2)) (C := RX6) (T := TX6) (N := 30) hx hb hts hiX6 hown hK hP 0 rfl rfl 5 (by decide) ww0 (fun _ h9 => h9) rfl dX6_steps_70 ?_
                    refine lv_iload hx hb dX6_steps_73 (lv_at hl 6 rfl) ?_
                    obtain ⟨g75, hv, hf⟩ := ob_bind hf
                    refine kg_iald hx hb hK hP 2 0 rfl rfl hv dX6_steps_75 ?_
                    refine lv_ishl hx hb dX6_steps_76 ?_
                    refine lv_ior hx hb dX6_steps_77 ?_
                    refine lv_istore (lv' := [(6, .int (v6 ||| (1 <<< (g75 &&& 31)))), (0, .ref (A 0)), (2, .int v2), (3, .int v3), (4, .int v4), (5, .int v5), (7, .int v7)]) hx hb dX6_steps_78 hl (by decide) rfl (fun ls hl => ?_)
                    exact hj80 (v6 ||| (1 <<< (g75 &&& 31))) v7 hf _ (lv_sub hl [1, 2, 3, 4, 5, 0, 6] rfl)
                · refine lv_goto (tgt := 110) hx hb dX6_steps_47 (by decide) ?_
                  refine lv_iinc (v := (v7 + 1)) (lv' := [(7, .int (v7 + 1)), (0, .ref (A 0)), (2, .int v2), (3, .int v3), (4, .int v4), (5, .int v5), (6, .int v6)]) hx hb dX6_steps_110 hl (k := 6) rfl rfl (by decide) rfl (fun ls hl => ?_)
                  refine lv_goto (tgt := 32) hx hb dX6_steps_113 (by decide) ?_
                  obtain rfl := Option.some.inj hf
                  exact ih2 v6 (v7 + 1) hk2 _ (lv_sub hl [1, 2, 3, 4, 5, 6, 0] rfl)
          exact hlp32 v4 v5 FU v4 0 hf _ (lv_sub hl [2, 3, 4, 5, 6, 1, 0] rfl)
  exact hlp8  FU (1 <<< (v1 &&& 31)) 0 hf _ (lv_sub hl [2, 4, 5, 1, 0] rfl)
set_option maxHeartbeats 4000000 in
set_option maxRecDepth 100000 in
theorem c_X6_endedIf (l : Launch) (dC : Nat → ClassId) (dI : Nat → Nat → Nat) (cI cJ : ClassId) (A : Nat → Nat) (hq : Heap) (x : MdS) (v1 : Int32) (v2 : Int32) (r0 : Int32) (hf : Md_m_endedIf x v1 v2 = some r0) : MRi l yX6_endedIf (wAll yX6_endedIf cX6_endedIf 3 (some .int)) ({ frames := 4, cells := 0, slots := 0, locals := 110 } : Room) [.ref (A 0), .int v1, .int v2] hq (dC, dI) (vTy cI cJ) (wMd cI cJ A x) r0 := by
  refine kg_metR (cc := cX6_endedIf) (maxL := 3) (ret := (some .int)) (by decide) rfl (Nat.le_of_ble_eq_true rfl) ?_
  intro p e s m args below meth c hx hb hr hts hown hlk hml hH hP hK hN ls hl
  subst hH
  have hl : lv_has ls 3 [(0, .ref (A 0)), (1, .int v1), (2, .int v2)] := hl
  unfold Md_m_endedIf at hf
  refine lv_aload_n hx hb dX6_endedIf_0 rfl (lv_at hl 0 rfl) ?_
  refine lv_iload_n hx hb dX6_endedIf_1 rfl (lv_at hl 1 rfl) ?_
  obtain ⟨g2, hc, hf⟩ := ob_bind hf
  have hPc : va_P (dC, dI) vwCl (wMd cI cJ A x) s.heap := hP
  refine kg_retRi (va_runV (As := [.int v1]) (rest := []) ⟨hx, hb, hml, hown, hts⟩ (c_X6_landOf l dC dI cI cJ A s.heap x v1 _ hc) (cwV 1 hts (gw_V wd_13_17 wd_13_14 wd_13_15 wd_13_16 wd_1_5) rfl rfl rfl qX6_landOf ⟨Nat.le_of_ble_eq_true rfl, Nat.le_of_ble_eq_true rfl⟩) (kg_preVR (ci := 6) (q := (RX6, TX6, 30)) (q0 := 0) hPc hK hN rfl rfl) rfl rfl hl.1 rfl (lv_room (Nat.le_of_ble_eq_true rfl)) dX6_endedIf_2 ⟨Nat.zero_le _, Nat.zero_le _⟩) ?_
  refine lv_aload_n hx hb dX6_endedIf_5 rfl (lv_at hl 0 rfl) ?_
  refine lv_iload_n hx hb dX6_endedIf_6 rfl (lv_at hl 2 rfl) ?_
  obtain ⟨g7, hc, hf⟩ := ob_bind hf
  have hPc : va_P (dC, dI) vwCl (wMd cI cJ A x) s.heap := hP
  refine kg_retRi (va_runV (As := [.int v2]) (rest := [.int g2]) ⟨hx, hb, hml, hown, hts⟩ (c_X6_landOf l dC dI cI cJ A s.heap x v2 _ hc) (cwV 1 hts (gw_V wd_13_17 wd_13_14 wd_13_15 wd_13_16 wd_1_5) rfl rfl rfl qX6_landOf ⟨Nat.le_of_ble_eq_true rfl, Nat.le_of_ble_eq_true rfl⟩) (kg_preVR (ci := 6) (q := (RX6, TX6, 30)) (q0 := 0) hPc hK hN rfl rfl) rfl rfl hl.1 rfl (lv_room (Nat.le_of_ble_eq_true rfl)) dX6_endedIf_7 ⟨Nat.zero_le _, Nat.zero_le _⟩) ?_
  refine kg_icmp_ne (tgt := 30) hx hb hf dX6_endedIf_10 (by decide) (fun hc hf => ?_) (fun hc hf => ?_)
  · refine lv_iconst (v := 0) hx hb dX6_endedIf_30 (by decide) ?_
    obtain rfl := Option.some.inj hf
    exact kg_iretR hx hb hr hlk rfl dX6_endedIf_31
  · refine lv_aload_n hx hb dX6_endedIf_13 rfl (lv_at hl 0 rfl) ?_
    refine lv_aload_n hx hb dX6_endedIf_14 rfl (lv_at hl 0 rfl) ?_
    refine lv_iload_n hx hb dX6_endedIf_15 rfl (lv_at hl 1 rfl) ?_
    obtain ⟨g16, hc, hf⟩ := ob_bind hf
    have hPc : va_P (dC, dI) vwCl (wMd cI cJ A x) s.heap := hP
    refine kg_retRi (va_runV (As := [.int v1]) (rest := [.ref (A 0)]) ⟨hx, hb, hml, hown, hts⟩ (c_X6_blockAt l dC dI cI cJ A s.heap x v1 _ hc) (cwV 1 hts (gw_V wd_13_13 wd_13_10 wd_13_11 wd_13_12 wd_1_5) rfl rfl rfl qX6_blockAt ⟨Nat.le_of_ble_eq_true rfl, Nat.le_of_ble_eq_true rfl⟩) (kg_preVR (ci := 6) (q := (RX6, TX6, 30)) (q0 := 0) hPc hK hN rfl rfl) rfl rfl hl.1 rfl (lv_room (Nat.le_of_ble_eq_true rfl)) dX6_endedIf_16 ⟨Nat.zero_le _, Nat.zero_le _⟩) ?_
    refine lv_aload_n hx hb dX6_endedIf_19 rfl (lv_at hl 0 rfl) ?_
    refine lv_iload_n hx hb dX6_endedIf_20 rfl (lv_at hl 2 rfl) ?_
    obtain ⟨g21, hc, hf⟩ := ob_bind hf
    have hPc : va_P (dC, dI) vwCl (wMd cI cJ A x) s.heap := hP
    refine kg_retRi (va_runV (As := [.int v2]) (rest := [.int g16, .ref (A 0)]) ⟨hx, hb, hml, hown, hts⟩ (c_X6_blockAt l dC dI cI cJ A s.heap x v2 _ hc) (cwV 1 hts (gw_V wd_13_13 wd_13_10 wd_13_11 wd_13_12 wd_1_5) rfl rfl rfl qX6_blockAt ⟨Nat.le_of_ble_eq_true rfl, Nat.le_of_ble_eq_true rfl⟩) (kg_preVR (ci := 6) (q := (RX6, TX6, 30)) (q0 := 0) hPc hK hN rfl rfl) rfl rfl hl.1 rfl (lv_room (Nat.le_of_ble_eq_true rfl)) dX6_endedIf_21 ⟨Nat.zero_le _, Nat.zero_le _⟩) ?_
    obtain ⟨g24, hc, hf⟩ := ob_bind hf
    have hPc : va_P (dC, dI) vwCl (wMd cI cJ A x) s.heap := hP
    refine kg_retRi (va_runV (As := [.int g16, .int g21]) (rest := []) ⟨hx, hb, hml, hown, hts⟩ (c_X6_apart l dC dI cI cJ A s.heap x g16 g21 _ hc) (cwV 2 hts (gw_V wd_31_3 wd_31_0 wd_31_1 wd_31_2 wd_1_5) rfl rfl rfl qX6_apart ⟨Nat.le_of_ble_eq_true rfl, Nat.le_of_ble_eq_true rfl⟩) (kg_preVR (ci := 6) (q := (RX6, TX6, 30)) (q0 := 0) hPc hK hN rfl rfl) rfl rfl hl.1 rfl (lv_room (Nat.le_of_ble_eq_true rfl)) dX6_endedIf_24 ⟨Nat.zero_le _, Nat.zero_le _⟩) ?_
    refine lv_goto (tgt := 31) hx hb dX6_endedIf_27 (by decide) ?_
    obtain rfl := Option.some.inj hf
    exact kg_iretR hx hb hr hlk rfl dX6_endedIf_31
set_option maxHeartbeats 4000000 in
set_option maxRecDepth 100000 in
theorem c_X6_blocksIf (l : Launch) (dC : Nat → ClassId) (dI : Nat → Nat → Nat) (cI cJ : ClassId) (A : Nat → Nat) (hq : Heap) (x : MdS) (v1 : Int32) (v2 : Int32) (r0 : Int32) (hf : Md_m_blocksIf x v1 v2 = some r0) : MRi l yX6_blocksIf (wAll yX6_blocksIf cX6_blocksIf 3 (some .int)) ({ frames := 3, cells := 0, slots := 0, locals := 88 } : Room) [.ref (A 0), .int v1, .int v2] hq (dC, dI) (vTy cI cJ) (wMd cI cJ A x) r0 := by
  refine kg_metR (cc := cX6_blocksIf) (maxL := 3) (ret := (some .int)) (by decide) rfl (Nat.le_of_ble_eq_true rfl) ?_
  intro p e s m args below meth c hx hb hr hts hown hlk hml hH hP hK hN ls hl
  subst hH
  have hl : lv_has ls 3 [(0, .ref (A 0)), (1, .int v1), (2, .int v2)] := hl
  unfold Md_m_blocksIf at hf
  refine lv_aload_n hx hb dX6_blocksIf_0 rfl (lv_at hl 0 rfl) ?_
  refine lv_iload_n hx hb dX6_blocksIf_1 rfl (lv_at hl 1 rfl) ?_
  obtain ⟨g2, hc, hf⟩ := ob_bind hf
  have hPc : va_P (dC, dI) vwCl (wMd cI cJ A x) s.heap := hP
  refine kg_retRi (va_runV (As := [.int v1]) (rest := []) ⟨hx, hb, hml, hown, hts⟩ (c_X6_landOf l dC dI cI cJ A s.heap x v1 _ hc) (cwV 1 hts (gw_V wd_13_17 wd_13_14 wd_13_15 wd_13_16 wd_1_5) rfl rfl rfl qX6_landOf ⟨Nat.le_of_ble_eq_true rfl, Nat.le_of_ble_eq_true rfl⟩) (kg_preVR (ci := 6) (q := (RX6, TX6, 30)) (q0 := 0) hPc hK hN rfl rfl) rfl rfl hl.1 rfl (lv_room (Nat.le_of_ble_eq_true rfl)) dX6_blocksIf_2 ⟨Nat.zero_le _, Nat.zero_le _⟩) ?_
  refine lv_aload_n hx hb dX6_blocksIf_5 rfl (lv_at hl 0 rfl) ?_
  refine lv_iload_n hx hb dX6_blocksIf_6 rfl (lv_at hl 2 rfl) ?_
  obtain ⟨g7, hc, hf⟩ := ob_bind hf
  have hPc : va_P (dC, dI) vwCl (wMd cI cJ A x) s.heap := hP
  refine kg_retRi (va_runV (As := [.int v2]) (rest := [.int g2]) ⟨hx, hb, hml, hown, hts⟩ (c_X6_landOf l dC dI cI cJ A s.heap x v2 _ hc) (cwV 1 hts (gw_V wd_13_17 wd_13_14 wd_13_15 wd_13_16 wd_1_5) rfl rfl rfl qX6_landOf ⟨Nat.le_of_ble_eq_true rfl, Nat.le_of_ble_eq_true rfl⟩) (kg_preVR (ci := 6) (q := (RX6, TX6, 30)) (q0 := 0) hPc hK hN rfl rfl) rfl rfl hl.1 rfl (lv_room (Nat.le_of_ble_eq_true rfl)) dX6_blocksIf_7 ⟨Nat.zero_le _, Nat.zero_le _⟩) ?_
  refine kg_icmp_ne (tgt := 30) hx hb hf dX6_blocksIf_10 (by decide) (fun hc hf => ?_) (fun hc hf => ?_)
  · refine lv_iconst (v := 1) hx hb dX6_blocksIf_30 (by decide) ?_
    refine lv_aload_n hx hb dX6_blocksIf_31 rfl (lv_at hl 0 rfl) ?_
    refine lv_iload_n hx hb dX6_blocksIf_32 rfl (lv_at hl 1 rfl) ?_
    obtain ⟨g33, hc, hf⟩ := ob_bind hf
    have hPc : va_P (dC, dI) vwCl (wMd cI cJ A x) s.heap := hP
    refine kg_retRi (va_runV (As := [.int v1]) (rest := [.int 1]) ⟨hx, hb, hml, hown, hts⟩ (c_X6_blockAt l dC dI cI cJ A s.heap x v1 _ hc) (cwV 1 hts (gw_V wd_13_13 wd_13_10 wd_13_11 wd_13_12 wd_1_5) rfl rfl rfl qX6_blockAt ⟨Nat.le_of_ble_eq_true rfl, Nat.le_of_ble_eq_true rfl⟩) (kg_preVR (ci := 6) (q := (RX6, TX6, 30)) (q0 := 0) hPc hK hN rfl rfl) rfl rfl hl.1 rfl (lv_room (Nat.le_of_ble_eq_true rfl)) dX6_blocksIf_33 ⟨Nat.zero_le _, Nat.zero_le _⟩) ?_
    refine lv_ishl hx hb dX6_blocksIf_36 ?_
    obtain rfl := Option.some.inj hf
    exact kg_iretR hx hb hr hlk rfl dX6_blocksIf_37
  · refine lv_aload_n hx hb dX6_blocksIf_13 rfl (lv_at hl 0 rfl) ?_
    refine lv_aload_n hx hb dX6_blocksIf_14 rfl (lv_at hl 0 rfl) ?_
    refine lv_iload_n hx hb dX6_blocksIf_15 rfl (lv_at hl 1 rfl) ?_
    obtain ⟨g16, hc, hf⟩ := ob_bind hf
    have hPc : va_P (dC, dI) vwCl (wMd cI cJ A x) s.heap := hP
    refine kg_retRi (va_runV (As := [.int v1]) (rest := [.ref (A 0)]) ⟨hx, hb, hml, hown, hts⟩ (c_X6_blockAt l dC dI cI cJ A s.heap x v1 _ hc) (cwV 1 hts (gw_V wd_13_13 wd_13_10 wd_13_11 wd_13_12 wd_1_5) rfl rfl rfl qX6_blockAt ⟨Nat.le_of_ble_eq_true rfl, Nat.le_of_ble_eq_true rfl⟩) (kg_preVR (ci := 6) (q := (RX6, TX6, 30)) (q0 := 0) hPc hK hN rfl rfl) rfl rfl hl.1 rfl (lv_room (Nat.le_of_ble_eq_true rfl)) dX6_blocksIf_16 ⟨Nat.zero_le _, Nat.zero_le _⟩) ?_
    refine lv_aload_n hx hb dX6_blocksIf_19 rfl (lv_at hl 0 rfl) ?_
    refine lv_iload_n hx hb dX6_blocksIf_20 rfl (lv_at hl 2 rfl) ?_
    obtain ⟨g21, hc, hf⟩ := ob_bind hf
    have hPc : va_P (dC, dI) vwCl (wMd cI cJ A x) s.heap := hP
    refine kg_retRi (va_runV (As := [.int v2]) (rest := [.int g16, .ref (A 0)]) ⟨hx, hb, hml, hown, hts⟩ (c_X6_blockAt l dC dI cI cJ A s.heap x v2 _ hc) (cwV 1 hts (gw_V wd_13_13 wd_13_10 wd_13_11 wd_13_12 wd_1_5) rfl rfl rfl qX6_blockAt ⟨Nat.le_of_ble_eq_true rfl, Nat.le_of_ble_eq_true rfl⟩) (kg_preVR (ci := 6) (q := (RX6, TX6, 30)) (q0 := 0) hPc hK hN rfl rfl) rfl rfl hl.1 rfl (lv_room (Nat.le_of_ble_eq_true rfl)) dX6_blocksIf_21 ⟨Nat.zero_le _, Nat.zero_le _⟩) ?_
    obtain ⟨g24, hc, hf⟩ := ob_bind hf
    have hPc : va_P (dC, dI) vwCl (wMd cI cJ A x) s.heap := hP
    refine kg_retRi (va_runV (As := [.int g16, .int g21]) (rest := []) ⟨hx, hb, hml, hown, hts⟩ (c_X6_onWay l dC dI cI cJ A s.heap x g16 g21 _ hc) (cwV 2 hts (gw_V wd_14_17 wd_14_14 wd_14_15 wd_14_16 wd_1_5) rfl rfl rfl qX6_onWay ⟨Nat.le_of_ble_eq_true rfl, Nat.le_of_ble_eq_true rfl⟩) (kg_preVR (ci := 6) (q := (RX6, TX6, 30)) (q0 := 0) hPc hK hN rfl rfl) rfl rfl hl.1 rfl (lv_room (Nat.le_of_ble_eq_true rfl)) dX6_blocksIf_24 ⟨Nat.zero_le _, Nat.zero_le _⟩) ?_
    refine lv_goto (tgt := 37) hx hb dX6_blocksIf_27 (by decide) ?_
    obtain rfl := Option.some.inj hf
    exact kg_iretR hx hb hr hlk rfl dX6_blocksIf_37
set_option maxHeartbeats 4000000 in
set_option maxRecDepth 100000 in
theorem c_X6_nameIf (l : Launch) (dC : Nat → ClassId) (dI : Nat → Nat → Nat) (cI cJ : ClassId) (A : Nat → Nat) (hq : Heap) (x : MdS) (v1 : Int32) (v2 : Int32) (r0 : Int32) (hf : Md_m_nameIf x v1 v2 = some r0) : MRi l yX6_nameIf (wAll yX6_nameIf cX6_nameIf 5 (some .int)) ({ frames := 2, cells := 0, slots := 0, locals := 64 } : Room) [.ref (A 0), .int v1, .int v2] hq (dC, dI) (vTy cI cJ) (wMd cI cJ A x) r0 := by
  refine kg_metR (cc := cX6_nameIf) (maxL := 5) (ret := (some .int)) (by decide) rfl (Nat.le_of_ble_eq_true rfl) ?_
  intro p e s m args below meth c hx hb hr hts hown hlk hml hH hP hK hN ls hl
  subst hH
  have hl : lv_has ls 5 [(0, .ref (A 0)), (1, .int v1), (2, .int v2)] := hl
  have ww0 := hts (.fieldLink RX6 7 "SafeBlocksModel" "n" "I") (List.mem_cons_of_mem _ wd_7_23)
  have hiX6 : ∀ w ∈ u_ws RX6 TX6 30, w ∈ wAll yX6_nameIf cX6_nameIf 5 (some .int) := fun w h => List.mem_cons_of_mem _ (inlX6 w h)
  unfold Md_m_nameIf at hf
  refine lv_iconst (v := (-1)) hx hb dX6_nameIf_0 (by decide) ?_
  refine lv_istore_n (lv' := [(3, .int (-1)), (0, .ref (A 0)), (1, .int v1), (2, .int v2)]) hx hb dX6_nameIf_1 rfl hl (by decide) rfl (fun ls hl => ?_)
  refine lv_iconst (v := 0) hx hb dX6_nameIf_2 (by decide) ?_
  refine lv_istore (lv' := [(4, .int 0), (3, .int (-1)), (0, .ref (A 0)), (1, .int v1), (2, .int v2)]) hx hb dX6_nameIf_3 hl (by decide) rfl (fun ls hl => ?_)
  have hlp5 : ∀ (n : Nat) (v3 : Int32) (v4 : Int32), iter (fun p : Int32 × Int32 => Md_m_nameIf_s5 x v1 v2 p.1 p.2) n (v3, v4) = some r0 → ∀ (ls : Array Slot), lv_has ls 5 [(0, .ref (A 0)), (1, .int v1), (2, .int v2), (3, .int v3), (4, .int v4)] → W p l e ({ frames := 2, cells := 0, slots := 0, locals := 64 } : Room) s m args below meth c s.heap [] 0 0 (MQ below (QRi s.heap r0) args s 0 0 NoA) (F0 m 5 ls []) := by
    intro  n
    induction n with
    | zero => intro v3 v4 hf; exact iter_zero hf
    | succ n ih1 =>
      intro v3 v4 hf ls hl
      obtain ⟨q1, hf, hk1⟩ := iter_succ hf
      have hf : Md_m_nameIf_s5 x v1 v2 v3 v4 = some q1 := hf
      unfold Md_m_nameIf_s5 at hf
      refine lv_iload hx hb dX6_nameIf_5 (lv_at hl 4 rfl) ?_
      refine lv_aload_n hx hb dX6_nameIf_7 rfl (lv_at hl 0 rfl) ?_
      refine va_get (D := (dC, dI)) (ci := 6) (v := .int (Md_n x)) (C := RX6) (T := TX6) (N := 30) hx hb hts hiX6 hown hK hP 0 rfl rfl 1 (by decide) ww0 (fun _ h9 => h9) rfl dX6_nameIf_8 ?_
      refine kg_icmp_ge (tgt := 54) hx hb hf dX6_nameIf_11 (by decide) (fun hc hf => ?_) (fun hc hf => ?_)
      · obtain ⟨qq, hf, hqq⟩ := omap_some hf
        have hkq : qq = r0 := by rw [← hqq] at hk1; exact hk1
        rw [hkq] at hf
        clear hkq hqq
        refine lv_iload_n hx hb dX6_nameIf_54 rfl (lv_at hl 3 rfl) ?_
        obtain rfl := Option.some.inj hf
        exact kg_iretR hx hb hr hlk rfl dX6_nameIf_55
      · refine lv_aload_n hx hb dX6_nameIf_14 rfl (lv_at hl 0 rfl) ?_
        refine lv_iload_n hx hb dX6_nameIf_15 rfl (lv_at hl 2 rfl) ?_
        refine lv_iload hx hb dX6_nameIf_16 (lv_at hl 4 rfl) ?_
        obtain ⟨g18, hc, hf⟩ := ob_bind hf
        have hPc : va_P (dC, dI) vwCl (wMd cI cJ A x) s.heap := hP
        refine kg_retRi (va_runV (As := [.int v2, .int v4]) (rest := []) ⟨hx, hb, hml, hown, hts⟩ (c_X6_has l dC dI cI cJ A s.heap x v2 v4 _ hc) (cwV 2 hts (gw_V wd_14_13 wd_14_10 wd_14_11 wd_14_12 wd_1_5) rfl rfl rfl qX6_has ⟨Nat.le_of_ble_eq_true rfl, Nat.le_of_ble_eq_true rfl⟩) (kg_preVR (ci := 6) (q := (RX6, TX6, 30)) (q0 := 0) hPc hK hN rfl rfl) rfl rfl hl.1 rfl (lv_room (Nat.le_of_ble_eq_true rfl)) dX6_nameIf_18 ⟨Nat.zero_le _, Nat.zero_le _⟩) ?_
        refine kg_b_eq (tgt := 48) hx hb hf dX6_nameIf_21 (by decide) (fun hc hf => ?_) (fun hc hf => ?_)
        · refine lv_iinc (v := (v4 + 1)) (lv' := [(4, .int (v4 + 1)), (0, .ref (A 0)), (1, .int v1), (2, .int v2), (3, .int v3)]) hx hb dX6_nameIf_48 hl (k := 4) rfl rfl (by decide) rfl (fun ls hl => ?_)
          refine lv_goto (tgt := 5) hx hb dX6_nameIf_51 (by decide) ?_
          obtain rfl := Option.some.inj hf
          exact ih1 v3 (v4 + 1) hk1 _ (lv_sub hl [1, 2, 3, 4, 0] rfl)
        · refine lv_iload_n hx hb dX6_nameIf_24 rfl (lv_at hl 3 rfl) ?_
          refine lv_iconst (v := (-1)) hx hb dX6_nameIf_25 (by decide) ?_
          refine kg_icmp_eq (tgt := 45) hx hb hf dX6_nameIf_26 (by decide) (fun hc hf => ?_) (fun hc hf => ?_)
          · refine lv_iload hx hb dX6_nameIf_45 (lv_at hl 4 rfl) ?_
            refine lv_istore_n (lv' := [(3, .int v4), (0, .ref (A 0)), (1, .int v1), (2, .int v2), (4, .int v4)]) hx hb dX6_nameIf_47 rfl hl (by decide) rfl (fun ls hl => ?_)
            refine lv_iinc (v := (v4 + 1)) (lv' := [(4, .int (v4 + 1)), (3, .int v4), (0, .ref (A 0)), (1, .int v1), (2, .int v2)]) hx hb dX6_nameIf_48 hl (k := 4) rfl rfl (by decide) rfl (fun ls hl => ?_)
            refine lv_goto (tgt := 5) hx hb dX6_nameIf_51 (by decide) ?_
            obtain rfl := Option.some.inj hf
            exact ih1 v4 (v4 + 1) hk1 _ (lv_sub hl [2, 3, 4, 1, 0] rfl)
          · refine lv_aload_n hx hb dX6_nameIf_29 rfl (lv_at hl 0 rfl) ?_
            refine lv_iload_n hx hb dX6_nameIf_30 rfl (lv_at hl 1 rfl) ?_
            refine lv_iload hx hb dX6_nameIf_31 (lv_at hl 4 rfl) ?_
            obtain ⟨g33, hc, hf⟩ := ob_bind hf
            have hPc : va_P (dC, dI) vwCl (wMd cI cJ A x) s.heap := hP
            refine kg_retRi (va_runV (As := [.int v1, .int v4]) (rest := []) ⟨hx, hb, hml, hown, hts⟩ (c_X6_sizeOf l dC dI cI cJ A s.heap x v1 v4 _ hc) (cwV 2 hts (gw_V wd_13_21 wd_13_18 wd_13_19 wd_13_20 wd_1_5) rfl rfl rfl qX6_sizeOf ⟨Nat.le_of_ble_eq_true rfl, Nat.le_of_ble_eq_true rfl⟩) (kg_preVR (ci := 6) (q := (RX6, TX6, 30)) (q0 := 0) hPc hK hN rfl rfl) rfl rfl hl.1 rfl (lv_room (Nat.le_of_ble_eq_true rfl)) dX6_nameIf_33 ⟨Nat.zero_le _, Nat.zero_le _⟩) ?_
            refine lv_aload_n hx hb dX6_nameIf_36 rfl (lv_at hl 0 rfl) ?_
            refine lv_iload_n hx hb dX6_nameIf_37 rfl (lv_at hl 1 rfl) ?_
            refine lv_iload_n hx hb dX6_nameIf_38 rfl (lv_at hl 3 rfl) ?_
            obtain ⟨g39, hc, hf⟩ := ob_bind hf
            have hPc : va_P (dC, dI) vwCl (wMd cI cJ A x) s.heap := hP
            refine kg_retRi (va_runV (As := [.int v1, .int v3]) (rest := [.int g33]) ⟨hx, hb, hml, hown, hts⟩ (c_X6_sizeOf l dC dI cI cJ A s.heap x v1 v3 _ hc) (cwV 2 hts (gw_V wd_13_21 wd_13_18 wd_13_19 wd_13_20 wd_1_5) rfl rfl rfl qX6_sizeOf ⟨Nat.le_of_ble_eq_true rfl, Nat.le_of_ble_eq_true rfl⟩) (kg_preVR (ci := 6) (q := (RX6, TX6, 30)) (q0 := 0) hPc hK hN rfl rfl) rfl rfl hl.1 rfl (lv_room (Nat.le_of_ble_eq_true rfl)) dX6_nameIf_39 ⟨Nat.zero_le _, Nat.zero_le _⟩) ?_
            refine kg_icmp_le (tgt := 48) hx hb hf dX6_nameIf_42 (by decide) (fun hc hf => ?_) (fun hc hf => ?_)
            · refine lv_iinc (v := (v4 + 1)) (lv' := [(4, .int (v4 + 1)), (0, .ref (A 0)), (1, .int v1), (2, .int v2), (3, .int v3)]) hx hb dX6_nameIf_48 hl (k := 4) rfl rfl (by decide) rfl (fun ls hl => ?_)
              refine lv_goto (tgt := 5) hx hb dX6_nameIf_51 (by decide) ?_
              obtain rfl := Option.some.inj hf
              exact ih1 v3 (v4 + 1) hk1 _ (lv_sub hl [1, 2, 3, 4, 0] rfl)
            · refine lv_iload hx hb dX6_nameIf_45 (lv_at hl 4 rfl) ?_
              refine lv_istore_n (lv' := [(3, .int v4), (0, .ref (A 0)), (1, .int v1), (2, .int v2), (4, .int v4)]) hx hb dX6_nameIf_47 rfl hl (by decide) rfl (fun ls hl => ?_)
              refine lv_iinc (v := (v4 + 1)) (lv' := [(4, .int (v4 + 1)), (3, .int v4), (0, .ref (A 0)), (1, .int v1), (2, .int v2)]) hx hb dX6_nameIf_48 hl (k := 4) rfl rfl (by decide) rfl (fun ls hl => ?_)
              refine lv_goto (tgt := 5) hx hb dX6_nameIf_51 (by decide) ?_
              obtain rfl := Option.some.inj hf
              exact ih1 v4 (v4 + 1) hk1 _ (lv_sub hl [2, 3, 4, 1, 0] rfl)
  exact hlp5  FU (-1) 0 hf _ (lv_sub hl [2, 3, 4, 1, 0] rfl)
set_option maxHeartbeats 4000000 in
set_option maxRecDepth 100000 in
theorem c_X6_landsWithout (l : Launch) (dC : Nat → ClassId) (dI : Nat → Nat → Nat) (cI cJ : ClassId) (A : Nat → Nat) (hq : Heap) (x : MdS) (v1 : Int32) (v2 : Int32) (r0 : Int32) (hf : Md_m_landsWithout x v1 v2 = some r0) : MRi l yX6_landsWithout (wAll yX6_landsWithout cX6_landsWithout 6 (some .int)) ({ frames := 3, cells := 0, slots := 0, locals := 91 } : Room) [.ref (A 0), .int v1, .int v2] hq (dC, dI) (vTy cI cJ) (wMd cI cJ A x) r0 := by
  refine kg_metR (cc := cX6_landsWithout) (maxL := 6) (ret := (some .int)) (by decide) rfl (Nat.le_of_ble_eq_true rfl) ?_
  intro p e s m args below meth c hx hb hr hts hown hlk hml hH hP hK hN ls hl
  subst hH
  have hl : lv_has ls 6 [(0, .ref (A 0)), (1, .int v1), (2, .int v2)] := hl
  have ww0 := hts (.fieldLink RX6 7 "SafeBlocksModel" "n" "I") (List.mem_cons_of_mem _ wd_7_23)
  have ww1 := hts (.fieldLink RX6 78 "SafeBlocksModel" "m" "I") (List.mem_cons_of_mem _ wd_9_6)
  have hiX6 : ∀ w ∈ u_ws RX6 TX6 30, w ∈ wAll yX6_landsWithout cX6_landsWithout 6 (some .int) := fun w h => List.mem_cons_of_mem _ (inlX6 w h)
  unfold Md_m_landsWithout at hf
  refine lv_iconst (v := 0) hx hb dX6_landsWithout_0 (by decide) ?_
  refine lv_istore_n (lv' := [(3, .int 0), (0, .ref (A 0)), (1, .int v1), (2, .int v2)]) hx hb dX6_landsWithout_1 rfl hl (by decide) rfl (fun ls hl => ?_)
  refine lv_iconst (v := 0) hx hb dX6_landsWithout_2 (by decide) ?_
  refine lv_istore (lv' := [(4, .int 0), (3, .int 0), (0, .ref (A 0)), (1, .int v1), (2, .int v2)]) hx hb dX6_landsWithout_3 hl (by decide) rfl (fun ls hl => ?_)
  refine lv_iconst (v := 0) hx hb dX6_landsWithout_5 (by decide) ?_
  refine lv_istore (lv' := [(5, .int 0), (4, .int 0), (3, .int 0), (0, .ref (A 0)), (1, .int v1), (2, .int v2)]) hx hb dX6_landsWithout_6 hl (by decide) rfl (fun ls hl => ?_)
  have hlp8 : ∀ (n : Nat) (v3 : Int32) (v4 : Int32) (v5 : Int32), iter (fun p : Int32 × Int32 × Int32 => Md_m_landsWithout_s8 x v1 v2 p.1 p.2.1 p.2.2) n (v3, v4, v5) = some r0 → ∀ (ls : Array Slot), lv_has ls 6 [(0, .ref (A 0)), (1, .int v1), (2, .int v2), (3, .int v3), (4, .int v4), (5, .int v5)] → W p l e ({ frames := 3, cells := 0, slots := 0, locals := 91 } : Room) s m args below meth c s.heap [] 0 0 (MQ below (QRi s.heap r0) args s 0 0 NoA) (F0 m 8 ls []) := by
    intro  n
    induction n with
    | zero => intro v3 v4 v5 hf; exact iter_zero hf
    | succ n ih1 =>
      intro v3 v4 v5 hf ls hl
      obtain ⟨q1, hf, hk1⟩ := iter_succ hf
      have hf : Md_m_landsWithout_s8 x v1 v2 v3 v4 v5 = some q1 := hf
      unfold Md_m_landsWithout_s8 at hf
      refine lv_iload hx hb dX6_landsWithout_8 (lv_at hl 5 rfl) ?_
      refine lv_aload_n hx hb dX6_landsWithout_10 rfl (lv_at hl 0 rfl) ?_
      refine va_get (D := (dC, dI)) (ci := 6) (v := .int (Md_n x)) (C := RX6) (T := TX6) (N := 30) hx hb hts hiX6 hown hK hP 0 rfl rfl 1 (by decide) ww0 (fun _ h9 => h9) rfl dX6_landsWithout_11 ?_
      refine kg_icmp_ge (tgt := 57) hx hb hf dX6_landsWithout_14 (by decide) (fun hc hf => ?_) (fun hc hf => ?_)
      · obtain ⟨qq, hf, hqq⟩ := omap_some hf
        have hkq : qq = r0 := by rw [← hqq] at hk1; exact hk1
        rw [hkq] at hf
        clear hkq hqq
        refine lv_iload hx hb dX6_landsWithout_57 (lv_at hl 4 rfl) ?_
        obtain rfl := Option.some.inj hf
        exact kg_iretR hx hb hr hlk rfl dX6_landsWithout_59
      · refine lv_aload_n hx hb dX6_landsWithout_17 rfl (lv_at hl 0 rfl) ?_
        refine lv_iload_n hx hb dX6_landsWithout_18 rfl (lv_at hl 3 rfl) ?_
        refine lv_iload hx hb dX6_landsWithout_19 (lv_at hl 5 rfl) ?_
        obtain ⟨g21, hc, hf⟩ := ob_bind hf
        have hPc : va_P (dC, dI) vwCl (wMd cI cJ A x) s.heap := hP
        refine kg_retRi (va_runV (As := [.int v3, .int v5]) (rest := []) ⟨hx, hb, hml, hown, hts⟩ (c_X6_has l dC dI cI cJ A s.heap x v3 v5 _ hc) (cwV 2 hts (gw_V wd_14_13 wd_14_10 wd_14_11 wd_14_12 wd_1_5) rfl rfl rfl qX6_has ⟨Nat.le_of_ble_eq_true rfl, Nat.le_of_ble_eq_true rfl⟩) (kg_preVR (ci := 6) (q := (RX6, TX6, 30)) (q0 := 0) hPc hK hN rfl rfl) rfl rfl hl.1 rfl (lv_room (Nat.le_of_ble_eq_true rfl)) dX6_landsWithout_21 ⟨Nat.zero_le _, Nat.zero_le _⟩) ?_
        refine kg_b_eq (tgt := 30) hx hb hf dX6_landsWithout_24 (by decide) (fun hc hf => ?_) (fun hc hf => ?_)
        · refine lv_iload_n hx hb dX6_landsWithout_30 rfl (lv_at hl 3 rfl) ?_
          refine lv_aload_n hx hb dX6_landsWithout_31 rfl (lv_at hl 0 rfl) ?_
          refine lv_iload hx hb dX6_landsWithout_32 (lv_at hl 5 rfl) ?_
          refine lv_aload_n hx hb dX6_landsWithout_34 rfl (lv_at hl 0 rfl) ?_
          refine va_get (D := (dC, dI)) (ci := 6) (v := .int (Md_m x)) (C := RX6) (T := TX6) (N := 30) hx hb hts hiX6 hown hK hP 0 rfl rfl 2 (by decide) ww1 (fun _ h9 => h9) rfl dX6_landsWithout_35 ?_
          refine lv_iload_n hx hb dX6_landsWithout_38 rfl (lv_at hl 1 rfl) ?_
          refine lv_iload_n hx hb dX6_landsWithout_39 rfl (lv_at hl 2 rfl) ?_
          obtain ⟨g40, hc, hf⟩ := ob_bind hf
          have hPc : va_P (dC, dI) vwCl (wMd cI cJ A x) s.heap := hP
          refine kg_retRi (va_runV (As := [.int v5, .int (Md_m x), .int v1, .int v2]) (rest := [.int v3]) ⟨hx, hb, hml, hown, hts⟩ (c_X6_reached l dC dI cI cJ A s.heap x v5 (Md_m x) v1 v2 _ hc) (cwV 4 hts (gw_V wd_20_13 wd_20_10 wd_20_11 wd_20_12 wd_1_5) rfl rfl rfl qX6_reached ⟨Nat.le_of_ble_eq_true rfl, Nat.le_of_ble_eq_true rfl⟩) (kg_preVR (ci := 6) (q := (RX6, TX6, 30)) (q0 := 0) hPc hK hN rfl rfl) rfl rfl hl.1 rfl (lv_room (Nat.le_of_ble_eq_true rfl)) dX6_landsWithout_40 ⟨Nat.zero_le _, Nat.zero_le _⟩) ?_
          refine lv_ior hx hb dX6_landsWithout_43 ?_
          refine lv_istore_n (lv' := [(3, .int (v3 ||| g40)), (0, .ref (A 0)), (1, .int v1), (2, .int v2), (4, .int v4), (5, .int v5)]) hx hb dX6_landsWithout_44 rfl hl (by decide) rfl (fun ls hl => ?_)
          refine lv_iload hx hb dX6_landsWithout_45 (lv_at hl 4 rfl) ?_
          refine lv_iconst (v := 1) hx hb dX6_landsWithout_47 (by decide) ?_
          refine lv_iadd hx hb dX6_landsWithout_48 ?_
          refine lv_istore (lv' := [(4, .int (v4 + 1)), (3, .int (v3 ||| g40)), (0, .ref (A 0)), (1, .int v1), (2, .int v2), (5, .int v5)]) hx hb dX6_landsWithout_49 hl (by decide) rfl (fun ls hl => ?_)
          refine lv_iinc (v := (v5 + 1)) (lv' := [(5, .int (v5 + 1)), (4, .int (v4 + 1)), (3, .int (v3 ||| g40)), (0, .ref (A 0)), (1, .int v1), (2, .int v2)]) hx hb dX6_landsWithout_51 hl (k := 5) rfl rfl (by decide) rfl (fun ls hl => ?_)
          refine lv_goto (tgt := 8) hx hb dX6_landsWithout_54 (by decide) ?_
          obtain rfl := Option.some.inj hf
          exact ih1 (v3 ||| g40) (v4 + 1) (v5 + 1) hk1 _ (lv_sub hl [3, 4, 5, 2, 1, 0] rfl)
        · refine lv_goto (tgt := 51) hx hb dX6_landsWithout_27 (by decide) ?_
          refine lv_iinc (v := (v5 + 1)) (lv' := [(5, .int (v5 + 1)), (0, .ref (A 0)), (1, .int v1), (2, .int v2), (3, .int v3), (4, .int v4)]) hx hb dX6_landsWithout_51 hl (k := 5) rfl rfl (by decide) rfl (fun ls hl => ?_)
          refine lv_goto (tgt := 8) hx hb dX6_landsWithout_54 (by decide) ?_
          obtain rfl := Option.some.inj hf
          exact ih1 v3 v4 (v5 + 1) hk1 _ (lv_sub hl [1, 2, 3, 4, 5, 0] rfl)
  exact hlp8  FU 0 0 0 hf _ (lv_sub hl [3, 4, 5, 2, 1, 0] rfl)
set_option maxHeartbeats 4000000 in
set_option maxRecDepth 100000 in
theorem c_X6_reachedBut (l : Launch) (dC : Nat → ClassId) (dI : Nat → Nat → Nat) (cI cJ : ClassId) (A : Nat → Nat) (hq : Heap) (x : MdS) (v1 : Int32) (v2 : Int32) (v3 : Int32) (v4 : Int32) (r0 : Int32) (hf : Md_m_reachedBut x v1 v2 v3 v4 = some r0) : MRi l yX6_reachedBut (wAll yX6_reachedBut cX6_reachedBut 9 (some .int)) ({ frames := 2, cells := 0, slots := 0, locals := 63 } : Room) [.ref (A 0), .int v1, .int v2, .int v3, .int v4] hq (dC, dI) (vTy cI cJ) (wMd cI cJ A x) r0 := by
  refine kg_metR (cc := cX6_reachedBut) (maxL := 9) (ret := (some .int)) (by decide) rfl (Nat.le_of_ble_eq_true rfl) ?_
  intro p e s m args below meth c hx hb hr hts hown hlk hml hH hP hK hN ls hl
  subst hH
  have hl : lv_has ls 9 [(0, .ref (A 0)), (1, .int v1), (2, .int v2), (3, .int v3), (4, .int v4)] := hl
  have ww0 := hts (.fieldLink RX6 13 "SafeBlocksModel" "first" "[I") (List.mem_cons_of_mem _ wd_8_0)
  have ww1 := hts (.fieldLink RX6 17 "SafeBlocksModel" "second" "[I") (List.mem_cons_of_mem _ wd_8_1)
  have ww2 := hts (.fieldLink RX6 78 "SafeBlocksModel" "m" "I") (List.mem_cons_of_mem _ wd_9_6)
  have hiX6 : ∀ w ∈ u_ws RX6 TX6 30, w ∈ wAll yX6_reachedBut cX6_reachedBut 9 (some .int) := fun w h => List.mem_cons_of_mem _ (inlX6 w h)
  unfold Md_m_reachedBut at hf
  refine lv_iconst (v := 1) hx hb dX6_reachedBut_0 (by decide) ?_
  refine lv_iload_n hx hb dX6_reachedBut_1 rfl (lv_at hl 1 rfl) ?_
  refine lv_ishl hx hb dX6_reachedBut_2 ?_
  refine lv_istore (lv' := [(5, .int (1 <<< (v1 &&& 31))), (0, .ref (A 0)), (1, .int v1), (2, .int v2), (3, .int v3), (4, .int v4)]) hx hb dX6_reachedBut_3 hl (by decide) rfl (fun ls hl => ?_)
  refine lv_iconst (v := 1) hx hb dX6_reachedBut_5 (by decide) ?_
  refine lv_istore (lv' := [(6, .int 1), (5, .int (1 <<< (v1 &&& 31))), (0, .ref (A 0)), (1, .int v1), (2, .int v2), (3, .int v3), (4, .int v4)]) hx hb dX6_reachedBut_6 hl (by decide) rfl (fun ls hl => ?_)
  have hlp8 : ∀ (n : Nat) (v5 : Int32) (v6 : Int32), iter (fun p : Int32 × Int32 => Md_m_reachedBut_s8 x v2 v3 v4 p.1 p.2) n (v5, v6) = some r0 → ∀ (ls : Array Slot), lv_has ls 9 [(0, .ref (A 0)), (2, .int v2), (3, .int v3), (4, .int v4), (5, .int v5), (6, .int v6)] → W p l e ({ frames := 2, cells := 0, slots := 0, locals := 63 } : Room) s m args below meth c s.heap [] 0 0 (MQ below (QRi s.heap r0) args s 0 0 NoA) (F0 m 8 ls []) := by
    intro  n
    induction n with
    | zero => intro v5 v6 hf; exact iter_zero hf
    | succ n ih1 =>
      intro v5 v6 hf ls hl
      obtain ⟨q1, hf, hk1⟩ := iter_succ hf
      have hf : Md_m_reachedBut_s8 x v2 v3 v4 v5 v6 = some q1 := hf
      unfold Md_m_reachedBut_s8 at hf
      refine lv_iload hx hb dX6_reachedBut_8 (lv_at hl 5 rfl) ?_
      refine kg_if_eq (tgt := 126) hx hb hf dX6_reachedBut_10 (by decide) (fun hc hf => ?_) (fun hc hf => ?_)
      · obtain ⟨qq, hf, hqq⟩ := omap_some hf
        have hkq : qq = r0 := by rw [← hqq] at hk1; exact hk1
        rw [hkq] at hf
        clear hkq hqq
        refine lv_iload hx hb dX6_reachedBut_126 (lv_at hl 4 rfl) ?_
        obtain rfl := Option.some.inj hf
        exact kg_iretR hx hb hr hlk rfl dX6_reachedBut_128
      · refine lv_iload hx hb dX6_reachedBut_13 (lv_at hl 4 rfl) ?_
        refine lv_istore (lv' := [(7, .int v5), (0, .ref (A 0)), (2, .int v2), (3, .int v3), (4, .int v4), (5, .int v5), (6, .int v6)]) hx hb dX6_reachedBut_15 hl (by decide) rfl (fun ls hl => ?_)
        refine lv_iconst (v := 0) hx hb dX6_reachedBut_17 (by decide) ?_
        refine lv_istore (lv' := [(8, .int 0), (7, .int v5), (0, .ref (A 0)), (2, .int v2), (3, .int v3), (4, .int v4), (5, .int v5), (6, .int v6)]) hx hb dX6_reachedBut_18 hl (by decide) rfl (fun ls hl => ?_)
        have hlp20 : ∀ (v7 : Int32), ∀ (n : Nat) (v5 : Int32) (v8 : Int32), iter (fun p : Int32 × Int32 => Md_m_reachedBut_s20 x v2 v3 v4 v7 p.1 p.2) n (v5, v8) = some q1 → ∀ (ls : Array Slot), lv_has ls 9 [(0, .ref (A 0)), (2, .int v2), (3, .int v3), (4, .int v4), (5, .int v5), (7, .int v7), (8, .int v8)] → W p l e ({ frames := 2, cells := 0, slots := 0, locals := 63 } : Room) s m args below meth c s.heap [] 0 0 (MQ below (QRi s.heap r0) args s 0 0 NoA) (F0 m 20 ls []) := by
          intro v7 n
          induction n with
          | zero => intro v5 v8 hf; exact iter_zero hf
          | succ n ih2 =>
            intro v5 v8 hf ls hl
            obtain ⟨q2, hf, hk2⟩ := iter_succ hf
            have hf : Md_m_reachedBut_s20 x v2 v3 v4 v7 v5 v8 = some q2 := hf
            unfold Md_m_reachedBut_s20 at hf
            have hj79 : ∀ (v5 : Int32) (v8 : Int32), Md_m_reachedBut_j79 x v2 v3 v4 v5 v7 v8 = some q2 → ∀ (ls : Array Slot), lv_has ls 9 [(0, .ref (A 0)), (2, .int v2), (3, .int v3), (4, .int v4), (5, .int v5), (7, .int v7), (8, .int v8)] → W p l e ({ frames := 2, cells := 0, slots := 0, locals := 63 } : Room) s m args below meth c s.heap [] 0 0 (MQ below (QRi s.heap r0) args s 0 0 NoA) (F0 m 79 ls []) := by
              intro v5 v8 hf ls hl
              unfold Md_m_reachedBut_j79 at hf
              refine lv_iload hx hb dX6_reachedBut_79 (lv_at hl 4 rfl) ?_
              refine lv_iconst (v := 1) hx hb dX6_reachedBut_81 (by decide) ?_
              refine lv_aload_n hx hb dX6_reachedBut_82 rfl (lv_at hl 0 rfl) ?_
              refine va_get (D := (dC, dI)) (ci := 6) (v := .ref (A 1)) (C := RX6) (T := TX6) (N := 30) hx hb hts hiX6 hown hK hP 0 rfl rfl 4 (by decide) ww0 (fun _ h9 => h9) rfl dX6_reachedBut_83 ?_
              refine lv_iload hx hb dX6_reachedBut_86 (lv_at hl 6 rfl) ?_
              obtain ⟨g88, hv, hf⟩ := ob_bind hf
              refine kg_iald hx hb hK hP 1 0 rfl rfl hv dX6_reachedBut_88 ?_
              refine lv_ishl hx hb dX6_reachedBut_89 ?_
              refine lv_ior hx hb dX6_reachedBut_90 ?_
              refine lv_iconst (v := 1) hx hb dX6_reachedBut_91 (by decide) ?_
              refine lv_aload_n hx hb dX6_reachedBut_92 rfl (lv_at hl 0 rfl) ?_
              refine va_get (D := (dC, dI)) (ci := 6) (v := .ref (A 2)) (C := RX6) (T := TX6) (N := 30) hx hb hts hiX6 hown hK hP 0 rfl rfl 5 (by decide) ww1 (fun _ h9 => h9) rfl dX6_reachedBut_93 ?_
              refine lv_iload hx hb dX6_reachedBut_96 (lv_at hl 6 rfl) ?_
              obtain ⟨g98, hv, hf⟩ := ob_bind hf
              refine kg_iald hx hb hK hP 2 0 rfl rfl hv dX6_reachedBut_98 ?_
              refine lv_ishl hx hb dX6_reachedBut_99 ?_
              refine lv_ior hx hb dX6_reachedBut_100 ?_
              refine lv_istore (lv' := [(5, .int ((v5 ||| (1 <<< (g88 &&& 31))) ||| (1 <<< (g98 &&& 31)))), (0, .ref (A 0)), (2, .int v2), (3, .int v3), (4, .int v4), (7, .int v7), (8, .int v8)]) hx hb dX6_reachedBut_101 hl (by decide) rfl (fun ls hl => ?_)
              refine lv_iinc (v := (v8 + 1)) (lv' := [(8, .int (v8 + 1)), (5, .int ((v5 ||| (1 <<< (g88 &&& 31))) ||| (1 <<< (g98 &&& 31)))), (0, .ref (A 0)), (2, .int v2), (3, .int v3), (4, .int v4), (7, .int v7)]) hx hb dX6_reachedBut_103 hl (k := 6) rfl rfl (by decide) rfl (fun ls hl => ?_)
              refine lv_goto (tgt := 20) hx hb dX6_reachedBut_106 (by decide) ?_
              obtain rfl := Option.some.inj hf
              exact ih2 ((v5 ||| (1 <<< (g88 &&& 31))) ||| (1 <<< (g98 &&& 31))) (v8 + 1) hk2 _ (lv_sub hl [2, 3, 4, 5, 1, 6, 0] rfl)
            refine lv_iload hx hb dX6_reachedBut_20 (lv_at hl 6 rfl) ?_
            refine lv_aload_n hx hb dX6_reachedBut_22 rfl (lv_at hl 0 rfl) ?_
            refine va_get (D := (dC, dI)) (ci := 6) (v := .int (Md_m x)) (C := RX6) (T := TX6) (N := 30) hx hb hts hiX6 hown hK hP 0 rfl rfl 2 (by decide) ww2 (fun _ h9 => h9) rfl dX6_reachedBut_23 ?_
            refine kg_icmp_ge (tgt := 109) hx hb hf dX6_reachedBut_26 (by decide) (fun hc hf => ?_) (fun hc hf => ?_)
            · obtain ⟨qq, hf, hqq⟩ := omap_some hf
              have hkq : qq = q1 := by rw [← hqq] at hk2; exact hk2
              rw [hkq] at hf
              clear hkq hqq
              refine lv_iload hx hb dX6_reachedBut_109 (lv_at hl 5 rfl) ?_
              refine lv_iload hx hb dX6_reachedBut_111 (lv_at hl 4 rfl) ?_
              refine kg_icmp_eq (tgt := 120) hx hb hf dX6_reachedBut_113 (by decide) (fun hc hf => ?_) (fun hc hf => ?_)
              · refine lv_iconst (v := 0) hx hb dX6_reachedBut_120 (by decide) ?_
                refine lv_istore (lv' := [(6, .int 0), (0, .ref (A 0)), (2, .int v2), (3, .int v3), (4, .int v4), (5, .int v5), (7, .int v7), (8, .int v8)]) hx hb dX6_reachedBut_121 hl (by decide) rfl (fun ls hl => ?_)
                refine lv_goto (tgt := 8) hx hb dX6_reachedBut_123 (by decide) ?_
                obtain rfl := Option.some.inj hf
                exact ih1 v5 0 hk1 _ (lv_sub hl [1, 2, 3, 4, 5, 0] rfl)
              · refine lv_iconst (v := 1) hx hb dX6_reachedBut_116 (by decide) ?_
                refine lv_goto (tgt := 121) hx hb dX6_reachedBut_117 (by decide) ?_
                refine lv_istore (lv' := [(6, .int 1), (0, .ref (A 0)), (2, .int v2), (3, .int v3), (4, .int v4), (5, .int v5), (7, .int v7), (8, .int v8)]) hx hb dX6_reachedBut_121 hl (by decide) rfl (fun ls hl => ?_)
                refine lv_goto (tgt := 8) hx hb dX6_reachedBut_123 (by decide) ?_
                obtain rfl := Option.some.inj hf
                exact ih1 v5 1 hk1 _ (lv_sub hl [1, 2, 3, 4, 5, 0] rfl)
            · refine lv_iload hx hb dX6_reachedBut_29 (lv_at hl 6 rfl) ?_
              refine lv_iload_n hx hb dX6_reachedBut_31 rfl (lv_at hl 1 rfl) ?_
              refine kg_icmp_eq (tgt := 103) hx hb hf dX6_reachedBut_32 (by decide) (fun hc hf => ?_) (fun hc hf => ?_)
              · refine lv_iinc (v := (v8 + 1)) (lv' := [(8, .int (v8 + 1)), (0, .ref (A 0)), (2, .int v2), (3, .int v3), (4, .int v4), (5, .int v5), (7, .int v7)]) hx hb dX6_reachedBut_103 hl (k := 6) rfl rfl (by decide) rfl (fun ls hl => ?_)
                refine lv_goto (tgt := 20) hx hb dX6_reachedBut_106 (by decide) ?_
                obtain rfl := Option.some.inj hf
                exact ih2 v5 (v8 + 1) hk2 _ (lv_sub hl [1, 2, 3, 4, 5, 6, 0] rfl)
              · refine lv_aload_n hx hb dX6_reachedBut_35 rfl (lv_at hl 0 rfl) ?_
                refine lv_iload hx hb dX6_reachedBut_36 (lv_at hl 6 rfl) ?_
                refine lv_iload_n hx hb dX6_reachedBut_38 rfl (lv_at hl 2 rfl) ?_
                refine lv_iload hx hb dX6_reachedBut_39 (lv_at hl 3 rfl) ?_
                obtain ⟨g41, hc, hf⟩ := ob_bind hf
                have hPc : va_P (dC, dI) vwCl (wMd cI cJ A x) s.heap := hP
                refine kg_retRi (va_runV (As := [.int v8, .int v3, .int v4]) (rest := []) ⟨hx, hb, hml, hown, hts⟩ (c_X6_isOut l dC dI cI cJ A s.heap x v8 v3 v4 _ hc) (cwV 3 hts (gw_V wd_19_10 wd_19_7 wd_19_8 wd_19_9 wd_1_5) rfl rfl rfl qX6_isOut ⟨Nat.le_of_ble_eq_true rfl, Nat.le_of_ble_eq_true rfl⟩) (kg_preVR (ci := 6) (q := (RX6, TX6, 30)) (q0 := 0) hPc hK hN rfl rfl) rfl rfl hl.1 rfl (lv_room (Nat.le_of_ble_eq_true rfl)) dX6_reachedBut_41 ⟨Nat.zero_le _, Nat.zero_le _⟩) ?_
                refine kg_b_ne (tgt := 103) hx hb hf dX6_reachedBut_44 (by decide) (fun hc hf => ?_) (fun hc hf => ?_)
                · refine lv_iinc (v := (v8 + 1)) (lv' := [(8, .int (v8 + 1)), (0, .ref (A 0)), (2, .int v2), (3, .int v3), (4, .int v4), (5, .int v5), (7, .int v7)]) hx hb dX6_reachedBut_103 hl (k := 6) rfl rfl (by decide) rfl (fun ls hl => ?_)
                  refine lv_goto (tgt := 20) hx hb dX6_reachedBut_106 (by decide) ?_
                  obtain rfl := Option.some.inj hf
                  exact ih2 v5 (v8 + 1) hk2 _ (lv_sub hl [1, 2, 3, 4, 5, 6, 0] rfl)
                · refine lv_aload_n hx hb dX6_reachedBut_47 rfl (lv_at hl 0 rfl) ?_
                  refine lv_iload hx hb dX6_reachedBut_48 (lv_at hl 4 rfl) ?_
                  refine lv_aload_n hx hb dX6_reachedBut_50 rfl (lv_at hl 0 rfl) ?_
                  refine va_get (D := (dC, dI)) (ci := 6) (v := .ref (A 1)) (C := RX6) (T := TX6) (N := 30) hx hb hts hiX6 hown hK hP 0 rfl rfl 4 (by decide) ww0 (fun _ h9 => h9) rfl dX6_reachedBut_51 ?_
                  refine lv_iload hx hb dX6_reachedBut_54 (lv_at hl 6 rfl) ?_
                  obtain ⟨g56, hv, hf⟩ := ob_bind hf
                  refine kg_iald hx hb hK hP 1 0 rfl rfl hv dX6_reachedBut_56 ?_
                  obtain ⟨g57, hc, hf⟩ := ob_bind hf
                  have hPc : va_P (dC, dI) vwCl (wMd cI cJ A x) s.heap := hP
                  refine kg_retRi (va_runV (As := [.int v5, .int g56]) (rest := []) ⟨hx, hb, hml, hown, hts⟩ (c_X6_has l dC dI cI cJ A s.heap x v5 g56 _ hc) (cwV 2 hts (gw_V wd_14_13 wd_14_10 wd_14_11 wd_14_12 wd_1_5) rfl rfl rfl qX6_has ⟨Nat.le_of_ble_eq_true rfl, Nat.le_of_ble_eq_true rfl⟩) (kg_preVR (ci := 6) (q := (RX6, TX6, 30)) (q0 := 0) hPc hK hN rfl rfl) rfl rfl hl.1 rfl (lv_room (Nat.le_of_ble_eq_true rfl)) dX6_reachedBut_57 ⟨Nat.zero_le _, Nat.zero_le _⟩) ?_
                  refine kg_b_ne (tgt := 79) hx hb hf dX6_reachedBut_60 (by decide) (fun hc hf => ?_) (fun hc hf => ?_)
                  · exact hj79 v5 v8 hf _ (lv_sub hl [0, 1, 2, 3, 4, 5, 6] rfl)
                  · refine lv_aload_n hx hb dX6_reachedBut_63 rfl (lv_at hl 0 rfl) ?_
                    refine lv_iload hx hb dX6_reachedBut_64 (lv_at hl 4 rfl) ?_
                    refine lv_aload_n hx hb dX6_reachedBut_66 rfl (lv_at hl 0 rfl) ?_
                    refine va_get (D := (dC, dI)) (ci := 6) (v := .ref (A 2)) (C := RX6) (T := TX6) (N := 30) hx hb hts hiX6 hown hK hP 0 rfl rfl 5 (by decide) ww1 (fun _ h9 => h9) rfl dX6_reachedBut_67 ?_
                    refine lv_iload hx hb dX6_reachedBut_70 (lv_at hl 6 rfl) ?_
                    obtain ⟨g72, hv, hf⟩ := ob_bind hf
                    refine kg_iald hx hb hK hP 2 0 rfl rfl hv dX6_reachedBut_72 ?_
                    obtain ⟨g73, hc, hf⟩ := ob_bind hf
                    have hPc : va_P (dC, dI) vwCl (wMd cI cJ A x) s.heap := hP
                    refine kg_retRi (va_runV (As := [.int v5, .int g72]) (rest := []) ⟨hx, hb, hml, hown, hts⟩ (c_X6_has l dC dI cI cJ A s.heap x v5 g72 _ hc) (cwV 2 hts (gw_V wd_14_13 wd_14_10 wd_14_11 wd_14_12 wd_1_5) rfl rfl rfl qX6_has ⟨Nat.le_of_ble_eq_true rfl, Nat.le_of_ble_eq_true rfl⟩) (kg_preVR (ci := 6) (q := (RX6, TX6, 30)) (q0 := 0) hPc hK hN rfl rfl) rfl rfl hl.1 rfl (lv_room (Nat.le_of_ble_eq_true rfl)) dX6_reachedBut_73 ⟨Nat.zero_le _, Nat.zero_le _⟩) ?_
                    refine kg_b_eq (tgt := 103) hx hb hf dX6_reachedBut_76 (by decide) (fun hc hf => ?_) (fun hc hf => ?_)
                    · refine lv_iinc (v := (v8 + 1)) (lv' := [(8, .int (v8 + 1)), (0, .ref (A 0)), (2, .int v2), (3, .int v3), (4, .int v4), (5, .int v5), (7, .int v7)]) hx hb dX6_reachedBut_103 hl (k := 6) rfl rfl (by decide) rfl (fun ls hl => ?_)
                      refine lv_goto (tgt := 20) hx hb dX6_reachedBut_106 (by decide) ?_
                      obtain rfl := Option.some.inj hf
                      exact ih2 v5 (v8 + 1) hk2 _ (lv_sub hl [1, 2, 3, 4, 5, 6, 0] rfl)
                    · exact hj79 v5 v8 hf _ (lv_sub hl [0, 1, 2, 3, 4, 5, 6] rfl)
        exact hlp20 v5 FU v5 0 hf _ (lv_sub hl [2, 3, 4, 5, 6, 1, 0] rfl)
  exact hlp8  FU (1 <<< (v1 &&& 31)) 1 hf _ (lv_sub hl [2, 4, 5, 6, 1, 0] rfl)
set_option maxHeartbeats 4000000 in
set_option maxRecDepth 100000 in
theorem c_X6_bridgesWithout (l : Launch) (dC : Nat → ClassId) (dI : Nat → Nat → Nat) (cI cJ : ClassId) (A : Nat → Nat) (hq : Heap) (x : MdS) (v1 : Int32) (v2 : Int32) (r0 : Int32) (hf : Md_m_bridgesWithout x v1 v2 = some r0) : MRi l yX6_bridgesWithout (wAll yX6_bridgesWithout cX6_bridgesWithout 5 (some .int)) ({ frames := 3, cells := 0, slots := 0, locals := 91 } : Room) [.ref (A 0), .int v1, .int v2] hq (dC, dI) (vTy cI cJ) (wMd cI cJ A x) r0 := by
  refine kg_metR (cc := cX6_bridgesWithout) (maxL := 5) (ret := (some .int)) (by decide) rfl (Nat.le_of_ble_eq_true rfl) ?_
  intro p e s m args below meth c hx hb hr hts hown hlk hml hH hP hK hN ls hl
  subst hH
  have hl : lv_has ls 5 [(0, .ref (A 0)), (1, .int v1), (2, .int v2)] := hl
  have ww0 := hts (.fieldLink RX6 78 "SafeBlocksModel" "m" "I") (List.mem_cons_of_mem _ wd_9_6)
  have ww1 := hts (.fieldLink RX6 13 "SafeBlocksModel" "first" "[I") (List.mem_cons_of_mem _ wd_8_0)
  have ww2 := hts (.fieldLink RX6 17 "SafeBlocksModel" "second" "[I") (List.mem_cons_of_mem _ wd_8_1)
  have hiX6 : ∀ w ∈ u_ws RX6 TX6 30, w ∈ wAll yX6_bridgesWithout cX6_bridgesWithout 5 (some .int) := fun w h => List.mem_cons_of_mem _ (inlX6 w h)
  unfold Md_m_bridgesWithout at hf
  refine lv_iconst (v := 0) hx hb dX6_bridgesWithout_0 (by decide) ?_
  refine lv_istore_n (lv' := [(3, .int 0), (0, .ref (A 0)), (1, .int v1), (2, .int v2)]) hx hb dX6_bridgesWithout_1 rfl hl (by decide) rfl (fun ls hl => ?_)
  refine lv_iconst (v := 0) hx hb dX6_bridgesWithout_2 (by decide) ?_
  refine lv_istore (lv' := [(4, .int 0), (3, .int 0), (0, .ref (A 0)), (1, .int v1), (2, .int v2)]) hx hb dX6_bridgesWithout_3 hl (by decide) rfl (fun ls hl => ?_)
  have hlp5 : ∀ (n : Nat) (v3 : Int32) (v4 : Int32), iter (fun p : Int32 × Int32 => Md_m_bridgesWithout_s5 x v1 v2 p.1 p.2) n (v3, v4) = some r0 → ∀ (ls : Array Slot), lv_has ls 5 [(0, .ref (A 0)), (1, .int v1), (2, .int v2), (3, .int v3), (4, .int v4)] → W p l e ({ frames := 3, cells := 0, slots := 0, locals := 91 } : Room) s m args below meth c s.heap [] 0 0 (MQ below (QRi s.heap r0) args s 0 0 NoA) (F0 m 5 ls []) := by
    intro  n
    induction n with
    | zero => intro v3 v4 hf; exact iter_zero hf
    | succ n ih1 =>
      intro v3 v4 hf ls hl
      obtain ⟨q1, hf, hk1⟩ := iter_succ hf
      have hf : Md_m_bridgesWithout_s5 x v1 v2 v3 v4 = some q1 := hf
      unfold Md_m_bridgesWithout_s5 at hf
      refine lv_iload hx hb dX6_bridgesWithout_5 (lv_at hl 4 rfl) ?_
      refine lv_aload_n hx hb dX6_bridgesWithout_7 rfl (lv_at hl 0 rfl) ?_
      refine va_get (D := (dC, dI)) (ci := 6) (v := .int (Md_m x)) (C := RX6) (T := TX6) (N := 30) hx hb hts hiX6 hown hK hP 0 rfl rfl 2 (by decide) ww0 (fun _ h9 => h9) rfl dX6_bridgesWithout_8 ?_
      refine kg_icmp_ge (tgt := 64) hx hb hf dX6_bridgesWithout_11 (by decide) (fun hc hf => ?_) (fun hc hf => ?_)
      · obtain ⟨qq, hf, hqq⟩ := omap_some hf
        have hkq : qq = r0 := by rw [← hqq] at hk1; exact hk1
        rw [hkq] at hf
        clear hkq hqq
        refine lv_iload_n hx hb dX6_bridgesWithout_64 rfl (lv_at hl 3 rfl) ?_
        obtain rfl := Option.some.inj hf
        exact kg_iretR hx hb hr hlk rfl dX6_bridgesWithout_65
      · refine lv_aload_n hx hb dX6_bridgesWithout_14 rfl (lv_at hl 0 rfl) ?_
        refine lv_iload hx hb dX6_bridgesWithout_15 (lv_at hl 4 rfl) ?_
        refine lv_iload_n hx hb dX6_bridgesWithout_17 rfl (lv_at hl 1 rfl) ?_
        refine lv_iload_n hx hb dX6_bridgesWithout_18 rfl (lv_at hl 2 rfl) ?_
        obtain ⟨g19, hc, hf⟩ := ob_bind hf
        have hPc : va_P (dC, dI) vwCl (wMd cI cJ A x) s.heap := hP
        refine kg_retRi (va_runV (As := [.int v4, .int v1, .int v2]) (rest := []) ⟨hx, hb, hml, hown, hts⟩ (c_X6_isOut l dC dI cI cJ A s.heap x v4 v1 v2 _ hc) (cwV 3 hts (gw_V wd_19_10 wd_19_7 wd_19_8 wd_19_9 wd_1_5) rfl rfl rfl qX6_isOut ⟨Nat.le_of_ble_eq_true rfl, Nat.le_of_ble_eq_true rfl⟩) (kg_preVR (ci := 6) (q := (RX6, TX6, 30)) (q0 := 0) hPc hK hN rfl rfl) rfl rfl hl.1 rfl (lv_room (Nat.le_of_ble_eq_true rfl)) dX6_bridgesWithout_19 ⟨Nat.zero_le _, Nat.zero_le _⟩) ?_
        refine kg_b_ne (tgt := 58) hx hb hf dX6_bridgesWithout_22 (by decide) (fun hc hf => ?_) (fun hc hf => ?_)
        · refine lv_iinc (v := (v4 + 1)) (lv' := [(4, .int (v4 + 1)), (0, .ref (A 0)), (1, .int v1), (2, .int v2), (3, .int v3)]) hx hb dX6_bridgesWithout_58 hl (k := 4) rfl rfl (by decide) rfl (fun ls hl => ?_)
          refine lv_goto (tgt := 5) hx hb dX6_bridgesWithout_61 (by decide) ?_
          obtain rfl := Option.some.inj hf
          exact ih1 v3 (v4 + 1) hk1 _ (lv_sub hl [1, 2, 3, 4, 0] rfl)
        · refine lv_aload_n hx hb dX6_bridgesWithout_25 rfl (lv_at hl 0 rfl) ?_
          refine lv_aload_n hx hb dX6_bridgesWithout_26 rfl (lv_at hl 0 rfl) ?_
          refine lv_aload_n hx hb dX6_bridgesWithout_27 rfl (lv_at hl 0 rfl) ?_
          refine va_get (D := (dC, dI)) (ci := 6) (v := .ref (A 1)) (C := RX6) (T := TX6) (N := 30) hx hb hts hiX6 hown hK hP 0 rfl rfl 4 (by decide) ww1 (fun _ h9 => h9) rfl dX6_bridgesWithout_28 ?_
          refine lv_iload hx hb dX6_bridgesWithout_31 (lv_at hl 4 rfl) ?_
          obtain ⟨g33, hv, hf⟩ := ob_bind hf
          refine kg_iald hx hb hK hP 1 0 rfl rfl hv dX6_bridgesWithout_33 ?_
          refine lv_iload hx hb dX6_bridgesWithout_34 (lv_at hl 4 rfl) ?_
          refine lv_iload_n hx hb dX6_bridgesWithout_36 rfl (lv_at hl 1 rfl) ?_
          refine lv_iload_n hx hb dX6_bridgesWithout_37 rfl (lv_at hl 2 rfl) ?_
          obtain ⟨g38, hc, hf⟩ := ob_bind hf
          have hPc : va_P (dC, dI) vwCl (wMd cI cJ A x) s.heap := hP
          refine kg_retRi (va_runV (As := [.int g33, .int v4, .int v1, .int v2]) (rest := [.ref (A 0)]) ⟨hx, hb, hml, hown, hts⟩ (c_X6_reachedBut l dC dI cI cJ A s.heap x g33 v4 v1 v2 _ hc) (cwV 4 hts (gw_V wd_41_7 wd_41_4 wd_41_5 wd_41_6 wd_1_5) rfl rfl rfl qX6_reachedBut ⟨Nat.le_of_ble_eq_true rfl, Nat.le_of_ble_eq_true rfl⟩) (kg_preVR (ci := 6) (q := (RX6, TX6, 30)) (q0 := 0) hPc hK hN rfl rfl) rfl rfl hl.1 rfl (lv_room (Nat.le_of_ble_eq_true rfl)) dX6_bridgesWithout_38 ⟨Nat.zero_le _, Nat.zero_le _⟩) ?_
          refine lv_aload_n hx hb dX6_bridgesWithout_41 rfl (lv_at hl 0 rfl) ?_
          refine va_get (D := (dC, dI)) (ci := 6) (v := .ref (A 2)) (C := RX6) (T := TX6) (N := 30) hx hb hts hiX6 hown hK hP 0 rfl rfl 5 (by decide) ww2 (fun _ h9 => h9) rfl dX6_bridgesWithout_42 ?_
          refine lv_iload hx hb dX6_bridgesWithout_45 (lv_at hl 4 rfl) ?_
          obtain ⟨g47, hv, hf⟩ := ob_bind hf
          refine kg_iald hx hb hK hP 2 0 rfl rfl hv dX6_bridgesWithout_47 ?_
          obtain ⟨g48, hc, hf⟩ := ob_bind hf
          have hPc : va_P (dC, dI) vwCl (wMd cI cJ A x) s.heap := hP
          refine kg_retRi (va_runV (As := [.int g38, .int g47]) (rest := []) ⟨hx, hb, hml, hown, hts⟩ (c_X6_has l dC dI cI cJ A s.heap x g38 g47 _ hc) (cwV 2 hts (gw_V wd_14_13 wd_14_10 wd_14_11 wd_14_12 wd_1_5) rfl rfl rfl qX6_has ⟨Nat.le_of_ble_eq_true rfl, Nat.le_of_ble_eq_true rfl⟩) (kg_preVR (ci := 6) (q := (RX6, TX6, 30)) (q0 := 0) hPc hK hN rfl rfl) rfl rfl hl.1 rfl (lv_room (Nat.le_of_ble_eq_true rfl)) dX6_bridgesWithout_48 ⟨Nat.zero_le _, Nat.zero_le _⟩) ?_
          refine kg_b_ne (tgt := 58) hx hb hf dX6_bridgesWithout_51 (by decide) (fun hc hf => ?_) (fun hc hf => ?_)
          · refine lv_iinc (v := (v4 + 1)) (lv' := [(4, .int (v4 + 1)), (0, .ref (A 0)), (1, .int v1), (2, .int v2), (3, .int v3)]) hx hb dX6_bridgesWithout_58 hl (k := 4) rfl rfl (by decide) rfl (fun ls hl => ?_)
            refine lv_goto (tgt := 5) hx hb dX6_bridgesWithout_61 (by decide) ?_
            obtain rfl := Option.some.inj hf
            exact ih1 v3 (v4 + 1) hk1 _ (lv_sub hl [1, 2, 3, 4, 0] rfl)
          · refine lv_iload_n hx hb dX6_bridgesWithout_54 rfl (lv_at hl 3 rfl) ?_
            refine lv_iconst (v := 1) hx hb dX6_bridgesWithout_55 (by decide) ?_
            refine lv_iadd hx hb dX6_bridgesWithout_56 ?_
            refine lv_istore_n (lv' := [(3, .int (v3 + 1)), (0, .ref (A 0)), (1, .int v1), (2, .int v2), (4, .int v4)]) hx hb dX6_bridgesWithout_57 rfl hl (by decide) rfl (fun ls hl => ?_)
            refine lv_iinc (v := (v4 + 1)) (lv' := [(4, .int (v4 + 1)), (3, .int (v3 + 1)), (0, .ref (A 0)), (1, .int v1), (2, .int v2)]) hx hb dX6_bridgesWithout_58 hl (k := 4) rfl rfl (by decide) rfl (fun ls hl => ?_)
            refine lv_goto (tgt := 5) hx hb dX6_bridgesWithout_61 (by decide) ?_
            obtain rfl := Option.some.inj hf
            exact ih1 (v3 + 1) (v4 + 1) hk1 _ (lv_sub hl [2, 3, 4, 1, 0] rfl)
  exact hlp5  FU 0 0 hf _ (lv_sub hl [2, 3, 4, 1, 0] rfl)
set_option maxHeartbeats 4000000 in
set_option maxRecDepth 100000 in
theorem c_X6_names (l : Launch) (dC : Nat → ClassId) (dI : Nat → Nat → Nat) (cI cJ : ClassId) (A : Nat → Nat) (hq : Heap) (x : MdS) (v1 : Int32) (r0 : Int32) (hf : Md_m_names x v1 = some r0) : MRi l yX6_names (wAll yX6_names cX6_names 4 (some .int)) ({ frames := 1, cells := 0, slots := 0, locals := 40 } : Room) [.ref (A 0), .int v1] hq (dC, dI) (vTy cI cJ) (wMd cI cJ A x) r0 := by
  refine kg_metR (cc := cX6_names) (maxL := 4) (ret := (some .int)) (by decide) rfl (Nat.le_of_ble_eq_true rfl) ?_
  intro p e s m args below meth c hx hb hr hts hown hlk hml hH hP hK hN ls hl
  subst hH
  have hl : lv_has ls 4 [(0, .ref (A 0)), (1, .int v1)] := hl
  have ww0 := hts (.fieldLink RX6 7 "SafeBlocksModel" "n" "I") (List.mem_cons_of_mem _ wd_7_23)
  have ww1 := hts (.fieldLink RX6 32 "SafeBlocksModel" "endedBy" "[I") (List.mem_cons_of_mem _ wd_8_6)
  have hiX6 : ∀ w ∈ u_ws RX6 TX6 30, w ∈ wAll yX6_names cX6_names 4 (some .int) := fun w h => List.mem_cons_of_mem _ (inlX6 w h)
  unfold Md_m_names at hf
  refine lv_iconst (v := 0) hx hb dX6_names_0 (by decide) ?_
  refine lv_istore_n (lv' := [(2, .int 0), (0, .ref (A 0)), (1, .int v1)]) hx hb dX6_names_1 rfl hl (by decide) rfl (fun ls hl => ?_)
  refine lv_iconst (v := 0) hx hb dX6_names_2 (by decide) ?_
  refine lv_istore_n (lv' := [(3, .int 0), (2, .int 0), (0, .ref (A 0)), (1, .int v1)]) hx hb dX6_names_3 rfl hl (by decide) rfl (fun ls hl => ?_)
  have hlp4 : ∀ (n : Nat) (v2 : Int32) (v3 : Int32), iter (fun p : Int32 × Int32 => Md_m_names_s4 x v1 p.1 p.2) n (v2, v3) = some r0 → ∀ (ls : Array Slot), lv_has ls 4 [(0, .ref (A 0)), (1, .int v1), (2, .int v2), (3, .int v3)] → W p l e ({ frames := 1, cells := 0, slots := 0, locals := 40 } : Room) s m args below meth c s.heap [] 0 0 (MQ below (QRi s.heap r0) args s 0 0 NoA) (F0 m 4 ls []) := by
    intro  n
    induction n with
    | zero => intro v2 v3 hf; exact iter_zero hf
    | succ n ih1 =>
      intro v2 v3 hf ls hl
      obtain ⟨q1, hf, hk1⟩ := iter_succ hf
      have hf : Md_m_names_s4 x v1 v2 v3 = some q1 := hf
      unfold Md_m_names_s4 at hf
      refine lv_iload_n hx hb dX6_names_4 rfl (lv_at hl 3 rfl) ?_
      refine lv_aload_n hx hb dX6_names_5 rfl (lv_at hl 0 rfl) ?_
      refine va_get (D := (dC, dI)) (ci := 6) (v := .int (Md_n x)) (C := RX6) (T := TX6) (N := 30) hx hb hts hiX6 hown hK hP 0 rfl rfl 1 (by decide) ww0 (fun _ h9 => h9) rfl dX6_names_6 ?_
      refine kg_icmp_ge (tgt := 37) hx hb hf dX6_names_9 (by decide) (fun hc hf => ?_) (fun hc hf => ?_)
      · obtain ⟨qq, hf, hqq⟩ := omap_some hf
        have hkq : qq = r0 := by rw [← hqq] at hk1; exact hk1
        rw [hkq] at hf
        clear hkq hqq
        refine lv_iload_n hx hb dX6_names_37 rfl (lv_at hl 2 rfl) ?_
        obtain rfl := Option.some.inj hf
        exact kg_iretR hx hb hr hlk rfl dX6_names_38
      · refine lv_aload_n hx hb dX6_names_12 rfl (lv_at hl 0 rfl) ?_
        refine va_get (D := (dC, dI)) (ci := 6) (v := .ref (A 6)) (C := RX6) (T := TX6) (N := 30) hx hb hts hiX6 hown hK hP 0 rfl rfl 10 (by decide) ww1 (fun _ h9 => h9) rfl dX6_names_13 ?_
        refine lv_bipush (v := 32) hx hb dX6_names_16 (by decide) ?_
        refine lv_iload_n hx hb dX6_names_18 rfl (lv_at hl 1 rfl) ?_
        refine lv_imul hx hb dX6_names_19 ?_
        refine lv_iload_n hx hb dX6_names_20 rfl (lv_at hl 3 rfl) ?_
        refine lv_iadd hx hb dX6_names_21 ?_
        obtain ⟨g22, hv, hf⟩ := ob_bind hf
        refine kg_iald hx hb hK hP 6 0 rfl rfl hv dX6_names_22 ?_
        refine lv_iconst (v := (-1)) hx hb dX6_names_23 (by decide) ?_
        refine kg_icmp_ne (tgt := 31) hx hb hf dX6_names_24 (by decide) (fun hc hf => ?_) (fun hc hf => ?_)
        · refine lv_iinc (v := (v3 + 1)) (lv' := [(3, .int (v3 + 1)), (0, .ref (A 0)), (1, .int v1), (2, .int v2)]) hx hb dX6_names_31 hl (k := 3) rfl rfl (by decide) rfl (fun ls hl => ?_)
          refine lv_goto (tgt := 4) hx hb dX6_names_34 (by decide) ?_
          obtain rfl := Option.some.inj hf
          exact ih1 v2 (v3 + 1) hk1 _ (lv_sub hl [1, 2, 3, 0] rfl)
        · refine lv_iload_n hx hb dX6_names_27 rfl (lv_at hl 2 rfl) ?_
          refine lv_iconst (v := 1) hx hb dX6_names_28 (by decide) ?_
          refine lv_iadd hx hb dX6_names_29 ?_
          refine lv_istore_n (lv' := [(2, .int (v2 + 1)), (0, .ref (A 0)), (1, .int v1), (3, .int v3)]) hx hb dX6_names_30 rfl hl (by decide) rfl (fun ls hl => ?_)
          refine lv_iinc (v := (v3 + 1)) (lv' := [(3, .int (v3 + 1)), (2, .int (v2 + 1)), (0, .ref (A 0)), (1, .int v1)]) hx hb dX6_names_31 hl (k := 3) rfl rfl (by decide) rfl (fun ls hl => ?_)
          refine lv_goto (tgt := 4) hx hb dX6_names_34 (by decide) ?_
          obtain rfl := Option.some.inj hf
          exact ih1 (v2 + 1) (v3 + 1) hk1 _ (lv_sub hl [2, 3, 1, 0] rfl)
  exact hlp4  FU 0 0 hf _ (lv_sub hl [2, 3, 1, 0] rfl)
set_option maxHeartbeats 4000000 in
set_option maxRecDepth 100000 in
theorem c_X6_frail (l : Launch) (dC : Nat → ClassId) (dI : Nat → Nat → Nat) (cI cJ : ClassId) (A : Nat → Nat) (hq : Heap) (x : MdS) (r0 : Int32) (hf : Md_m_frail x = some r0) : MRi l yX6_frail (wAll yX6_frail cX6_frail 4 (some .int)) ({ frames := 2, cells := 0, slots := 0, locals := 61 } : Room) [.ref (A 0)] hq (dC, dI) (vTy cI cJ) (wMd cI cJ A x) r0 := by
  refine kg_metR (cc := cX6_frail) (maxL := 4) (ret := (some .int)) (by decide) rfl (Nat.le_of_ble_eq_true rfl) ?_
  intro p e s m args below meth c hx hb hr hts hown hlk hml hH hP hK hN ls hl
  subst hH
  have hl : lv_has ls 4 [(0, .ref (A 0))] := hl
  have ww0 := hts (.fieldLink RX6 7 "SafeBlocksModel" "n" "I") (List.mem_cons_of_mem _ wd_7_23)
  have hiX6 : ∀ w ∈ u_ws RX6 TX6 30, w ∈ wAll yX6_frail cX6_frail 4 (some .int) := fun w h => List.mem_cons_of_mem _ (inlX6 w h)
  unfold Md_m_frail at hf
  refine lv_iconst (v := 0) hx hb dX6_frail_0 (by decide) ?_
  refine lv_istore_n (lv' := [(1, .int 0), (0, .ref (A 0))]) hx hb dX6_frail_1 rfl hl (by decide) rfl (fun ls hl => ?_)
  refine lv_iconst (v := 0) hx hb dX6_frail_2 (by decide) ?_
  refine lv_istore_n (lv' := [(2, .int 0), (1, .int 0), (0, .ref (A 0))]) hx hb dX6_frail_3 rfl hl (by decide) rfl (fun ls hl => ?_)
  have hlp4 : ∀ (n : Nat) (v1 : Int32) (v2 : Int32), iter (fun p : Int32 × Int32 => Md_m_frail_s4 x p.1 p.2) n (v1, v2) = some r0 → ∀ (ls : Array Slot), lv_has ls 4 [(0, .ref (A 0)), (1, .int v1), (2, .int v2)] → W p l e ({ frames := 2, cells := 0, slots := 0, locals := 61 } : Room) s m args below meth c s.heap [] 0 0 (MQ below (QRi s.heap r0) args s 0 0 NoA) (F0 m 4 ls []) := by
    intro  n
    induction n with
    | zero => intro v1 v2 hf; exact iter_zero hf
    | succ n ih1 =>
      intro v1 v2 hf ls hl
      obtain ⟨q1, hf, hk1⟩ := iter_succ hf
      have hf : Md_m_frail_s4 x v1 v2 = some q1 := hf
      unfold Md_m_frail_s4 at hf
      refine lv_iload_n hx hb dX6_frail_4 rfl (lv_at hl 2 rfl) ?_
      refine lv_aload_n hx hb dX6_frail_5 rfl (lv_at hl 0 rfl) ?_
      refine va_get (D := (dC, dI)) (ci := 6) (v := .int (Md_n x)) (C := RX6) (T := TX6) (N := 30) hx hb hts hiX6 hown hK hP 0 rfl rfl 1 (by decide) ww0 (fun _ h9 => h9) rfl dX6_frail_6 ?_
      refine kg_icmp_ge (tgt := 61) hx hb hf dX6_frail_9 (by decide) (fun hc hf => ?_) (fun hc hf => ?_)
      · obtain ⟨qq, hf, hqq⟩ := omap_some hf
        have hkq : qq = r0 := by rw [← hqq] at hk1; exact hk1
        rw [hkq] at hf
        clear hkq hqq
        refine lv_iload_n hx hb dX6_frail_61 rfl (lv_at hl 1 rfl) ?_
        obtain rfl := Option.some.inj hf
        exact kg_iretR hx hb hr hlk rfl dX6_frail_62
      · refine lv_iconst (v := 0) hx hb dX6_frail_12 (by decide) ?_
        refine lv_istore_n (lv' := [(3, .int 0), (0, .ref (A 0)), (1, .int v1), (2, .int v2)]) hx hb dX6_frail_13 rfl hl (by decide) rfl (fun ls hl => ?_)
        have hlp14 : ∀ (v2 : Int32), ∀ (n : Nat) (v1 : Int32) (v3 : Int32), iter (fun p : Int32 × Int32 => Md_m_frail_s14 x v2 p.1 p.2) n (v1, v3) = some q1 → ∀ (ls : Array Slot), lv_has ls 4 [(0, .ref (A 0)), (1, .int v1), (2, .int v2), (3, .int v3)] → W p l e ({ frames := 2, cells := 0, slots := 0, locals := 61 } : Room) s m args below meth c s.heap [] 0 0 (MQ below (QRi s.heap r0) args s 0 0 NoA) (F0 m 14 ls []) := by
          intro v2 n
          induction n with
          | zero => intro v1 v3 hf; exact iter_zero hf
          | succ n ih2 =>
            intro v1 v3 hf ls hl
            obtain ⟨q2, hf, hk2⟩ := iter_succ hf
            have hf : Md_m_frail_s14 x v2 v1 v3 = some q2 := hf
            unfold Md_m_frail_s14 at hf
            refine lv_iload_n hx hb dX6_frail_14 rfl (lv_at hl 3 rfl) ?_
            refine lv_iload_n hx hb dX6_frail_15 rfl (lv_at hl 2 rfl) ?_
            refine kg_icmp_ge (tgt := 55) hx hb hf dX6_frail_16 (by decide) (fun hc hf => ?_) (fun hc hf => ?_)
            · obtain ⟨qq, hf, hqq⟩ := omap_some hf
              have hkq : qq = q1 := by rw [← hqq] at hk2; exact hk2
              rw [hkq] at hf
              clear hkq hqq
              refine lv_iinc (v := (v2 + 1)) (lv' := [(2, .int (v2 + 1)), (0, .ref (A 0)), (1, .int v1), (3, .int v3)]) hx hb dX6_frail_55 hl (k := 2) rfl rfl (by decide) rfl (fun ls hl => ?_)
              refine lv_goto (tgt := 4) hx hb dX6_frail_58 (by decide) ?_
              obtain rfl := Option.some.inj hf
              exact ih1 v1 (v2 + 1) hk1 _ (lv_sub hl [1, 2, 0] rfl)
            · refine lv_aload_n hx hb dX6_frail_19 rfl (lv_at hl 0 rfl) ?_
              refine lv_iload_n hx hb dX6_frail_20 rfl (lv_at hl 2 rfl) ?_
              obtain ⟨g21, hc, hf⟩ := ob_bind hf
              have hPc : va_P (dC, dI) vwCl (wMd cI cJ A x) s.heap := hP
              refine kg_retRi (va_runV (As := [.int v2]) (rest := []) ⟨hx, hb, hml, hown, hts⟩ (c_X6_landOf l dC dI cI cJ A s.heap x v2 _ hc) (cwV 1 hts (gw_V wd_13_17 wd_13_14 wd_13_15 wd_13_16 wd_1_5) rfl rfl rfl qX6_landOf ⟨Nat.le_of_ble_eq_true rfl, Nat.le_of_ble_eq_true rfl⟩) (kg_preVR (ci := 6) (q := (RX6, TX6, 30)) (q0 := 0) hPc hK hN rfl rfl) rfl rfl hl.1 rfl (lv_room (Nat.le_of_ble_eq_true rfl)) dX6_frail_21 ⟨Nat.zero_le _, Nat.zero_le _⟩) ?_
              refine lv_aload_n hx hb dX6_frail_24 rfl (lv_at hl 0 rfl) ?_
              refine lv_iload_n hx hb dX6_frail_25 rfl (lv_at hl 3 rfl) ?_
              obtain ⟨g26, hc, hf⟩ := ob_bind hf
              have hPc : va_P (dC, dI) vwCl (wMd cI cJ A x) s.heap := hP
              refine kg_retRi (va_runV (As := [.int v3]) (rest := [.int g21]) ⟨hx, hb, hml, hown, hts⟩ (c_X6_landOf l dC dI cI cJ A s.heap x v3 _ hc) (cwV 1 hts (gw_V wd_13_17 wd_13_14 wd_13_15 wd_13_16 wd_1_5) rfl rfl rfl qX6_landOf ⟨Nat.le_of_ble_eq_true rfl, Nat.le_of_ble_eq_true rfl⟩) (kg_preVR (ci := 6) (q := (RX6, TX6, 30)) (q0 := 0) hPc hK hN rfl rfl) rfl rfl hl.1 rfl (lv_room (Nat.le_of_ble_eq_true rfl)) dX6_frail_26 ⟨Nat.zero_le _, Nat.zero_le _⟩) ?_
              refine kg_icmp_ne (tgt := 49) hx hb hf dX6_frail_29 (by decide) (fun hc hf => ?_) (fun hc hf => ?_)
              · refine lv_iinc (v := (v3 + 1)) (lv' := [(3, .int (v3 + 1)), (0, .ref (A 0)), (1, .int v1), (2, .int v2)]) hx hb dX6_frail_49 hl (k := 3) rfl rfl (by decide) rfl (fun ls hl => ?_)
                refine lv_goto (tgt := 14) hx hb dX6_frail_52 (by decide) ?_
                obtain rfl := Option.some.inj hf
                exact ih2 v1 (v3 + 1) hk2 _ (lv_sub hl [1, 2, 3, 0] rfl)
              · refine lv_aload_n hx hb dX6_frail_32 rfl (lv_at hl 0 rfl) ?_
                refine lv_iload_n hx hb dX6_frail_33 rfl (lv_at hl 2 rfl) ?_
                obtain ⟨g34, hc, hf⟩ := ob_bind hf
                have hPc : va_P (dC, dI) vwCl (wMd cI cJ A x) s.heap := hP
                refine kg_retRi (va_runV (As := [.int v2]) (rest := []) ⟨hx, hb, hml, hown, hts⟩ (c_X6_blockAt l dC dI cI cJ A s.heap x v2 _ hc) (cwV 1 hts (gw_V wd_13_13 wd_13_10 wd_13_11 wd_13_12 wd_1_5) rfl rfl rfl qX6_blockAt ⟨Nat.le_of_ble_eq_true rfl, Nat.le_of_ble_eq_true rfl⟩) (kg_preVR (ci := 6) (q := (RX6, TX6, 30)) (q0 := 0) hPc hK hN rfl rfl) rfl rfl hl.1 rfl (lv_room (Nat.le_of_ble_eq_true rfl)) dX6_frail_34 ⟨Nat.zero_le _, Nat.zero_le _⟩) ?_
                refine lv_aload_n hx hb dX6_frail_37 rfl (lv_at hl 0 rfl) ?_
                refine lv_iload_n hx hb dX6_frail_38 rfl (lv_at hl 3 rfl) ?_
                obtain ⟨g39, hc, hf⟩ := ob_bind hf
                have hPc : va_P (dC, dI) vwCl (wMd cI cJ A x) s.heap := hP
                refine kg_retRi (va_runV (As := [.int v3]) (rest := [.int g34]) ⟨hx, hb, hml, hown, hts⟩ (c_X6_blockAt l dC dI cI cJ A s.heap x v3 _ hc) (cwV 1 hts (gw_V wd_13_13 wd_13_10 wd_13_11 wd_13_12 wd_1_5) rfl rfl rfl qX6_blockAt ⟨Nat.le_of_ble_eq_true rfl, Nat.le_of_ble_eq_true rfl⟩) (kg_preVR (ci := 6) (q := (RX6, TX6, 30)) (q0 := 0) hPc hK hN rfl rfl) rfl rfl hl.1 rfl (lv_room (Nat.le_of_ble_eq_true rfl)) dX6_frail_39 ⟨Nat.zero_le _, Nat.zero_le _⟩) ?_
                refine kg_icmp_eq (tgt := 49) hx hb hf dX6_frail_42 (by decide) (fun hc hf => ?_) (fun hc hf => ?_)
                · refine lv_iinc (v := (v3 + 1)) (lv' := [(3, .int (v3 + 1)), (0, .ref (A 0)), (1, .int v1), (2, .int v2)]) hx hb dX6_frail_49 hl (k := 3) rfl rfl (by decide) rfl (fun ls hl => ?_)
                  refine lv_goto (tgt := 14) hx hb dX6_frail_52 (by decide) ?_
                  obtain rfl := Option.some.inj hf
                  exact ih2 v1 (v3 + 1) hk2 _ (lv_sub hl [1, 2, 3, 0] rfl)
                · refine lv_iload_n hx hb dX6_frail_45 rfl (lv_at hl 1 rfl) ?_
                  refine lv_iconst (v := 1) hx hb dX6_frail_46 (by decide) ?_
                  refine lv_iadd hx hb dX6_frail_47 ?_
                  refine lv_istore_n (lv' := [(1, .int (v1 + 1)), (0, .ref (A 0)), (2, .int v2), (3, .int v3)]) hx hb dX6_frail_48 rfl hl (by decide) rfl (fun ls hl => ?_)
                  refine lv_iinc (v := (v3 + 1)) (lv' := [(3, .int (v3 + 1)), (1, .int (v1 + 1)), (0, .ref (A 0)), (2, .int v2)]) hx hb dX6_frail_49 hl (k := 3) rfl rfl (by decide) rfl (fun ls hl => ?_)
                  refine lv_goto (tgt := 14) hx hb dX6_frail_52 (by decide) ?_
                  obtain rfl := Option.some.inj hf
                  exact ih2 (v1 + 1) (v3 + 1) hk2 _ (lv_sub hl [2, 1, 3, 0] rfl)
        exact hlp14 v2 FU v1 0 hf _ (lv_sub hl [1, 2, 3, 0] rfl)
  exact hlp4  FU 0 0 hf _ (lv_sub hl [2, 1, 0] rfl)
set_option maxHeartbeats 4000000 in
set_option maxRecDepth 100000 in
theorem c_X6_safePairs (l : Launch) (dC : Nat → ClassId) (dI : Nat → Nat → Nat) (cI cJ : ClassId) (A : Nat → Nat) (hq : Heap) (x : MdS) (r0 : Int32) (hf : Md_m_safePairs x = some r0) : MRi l yX6_safePairs (wAll yX6_safePairs cX6_safePairs 4 (some .int)) ({ frames := 3, cells := 0, slots := 0, locals := 87 } : Room) [.ref (A 0)] hq (dC, dI) (vTy cI cJ) (wMd cI cJ A x) r0 := by
  refine kg_metR (cc := cX6_safePairs) (maxL := 4) (ret := (some .int)) (by decide) rfl (Nat.le_of_ble_eq_true rfl) ?_
  intro p e s m args below meth c hx hb hr hts hown hlk hml hH hP hK hN ls hl
  subst hH
  have hl : lv_has ls 4 [(0, .ref (A 0))] := hl
  have ww0 := hts (.fieldLink RX6 7 "SafeBlocksModel" "n" "I") (List.mem_cons_of_mem _ wd_7_23)
  have hiX6 : ∀ w ∈ u_ws RX6 TX6 30, w ∈ wAll yX6_safePairs cX6_safePairs 4 (some .int) := fun w h => List.mem_cons_of_mem _ (inlX6 w h)
  unfold Md_m_safePairs at hf
  refine lv_iconst (v := 0) hx hb dX6_safePairs_0 (by decide) ?_
  refine lv_istore_n (lv' := [(1, .int 0), (0, .ref (A 0))]) hx hb dX6_safePairs_1 rfl hl (by decide) rfl (fun ls hl => ?_)
  refine lv_iconst (v := 0) hx hb dX6_safePairs_2 (by decide) ?_
  refine lv_istore_n (lv' := [(2, .int 0), (1, .int 0), (0, .ref (A 0))]) hx hb dX6_safePairs_3 rfl hl (by decide) rfl (fun ls hl => ?_)
  have hlp4 : ∀ (n : Nat) (v1 : Int32) (v2 : Int32), iter (fun p : Int32 × Int32 => Md_m_safePairs_s4 x p.1 p.2) n (v1, v2) = some r0 → ∀ (ls : Array Slot), lv_has ls 4 [(0, .ref (A 0)), (1, .int v1), (2, .int v2)] → W p l e ({ frames := 3, cells := 0, slots := 0, locals := 87 } : Room) s m args below meth c s.heap [] 0 0 (MQ below (QRi s.heap r0) args s 0 0 NoA) (F0 m 4 ls []) := by
    intro  n
    induction n with
    | zero => intro v1 v2 hf; exact iter_zero hf
    | succ n ih1 =>
      intro v1 v2 hf ls hl
      obtain ⟨q1, hf, hk1⟩ := iter_succ hf
      have hf : Md_m_safePairs_s4 x v1 v2 = some q1 := hf
      unfold Md_m_safePairs_s4 at hf
      refine lv_iload_n hx hb dX6_safePairs_4 rfl (lv_at hl 2 rfl) ?_
      refine lv_aload_n hx hb dX6_safePairs_5 rfl (lv_at hl 0 rfl) ?_
      refine va_get (D := (dC, dI)) (ci := 6) (v := .int (Md_n x)) (C := RX6) (T := TX6) (N := 30) hx hb hts hiX6 hown hK hP 0 rfl rfl 1 (by decide) ww0 (fun _ h9 => h9) rfl dX6_safePairs_6 ?_
      refine kg_icmp_ge (tgt := 44) hx hb hf dX6_safePairs_9 (by decide) (fun hc hf => ?_) (fun hc hf => ?_)
      · obtain ⟨qq, hf, hqq⟩ := omap_some hf
        have hkq : qq = r0 := by rw [← hqq] at hk1; exact hk1
        rw [hkq] at hf
        clear hkq hqq
        refine lv_iload_n hx hb dX6_safePairs_44 rfl (lv_at hl 1 rfl) ?_
        obtain rfl := Option.some.inj hf
        exact kg_iretR hx hb hr hlk rfl dX6_safePairs_45
      · refine lv_iconst (v := 0) hx hb dX6_safePairs_12 (by decide) ?_
        refine lv_istore_n (lv' := [(3, .int 0), (0, .ref (A 0)), (1, .int v1), (2, .int v2)]) hx hb dX6_safePairs_13 rfl hl (by decide) rfl (fun ls hl => ?_)
        have hlp14 : ∀ (v2 : Int32), ∀ (n : Nat) (v1 : Int32) (v3 : Int32), iter (fun p : Int32 × Int32 => Md_m_safePairs_s14 x v2 p.1 p.2) n (v1, v3) = some q1 → ∀ (ls : Array Slot), lv_has ls 4 [(0, .ref (A 0)), (1, .int v1), (2, .int v2), (3, .int v3)] → W p l e ({ frames := 3, cells := 0, slots := 0, locals := 87 } : Room) s m args below meth c s.heap [] 0 0 (MQ below (QRi s.heap r0) args s 0 0 NoA) (F0 m 14 ls []) := by
          intro v2 n
          induction n with
          | zero => intro v1 v3 hf; exact iter_zero hf
          | succ n ih2 =>
            intro v1 v3 hf ls hl
            obtain ⟨q2, hf, hk2⟩ := iter_succ hf
            have hf : Md_m_safePairs_s14 x v2 v1 v3 = some q2 := hf
            unfold Md_m_safePairs_s14 at hf
            refine lv_iload_n hx hb dX6_safePairs_14 rfl (lv_at hl 3 rfl) ?_
            refine lv_iload_n hx hb dX6_safePairs_15 rfl (lv_at hl 2 rfl) ?_
            refine kg_icmp_ge (tgt := 38) hx hb hf dX6_safePairs_16 (by decide) (fun hc hf => ?_) (fun hc hf => ?_)
            · obtain ⟨qq, hf, hqq⟩ := omap_some hf
              have hkq : qq = q1 := by rw [← hqq] at hk2; exact hk2
              rw [hkq] at hf
              clear hkq hqq
              refine lv_iinc (v := (v2 + 1)) (lv' := [(2, .int (v2 + 1)), (0, .ref (A 0)), (1, .int v1), (3, .int v3)]) hx hb dX6_safePairs_38 hl (k := 2) rfl rfl (by decide) rfl (fun ls hl => ?_)
              refine lv_goto (tgt := 4) hx hb dX6_safePairs_41 (by decide) ?_
              obtain rfl := Option.some.inj hf
              exact ih1 v1 (v2 + 1) hk1 _ (lv_sub hl [1, 2, 0] rfl)
            · refine lv_aload_n hx hb dX6_safePairs_19 rfl (lv_at hl 0 rfl) ?_
              refine lv_iload_n hx hb dX6_safePairs_20 rfl (lv_at hl 2 rfl) ?_
              refine lv_iload_n hx hb dX6_safePairs_21 rfl (lv_at hl 3 rfl) ?_
              obtain ⟨g22, hc, hf⟩ := ob_bind hf
              have hPc : va_P (dC, dI) vwCl (wMd cI cJ A x) s.heap := hP
              refine kg_retRi (va_runV (As := [.int v2, .int v3]) (rest := []) ⟨hx, hb, hml, hown, hts⟩ (c_X6_areSafe l dC dI cI cJ A s.heap x v2 v3 _ hc) (cwV 2 hts (gw_V wd_33_6 wd_33_3 wd_33_4 wd_33_5 wd_1_5) rfl rfl rfl qX6_areSafe ⟨Nat.le_of_ble_eq_true rfl, Nat.le_of_ble_eq_true rfl⟩) (kg_preVR (ci := 6) (q := (RX6, TX6, 30)) (q0 := 0) hPc hK hN rfl rfl) rfl rfl hl.1 rfl (lv_room (Nat.le_of_ble_eq_true rfl)) dX6_safePairs_22 ⟨Nat.zero_le _, Nat.zero_le _⟩) ?_
              refine kg_b_eq (tgt := 32) hx hb hf dX6_safePairs_25 (by decide) (fun hc hf => ?_) (fun hc hf => ?_)
              · refine lv_iinc (v := (v3 + 1)) (lv' := [(3, .int (v3 + 1)), (0, .ref (A 0)), (1, .int v1), (2, .int v2)]) hx hb dX6_safePairs_32 hl (k := 3) rfl rfl (by decide) rfl (fun ls hl => ?_)
                refine lv_goto (tgt := 14) hx hb dX6_safePairs_35 (by decide) ?_
                obtain rfl := Option.some.inj hf
                exact ih2 v1 (v3 + 1) hk2 _ (lv_sub hl [1, 2, 3, 0] rfl)
              · refine lv_iload_n hx hb dX6_safePairs_28 rfl (lv_at hl 1 rfl) ?_
                refine lv_iconst (v := 1) hx hb dX6_safePairs_29 (by decide) ?_
                refine lv_iadd hx hb dX6_safePairs_30 ?_
                refine lv_istore_n (lv' := [(1, .int (v1 + 1)), (0, .ref (A 0)), (2, .int v2), (3, .int v3)]) hx hb dX6_safePairs_31 rfl hl (by decide) rfl (fun ls hl => ?_)
                refine lv_iinc (v := (v3 + 1)) (lv' := [(3, .int (v3 + 1)), (1, .int (v1 + 1)), (0, .ref (A 0)), (2, .int v2)]) hx hb dX6_safePairs_32 hl (k := 3) rfl rfl (by decide) rfl (fun ls hl => ?_)
                refine lv_goto (tgt := 14) hx hb dX6_safePairs_35 (by decide) ?_
                obtain rfl := Option.some.inj hf
                exact ih2 (v1 + 1) (v3 + 1) hk2 _ (lv_sub hl [2, 1, 3, 0] rfl)
        exact hlp14 v2 FU v1 0 hf _ (lv_sub hl [1, 2, 3, 0] rfl)
  exact hlp4  FU 0 0 hf _ (lv_sub hl [2, 1, 0] rfl)
set_option maxHeartbeats 4000000 in
set_option maxRecDepth 100000 in
theorem c_X6_mends (l : Launch) (dC : Nat → ClassId) (dI : Nat → Nat → Nat) (cI cJ : ClassId) (A : Nat → Nat) (hq : Heap) (x : MdS) (r0 : Int32) (hf : Md_m_mends x = some r0) : MRi l yX6_mends (wAll yX6_mends cX6_mends 3 (some .int)) ({ frames := 7, cells := 0, slots := 0, locals := 174 } : Room) [.ref (A 0)] hq (dC, dI) (vTy cI cJ) (wMd cI cJ A x) r0 := by
  refine kg_metR (cc := cX6_mends) (maxL := 3) (ret := (some .int)) (by decide) rfl (Nat.le_of_ble_eq_true rfl) ?_
  intro p e s m args below meth c hx hb hr hts hown hlk hml hH hP hK hN ls hl
  subst hH
  have hl : lv_has ls 3 [(0, .ref (A 0))] := hl
  have ww0 := hts (.fieldLink RX6 7 "SafeBlocksModel" "n" "I") (List.mem_cons_of_mem _ wd_7_23)
  have hiX6 : ∀ w ∈ u_ws RX6 TX6 30, w ∈ wAll yX6_mends cX6_mends 3 (some .int) := fun w h => List.mem_cons_of_mem _ (inlX6 w h)
  unfold Md_m_mends at hf
  refine lv_iconst (v := 0) hx hb dX6_mends_0 (by decide) ?_
  refine lv_istore_n (lv' := [(1, .int 0), (0, .ref (A 0))]) hx hb dX6_mends_1 rfl hl (by decide) rfl (fun ls hl => ?_)
  refine lv_iconst (v := 0) hx hb dX6_mends_2 (by decide) ?_
  refine lv_istore_n (lv' := [(2, .int 0), (1, .int 0), (0, .ref (A 0))]) hx hb dX6_mends_3 rfl hl (by decide) rfl (fun ls hl => ?_)
  have hlp4 : ∀ (n : Nat) (v1 : Int32) (v2 : Int32), iter (fun p : Int32 × Int32 => Md_m_mends_s4 x p.1 p.2) n (v1, v2) = some r0 → ∀ (ls : Array Slot), lv_has ls 3 [(0, .ref (A 0)), (1, .int v1), (2, .int v2)] → W p l e ({ frames := 7, cells := 0, slots := 0, locals := 174 } : Room) s m args below meth c s.heap [] 0 0 (MQ below (QRi s.heap r0) args s 0 0 NoA) (F0 m 4 ls []) := by
    intro  n
    induction n with
    | zero => intro v1 v2 hf; exact iter_zero hf
    | succ n ih1 =>
      intro v1 v2 hf ls hl
      obtain ⟨q1, hf, hk1⟩ := iter_succ hf
      have hf : Md_m_mends_s4 x v1 v2 = some q1 := hf
      unfold Md_m_mends_s4 at hf
      refine lv_iload_n hx hb dX6_mends_4 rfl (lv_at hl 2 rfl) ?_
      refine lv_aload_n hx hb dX6_mends_5 rfl (lv_at hl 0 rfl) ?_
      refine va_get (D := (dC, dI)) (ci := 6) (v := .int (Md_n x)) (C := RX6) (T := TX6) (N := 30) hx hb hts hiX6 hown hK hP 0 rfl rfl 1 (by decide) ww0 (fun _ h9 => h9) rfl dX6_mends_6 ?_
      refine kg_icmp_ge (tgt := 34) hx hb hf dX6_mends_9 (by decide) (fun hc hf => ?_) (fun hc hf => ?_)
      · obtain ⟨qq, hf, hqq⟩ := omap_some hf
        have hkq : qq = r0 := by rw [← hqq] at hk1; exact hk1
        rw [hkq] at hf
        clear hkq hqq
        refine lv_iload_n hx hb dX6_mends_34 rfl (lv_at hl 1 rfl) ?_
        obtain rfl := Option.some.inj hf
        exact kg_iretR hx hb hr hlk rfl dX6_mends_35
      · refine lv_aload_n hx hb dX6_mends_12 rfl (lv_at hl 0 rfl) ?_
        refine lv_iload_n hx hb dX6_mends_13 rfl (lv_at hl 2 rfl) ?_
        obtain ⟨g14, hc, hf⟩ := ob_bind hf
        have hPc : va_P (dC, dI) vwCl (wMd cI cJ A x) s.heap := hP
        refine kg_retRi (va_runV (As := [.int v2]) (rest := []) ⟨hx, hb, hml, hown, hts⟩ (c_X6_isLand l dC dI cI cJ A s.heap x v2 _ hc) (cwV 1 hts (gw_V wd_29_15 wd_29_12 wd_29_13 wd_29_14 wd_1_5) rfl rfl rfl qX6_isLand ⟨Nat.le_of_ble_eq_true rfl, Nat.le_of_ble_eq_true rfl⟩) (kg_preVR (ci := 6) (q := (RX6, TX6, 30)) (q0 := 0) hPc hK hN rfl rfl) rfl rfl hl.1 rfl (lv_room (Nat.le_of_ble_eq_true rfl)) dX6_mends_14 ⟨Nat.zero_le _, Nat.zero_le _⟩) ?_
        refine kg_b_eq (tgt := 28) hx hb hf dX6_mends_17 (by decide) (fun hc hf => ?_) (fun hc hf => ?_)
        · refine lv_iinc (v := (v2 + 1)) (lv' := [(2, .int (v2 + 1)), (0, .ref (A 0)), (1, .int v1)]) hx hb dX6_mends_28 hl (k := 2) rfl rfl (by decide) rfl (fun ls hl => ?_)
          refine lv_goto (tgt := 4) hx hb dX6_mends_31 (by decide) ?_
          obtain rfl := Option.some.inj hf
          exact ih1 v1 (v2 + 1) hk1 _ (lv_sub hl [1, 2, 0] rfl)
        · refine lv_iload_n hx hb dX6_mends_20 rfl (lv_at hl 1 rfl) ?_
          refine lv_aload_n hx hb dX6_mends_21 rfl (lv_at hl 0 rfl) ?_
          refine lv_iload_n hx hb dX6_mends_22 rfl (lv_at hl 2 rfl) ?_
          obtain ⟨g23, hc, hf⟩ := ob_bind hf
          have hPc : va_P (dC, dI) vwCl (wMd cI cJ A x) s.heap := hP
          refine kg_retRi (va_runV (As := [.int v2]) (rest := [.int v1]) ⟨hx, hb, hml, hown, hts⟩ (c_X6_mend l dC dI cI cJ A s.heap x v2 _ hc) (cwV 1 hts (gw_V wd_30_11 wd_30_8 wd_30_9 wd_30_10 wd_1_5) rfl rfl rfl qX6_mend ⟨Nat.le_of_ble_eq_true rfl, Nat.le_of_ble_eq_true rfl⟩) (kg_preVR (ci := 6) (q := (RX6, TX6, 30)) (q0 := 0) hPc hK hN rfl rfl) rfl rfl hl.1 rfl (lv_room (Nat.le_of_ble_eq_true rfl)) dX6_mends_23 ⟨Nat.zero_le _, Nat.zero_le _⟩) ?_
          refine lv_iadd hx hb dX6_mends_26 ?_
          refine lv_istore_n (lv' := [(1, .int (v1 + g23)), (0, .ref (A 0)), (2, .int v2)]) hx hb dX6_mends_27 rfl hl (by decide) rfl (fun ls hl => ?_)
          refine lv_iinc (v := (v2 + 1)) (lv' := [(2, .int (v2 + 1)), (1, .int (v1 + g23)), (0, .ref (A 0))]) hx hb dX6_mends_28 hl (k := 2) rfl rfl (by decide) rfl (fun ls hl => ?_)
          refine lv_goto (tgt := 4) hx hb dX6_mends_31 (by decide) ?_
          obtain rfl := Option.some.inj hf
          exact ih1 (v1 + g23) (v2 + 1) hk1 _ (lv_sub hl [2, 1, 0] rfl)
  exact hlp4  FU 0 0 hf _ (lv_sub hl [2, 1, 0] rfl)
set_option maxHeartbeats 4000000 in
set_option maxRecDepth 100000 in
theorem c_X6_deepest (l : Launch) (dC : Nat → ClassId) (dI : Nat → Nat → Nat) (cI cJ : ClassId) (A : Nat → Nat) (hq : Heap) (x : MdS) (r0 : Int32) (hf : Md_m_deepest x = some r0) : MRi l yX6_deepest (wAll yX6_deepest cX6_deepest 3 (some .int)) ({ frames := 2, cells := 0, slots := 0, locals := 63 } : Room) [.ref (A 0)] hq (dC, dI) (vTy cI cJ) (wMd cI cJ A x) r0 := by
  refine kg_metR (cc := cX6_deepest) (maxL := 3) (ret := (some .int)) (by decide) rfl (Nat.le_of_ble_eq_true rfl) ?_
  intro p e s m args below meth c hx hb hr hts hown hlk hml hH hP hK hN ls hl
  subst hH
  have hl : lv_has ls 3 [(0, .ref (A 0))] := hl
  have ww0 := hts (.fieldLink RX6 7 "SafeBlocksModel" "n" "I") (List.mem_cons_of_mem _ wd_7_23)
  have ww1 := hts (.methodLink RX6 93 Lib.Math.max.name) (List.mem_cons_of_mem _ wd_14_6)
  have ww2 := hts (.static Lib.Math.max.name) (List.mem_cons_of_mem _ wd_14_7)
  have ww3 := hts (.initialized "java/lang/Math") (List.mem_cons_of_mem _ wd_14_8)
  have ww4 := hts (.code Lib.Math.max.name Lib.Math.max.code 2 (some .int)) (List.mem_cons_of_mem _ wd_14_9)
  have hiX6 : ∀ w ∈ u_ws RX6 TX6 30, w ∈ wAll yX6_deepest cX6_deepest 3 (some .int) := fun w h => List.mem_cons_of_mem _ (inlX6 w h)
  unfold Md_m_deepest at hf
  refine lv_iconst (v := 0) hx hb dX6_deepest_0 (by decide) ?_
  refine lv_istore_n (lv' := [(1, .int 0), (0, .ref (A 0))]) hx hb dX6_deepest_1 rfl hl (by decide) rfl (fun ls hl => ?_)
  refine lv_iconst (v := 0) hx hb dX6_deepest_2 (by decide) ?_
  refine lv_istore_n (lv' := [(2, .int 0), (1, .int 0), (0, .ref (A 0))]) hx hb dX6_deepest_3 rfl hl (by decide) rfl (fun ls hl => ?_)
  have hlp4 : ∀ (n : Nat) (v1 : Int32) (v2 : Int32), iter (fun p : Int32 × Int32 => Md_m_deepest_s4 x p.1 p.2) n (v1, v2) = some r0 → ∀ (ls : Array Slot), lv_has ls 3 [(0, .ref (A 0)), (1, .int v1), (2, .int v2)] → W p l e ({ frames := 2, cells := 0, slots := 0, locals := 63 } : Room) s m args below meth c s.heap [] 0 0 (MQ below (QRi s.heap r0) args s 0 0 NoA) (F0 m 4 ls []) := by
    intro  n
    induction n with
    | zero => intro v1 v2 hf; exact iter_zero hf
    | succ n ih1 =>
      intro v1 v2 hf ls hl
      obtain ⟨q1, hf, hk1⟩ := iter_succ hf
      have hf : Md_m_deepest_s4 x v1 v2 = some q1 := hf
      unfold Md_m_deepest_s4 at hf
      refine lv_iload_n hx hb dX6_deepest_4 rfl (lv_at hl 2 rfl) ?_
      refine lv_aload_n hx hb dX6_deepest_5 rfl (lv_at hl 0 rfl) ?_
      refine va_get (D := (dC, dI)) (ci := 6) (v := .int (Md_n x)) (C := RX6) (T := TX6) (N := 30) hx hb hts hiX6 hown hK hP 0 rfl rfl 1 (by decide) ww0 (fun _ h9 => h9) rfl dX6_deepest_6 ?_
      refine kg_icmp_ge (tgt := 32) hx hb hf dX6_deepest_9 (by decide) (fun hc hf => ?_) (fun hc hf => ?_)
      · obtain ⟨qq, hf, hqq⟩ := omap_some hf
        have hkq : qq = r0 := by rw [← hqq] at hk1; exact hk1
        rw [hkq] at hf
        clear hkq hqq
        refine lv_iload_n hx hb dX6_deepest_32 rfl (lv_at hl 1 rfl) ?_
        obtain rfl := Option.some.inj hf
        exact kg_iretR hx hb hr hlk rfl dX6_deepest_33
      · refine lv_iload_n hx hb dX6_deepest_12 rfl (lv_at hl 1 rfl) ?_
        refine lv_aload_n hx hb dX6_deepest_13 rfl (lv_at hl 0 rfl) ?_
        refine lv_aload_n hx hb dX6_deepest_14 rfl (lv_at hl 0 rfl) ?_
        refine lv_iload_n hx hb dX6_deepest_15 rfl (lv_at hl 2 rfl) ?_
        obtain ⟨g16, hc, hf⟩ := ob_bind hf
        have hPc : va_P (dC, dI) vwCl (wMd cI cJ A x) s.heap := hP
        refine kg_retRi (va_runV (As := [.int v2]) (rest := [.ref (A 0), .int v1]) ⟨hx, hb, hml, hown, hts⟩ (c_X6_blockAt l dC dI cI cJ A s.heap x v2 _ hc) (cwV 1 hts (gw_V wd_13_13 wd_13_10 wd_13_11 wd_13_12 wd_1_5) rfl rfl rfl qX6_blockAt ⟨Nat.le_of_ble_eq_true rfl, Nat.le_of_ble_eq_true rfl⟩) (kg_preVR (ci := 6) (q := (RX6, TX6, 30)) (q0 := 0) hPc hK hN rfl rfl) rfl rfl hl.1 rfl (lv_room (Nat.le_of_ble_eq_true rfl)) dX6_deepest_16 ⟨Nat.zero_le _, Nat.zero_le _⟩) ?_
        obtain ⟨g19, hc, hf⟩ := ob_bind hf
        have hPc : va_P (dC, dI) vwCl (wMd cI cJ A x) s.heap := hP
        refine kg_retRi (va_runV (As := [.int g16]) (rest := [.int v1]) ⟨hx, hb, hml, hown, hts⟩ (c_X6_deep l dC dI cI cJ A s.heap x g16 _ hc) (cwV 1 hts (gw_V wd_14_21 wd_14_18 wd_14_19 wd_14_20 wd_1_5) rfl rfl rfl qX6_deep ⟨Nat.le_of_ble_eq_true rfl, Nat.le_of_ble_eq_true rfl⟩) (kg_preVR (ci := 6) (q := (RX6, TX6, 30)) (q0 := 0) hPc hK hN rfl rfl) rfl rfl hl.1 rfl (lv_room (Nat.le_of_ble_eq_true rfl)) dX6_deepest_19 ⟨Nat.zero_le _, Nat.zero_le _⟩) ?_
        refine va_mmax hx hb (by rw [hml]; exact hl.1.symm) hown ww1 ww2 ww3 ww4 (Nat.le_of_ble_eq_true rfl) (Nat.le_of_ble_eq_true rfl) (Nat.zero_le _) (Nat.zero_le _) dX6_deepest_22 ?_
        refine lv_istore_n (lv' := [(1, .int (if v1 < g19 then g19 else v1)), (0, .ref (A 0)), (2, .int v2)]) hx hb dX6_deepest_25 rfl hl (by decide) rfl (fun ls hl => ?_)
        refine lv_iinc (v := (v2 + 1)) (lv' := [(2, .int (v2 + 1)), (1, .int (if v1 < g19 then g19 else v1)), (0, .ref (A 0))]) hx hb dX6_deepest_26 hl (k := 2) rfl rfl (by decide) rfl (fun ls hl => ?_)
        refine lv_goto (tgt := 4) hx hb dX6_deepest_29 (by decide) ?_
        obtain rfl := Option.some.inj hf
        exact ih1 (if v1 < g19 then g19 else v1) (v2 + 1) hk1 _ (lv_sub hl [2, 1, 0] rfl)
  exact hlp4  FU 0 0 hf _ (lv_sub hl [2, 1, 0] rfl)
set_option maxHeartbeats 4000000 in
set_option maxRecDepth 100000 in
theorem c_X6_cuts (l : Launch) (dC : Nat → ClassId) (dI : Nat → Nat → Nat) (cI cJ : ClassId) (A : Nat → Nat) (hq : Heap) (x : MdS) (r0 : Int32) (hf : Md_m_cuts x = some r0) : MRi l yX6_cuts (wAll yX6_cuts cX6_cuts 3 (some .int)) ({ frames := 4, cells := 0, slots := 0, locals := 108 } : Room) [.ref (A 0)] hq (dC, dI) (vTy cI cJ) (wMd cI cJ A x) r0 := by
  refine kg_metR (cc := cX6_cuts) (maxL := 3) (ret := (some .int)) (by decide) rfl (Nat.le_of_ble_eq_true rfl) ?_
  intro p e s m args below meth c hx hb hr hts hown hlk hml hH hP hK hN ls hl
  subst hH
  have hl : lv_has ls 3 [(0, .ref (A 0))] := hl
  have ww0 := hts (.fieldLink RX6 7 "SafeBlocksModel" "n" "I") (List.mem_cons_of_mem _ wd_7_23)
  have hiX6 : ∀ w ∈ u_ws RX6 TX6 30, w ∈ wAll yX6_cuts cX6_cuts 3 (some .int) := fun w h => List.mem_cons_of_mem _ (inlX6 w h)
  unfold Md_m_cuts at hf
  refine lv_iconst (v := 0) hx hb dX6_cuts_0 (by decide) ?_
  refine lv_istore_n (lv' := [(1, .int 0), (0, .ref (A 0))]) hx hb dX6_cuts_1 rfl hl (by decide) rfl (fun ls hl => ?_)
  refine lv_iconst (v := 0) hx hb dX6_cuts_2 (by decide) ?_
  refine lv_istore_n (lv' := [(2, .int 0), (1, .int 0), (0, .ref (A 0))]) hx hb dX6_cuts_3 rfl hl (by decide) rfl (fun ls hl => ?_)
  have hlp4 : ∀ (n : Nat) (v1 : Int32) (v2 : Int32), iter (fun p : Int32 × Int32 => Md_m_cuts_s4 x p.1 p.2) n (v1, v2) = some r0 → ∀ (ls : Array Slot), lv_has ls 3 [(0, .ref (A 0)), (1, .int v1), (2, .int v2)] → W p l e ({ frames := 4, cells := 0, slots := 0, locals := 108 } : Room) s m args below meth c s.heap [] 0 0 (MQ below (QRi s.heap r0) args s 0 0 NoA) (F0 m 4 ls []) := by
    intro  n
    induction n with
    | zero => intro v1 v2 hf; exact iter_zero hf
    | succ n ih1 =>
      intro v1 v2 hf ls hl
      obtain ⟨q1, hf, hk1⟩ := iter_succ hf
      have hf : Md_m_cuts_s4 x v1 v2 = some q1 := hf
      unfold Md_m_cuts_s4 at hf
      refine lv_iload_n hx hb dX6_cuts_4 rfl (lv_at hl 2 rfl) ?_
      refine lv_aload_n hx hb dX6_cuts_5 rfl (lv_at hl 0 rfl) ?_
      refine va_get (D := (dC, dI)) (ci := 6) (v := .int (Md_n x)) (C := RX6) (T := TX6) (N := 30) hx hb hts hiX6 hown hK hP 0 rfl rfl 1 (by decide) ww0 (fun _ h9 => h9) rfl dX6_cuts_6 ?_
      refine kg_icmp_ge (tgt := 30) hx hb hf dX6_cuts_9 (by decide) (fun hc hf => ?_) (fun hc hf => ?_)
      · obtain ⟨qq, hf, hqq⟩ := omap_some hf
        have hkq : qq = r0 := by rw [← hqq] at hk1; exact hk1
        rw [hkq] at hf
        clear hkq hqq
        refine lv_iload_n hx hb dX6_cuts_30 rfl (lv_at hl 1 rfl) ?_
        obtain rfl := Option.some.inj hf
        exact kg_iretR hx hb hr hlk rfl dX6_cuts_31
      · refine lv_aload_n hx hb dX6_cuts_12 rfl (lv_at hl 0 rfl) ?_
        refine lv_iload_n hx hb dX6_cuts_13 rfl (lv_at hl 2 rfl) ?_
        obtain ⟨g14, hc, hf⟩ := ob_bind hf
        have hPc : va_P (dC, dI) vwCl (wMd cI cJ A x) s.heap := hP
        refine kg_retRi (va_runV (As := [.int v2]) (rest := []) ⟨hx, hb, hml, hown, hts⟩ (c_X6_isCut l dC dI cI cJ A s.heap x v2 _ hc) (cwV 1 hts (gw_V wd_23_7 wd_23_4 wd_23_5 wd_23_6 wd_1_5) rfl rfl rfl qX6_isCut ⟨Nat.le_of_ble_eq_true rfl, Nat.le_of_ble_eq_true rfl⟩) (kg_preVR (ci := 6) (q := (RX6, TX6, 30)) (q0 := 0) hPc hK hN rfl rfl) rfl rfl hl.1 rfl (lv_room (Nat.le_of_ble_eq_true rfl)) dX6_cuts_14 ⟨Nat.zero_le _, Nat.zero_le _⟩) ?_
        refine kg_b_eq (tgt := 24) hx hb hf dX6_cuts_17 (by decide) (fun hc hf => ?_) (fun hc hf => ?_)
        · refine lv_iinc (v := (v2 + 1)) (lv' := [(2, .int (v2 + 1)), (0, .ref (A 0)), (1, .int v1)]) hx hb dX6_cuts_24 hl (k := 2) rfl rfl (by decide) rfl (fun ls hl => ?_)
          refine lv_goto (tgt := 4) hx hb dX6_cuts_27 (by decide) ?_
          obtain rfl := Option.some.inj hf
          exact ih1 v1 (v2 + 1) hk1 _ (lv_sub hl [1, 2, 0] rfl)
        · refine lv_iload_n hx hb dX6_cuts_20 rfl (lv_at hl 1 rfl) ?_
          refine lv_iconst (v := 1) hx hb dX6_cuts_21 (by decide) ?_
          refine lv_iadd hx hb dX6_cuts_22 ?_
          refine lv_istore_n (lv' := [(1, .int (v1 + 1)), (0, .ref (A 0)), (2, .int v2)]) hx hb dX6_cuts_23 rfl hl (by decide) rfl (fun ls hl => ?_)
          refine lv_iinc (v := (v2 + 1)) (lv' := [(2, .int (v2 + 1)), (1, .int (v1 + 1)), (0, .ref (A 0))]) hx hb dX6_cuts_24 hl (k := 2) rfl rfl (by decide) rfl (fun ls hl => ?_)
          refine lv_goto (tgt := 4) hx hb dX6_cuts_27 (by decide) ?_
          obtain rfl := Option.some.inj hf
          exact ih1 (v1 + 1) (v2 + 1) hk1 _ (lv_sub hl [2, 1, 0] rfl)
  exact hlp4  FU 0 0 hf _ (lv_sub hl [2, 1, 0] rfl)
