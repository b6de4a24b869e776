set_option maxHeartbeats 4000000 in
set_option maxRecDepth 100000 in
theorem c_X5_isNode (l : Launch) (dC : Nat → ClassId) (dI : Nat → Nat → Nat) (cI cJ : ClassId) (A : Nat → Nat) (hq : Heap) (x : SBS) (v1 : Int32) (r0 : Bool) (hf : SB_m_isNode x v1 = some r0) : MRi l yX5_isNode (wAll yX5_isNode cX5_isNode 2 (some .boolean)) ({ frames := 1, cells := 0, slots := 0, locals := 40 } : Room) [.ref (A 0), .int v1] hq (dC, dI) (vTy cI cJ) (wSB cI cJ A x) (b2i r0) := by
  refine kg_metR (cc := cX5_isNode) (maxL := 2) (ret := (some .boolean)) (by decide) rfl (Nat.le_of_ble_eq_true rfl) ?_
  intro p e s m args below meth c hx hb hr hts hown hlk hml hH hP hK hN ls hl
  subst hH
  have hl : lv_has ls 2 [(0, .ref (A 0)), (1, .int v1)] := hl
  have ww0 := hts (.fieldLink RX5 12 "SafeBlocks" "now" "LSafeBlocks$Web;") (List.mem_cons_of_mem _ wd_1_15)
  have ww1 := hts (.fieldLink RX5 65 "SafeBlocks$Web" "nodes" "I") (List.mem_cons_of_mem _ wd_10_0)
  have hiX5 : ∀ w ∈ u_ws RX5 TX5 6, w ∈ wAll yX5_isNode cX5_isNode 2 (some .boolean) := fun w h => List.mem_cons_of_mem _ (inlX5 w h)
  have hiX4 : ∀ w ∈ u_ws RX4 TX4 16, w ∈ wAll yX5_isNode cX5_isNode 2 (some .boolean) := fun w h => List.mem_cons_of_mem _ (inlX4 w h)
  unfold SB_m_isNode at hf
  refine lv_iload_n hx hb dX5_isNode_0 rfl (lv_at hl 1 rfl) ?_
  refine kg_if_lt (tgt := 19) hx hb hf dX5_isNode_1 (by decide) (fun hc hf => ?_) (fun hc hf => ?_)
  · refine lv_iconst (v := 0) hx hb dX5_isNode_19 (by decide) ?_
    obtain rfl := Option.some.inj hf
    exact kg_zretR (b := false) hx hb hr hlk rfl rfl dX5_isNode_20
  · refine lv_iload_n hx hb dX5_isNode_4 rfl (lv_at hl 1 rfl) ?_
    refine lv_aload_n hx hb dX5_isNode_5 rfl (lv_at hl 0 rfl) ?_
    refine va_get (D := (dC, dI)) (ci := 5) (v := .ref (A 1)) (C := RX5) (T := TX5) (N := 6) hx hb hts hiX5 hown hK hP 0 rfl rfl 0 (by decide) ww0 (fun _ h9 => h9) rfl dX5_isNode_6 ?_
    refine va_get (D := (dC, dI)) (ci := 4) (v := .int (Wb_nodes (SB_now x))) (C := RX4) (T := TX4) (N := 16) hx hb hts hiX4 hown hK hP 1 rfl rfl 10 (by decide) ww1 (fun _ h9 => h9) rfl dX5_isNode_9 ?_
    refine kg_icmp_ge (tgt := 19) hx hb hf dX5_isNode_12 (by decide) (fun hc hf => ?_) (fun hc hf => ?_)
    · refine lv_iconst (v := 0) hx hb dX5_isNode_19 (by decide) ?_
      obtain rfl := Option.some.inj hf
      exact kg_zretR (b := false) hx hb hr hlk rfl rfl dX5_isNode_20
    · refine lv_iconst (v := 1) hx hb dX5_isNode_15 (by decide) ?_
      refine lv_goto (tgt := 20) hx hb dX5_isNode_16 (by decide) ?_
      obtain rfl := Option.some.inj hf
      exact kg_zretR (b := true) hx hb hr hlk rfl rfl dX5_isNode_20
set_option maxHeartbeats 4000000 in
set_option maxRecDepth 100000 in
theorem c_X5_areTwoNodes (l : Launch) (dC : Nat → ClassId) (dI : Nat → Nat → Nat) (cI cJ : ClassId) (A : Nat → Nat) (hq : Heap) (x : SBS) (v1 : Int32) (v2 : Int32) (r0 : Bool) (hf : SB_m_areTwoNodes x v1 v2 = some r0) : MRi l yX5_areTwoNodes (wAll yX5_areTwoNodes cX5_areTwoNodes 3 (some .boolean)) ({ frames := 2, cells := 0, slots := 0, locals := 61 } : Room) [.ref (A 0), .int v1, .int v2] hq (dC, dI) (vTy cI cJ) (wSB cI cJ A x) (b2i r0) := by
  refine kg_metR (cc := cX5_areTwoNodes) (maxL := 3) (ret := (some .boolean)) (by decide) rfl (Nat.le_of_ble_eq_true rfl) ?_
  intro p e s m args below meth c hx hb hr hts hown hlk hml hH hP hK hN ls hl
  subst hH
  have hl : lv_has ls 3 [(0, .ref (A 0)), (1, .int v1), (2, .int v2)] := hl
  unfold SB_m_areTwoNodes at hf
  refine lv_aload_n hx hb dX5_areTwoNodes_0 rfl (lv_at hl 0 rfl) ?_
  refine lv_iload_n hx hb dX5_areTwoNodes_1 rfl (lv_at hl 1 rfl) ?_
  obtain ⟨g2, hc, hf⟩ := ob_bind hf
  have hPc : va_P (dC, dI) vwCl (wSB cI cJ A x) s.heap := hP
  refine kg_retRi (va_runV (As := [.int v1]) (rest := []) ⟨hx, hb, hml, hown, hts⟩ (c_X5_isNode l dC dI cI cJ A s.heap x v1 _ hc) (cwV 1 hts (gw_V wd_9_23 wd_9_20 wd_9_21 wd_9_22 wd_1_2) rfl rfl rfl qX5_isNode ⟨Nat.le_of_ble_eq_true rfl, Nat.le_of_ble_eq_true rfl⟩) (kg_preVR (ci := 5) (q := (RX5, TX5, 6)) (q0 := 0) hPc hK hN rfl rfl) rfl rfl hl.1 rfl (lv_room (Nat.le_of_ble_eq_true rfl)) dX5_areTwoNodes_2 ⟨Nat.zero_le _, Nat.zero_le _⟩) ?_
  refine kg_b_eq (tgt := 25) hx hb hf dX5_areTwoNodes_5 (by decide) (fun hc hf => ?_) (fun hc hf => ?_)
  · refine lv_iconst (v := 0) hx hb dX5_areTwoNodes_25 (by decide) ?_
    obtain rfl := Option.some.inj hf
    exact kg_zretR (b := false) hx hb hr hlk rfl rfl dX5_areTwoNodes_26
  · refine lv_aload_n hx hb dX5_areTwoNodes_8 rfl (lv_at hl 0 rfl) ?_
    refine lv_iload_n hx hb dX5_areTwoNodes_9 rfl (lv_at hl 2 rfl) ?_
    obtain ⟨g10, hc, hf⟩ := ob_bind hf
    have hPc : va_P (dC, dI) vwCl (wSB cI cJ A x) s.heap := hP
    refine kg_retRi (va_runV (As := [.int v2]) (rest := []) ⟨hx, hb, hml, hown, hts⟩ (c_X5_isNode l dC dI cI cJ A s.heap x v2 _ hc) (cwV 1 hts (gw_V wd_9_23 wd_9_20 wd_9_21 wd_9_22 wd_1_2) rfl rfl rfl qX5_isNode ⟨Nat.le_of_ble_eq_true rfl, Nat.le_of_ble_eq_true rfl⟩) (kg_preVR (ci := 5) (q := (RX5, TX5, 6)) (q0 := 0) hPc hK hN rfl rfl) rfl rfl hl.1 rfl (lv_room (Nat.le_of_ble_eq_true rfl)) dX5_areTwoNodes_10 ⟨Nat.zero_le _, Nat.zero_le _⟩) ?_
    refine kg_b_eq (tgt := 25) hx hb hf dX5_areTwoNodes_13 (by decide) (fun hc hf => ?_) (fun hc hf => ?_)
    · refine lv_iconst (v := 0) hx hb dX5_areTwoNodes_25 (by decide) ?_
      obtain rfl := Option.some.inj hf
      exact kg_zretR (b := false) hx hb hr hlk rfl rfl dX5_areTwoNodes_26
    · refine lv_iload_n hx hb dX5_areTwoNodes_16 rfl (lv_at hl 1 rfl) ?_
      refine lv_iload_n hx hb dX5_areTwoNodes_17 rfl (lv_at hl 2 rfl) ?_
      refine kg_icmp_eq (tgt := 25) hx hb hf dX5_areTwoNodes_18 (by decide) (fun hc hf => ?_) (fun hc hf => ?_)
      · refine lv_iconst (v := 0) hx hb dX5_areTwoNodes_25 (by decide) ?_
        obtain rfl := Option.some.inj hf
        exact kg_zretR (b := false) hx hb hr hlk rfl rfl dX5_areTwoNodes_26
      · refine lv_iconst (v := 1) hx hb dX5_areTwoNodes_21 (by decide) ?_
        refine lv_goto (tgt := 26) hx hb dX5_areTwoNodes_22 (by decide) ?_
        obtain rfl := Option.some.inj hf
        exact kg_zretR (b := true) hx hb hr hlk rfl rfl dX5_areTwoNodes_26
set_option maxHeartbeats 4000000 in
set_option maxRecDepth 100000 in
theorem c_X5_isLink (l : Launch) (dC : Nat → ClassId) (dI : Nat → Nat → Nat) (cI cJ : ClassId) (A : Nat → Nat) (hq : Heap) (x : SBS) (v1 : Int32) (r0 : Bool) (hf : SB_m_isLink x v1 = some r0) : MRi l yX5_isLink (wAll yX5_isLink cX5_isLink 2 (some .boolean)) ({ frames := 1, cells := 0, slots := 0, locals := 40 } : Room) [.ref (A 0), .int v1] hq (dC, dI) (vTy cI cJ) (wSB cI cJ A x) (b2i r0) := by
  refine kg_metR (cc := cX5_isLink) (maxL := 2) (ret := (some .boolean)) (by decide) rfl (Nat.le_of_ble_eq_true rfl) ?_
  intro p e s m args below meth c hx hb hr hts hown hlk hml hH hP hK hN ls hl
  subst hH
  have hl : lv_has ls 2 [(0, .ref (A 0)), (1, .int v1)] := hl
  have ww0 := hts (.fieldLink RX5 12 "SafeBlocks" "now" "LSafeBlocks$Web;") (List.mem_cons_of_mem _ wd_1_15)
  have ww1 := hts (.fieldLink RX5 55 "SafeBlocks$Web" "links" "I") (List.mem_cons_of_mem _ wd_9_15)
  have hiX5 : ∀ w ∈ u_ws RX5 TX5 6, w ∈ wAll yX5_isLink cX5_isLink 2 (some .boolean) := fun w h => List.mem_cons_of_mem _ (inlX5 w h)
  have hiX4 : ∀ w ∈ u_ws RX4 TX4 16, w ∈ wAll yX5_isLink cX5_isLink 2 (some .boolean) := fun w h => List.mem_cons_of_mem _ (inlX4 w h)
  unfold SB_m_isLink at hf
  refine lv_iload_n hx hb dX5_isLink_0 rfl (lv_at hl 1 rfl) ?_
  refine kg_if_lt (tgt := 19) hx hb hf dX5_isLink_1 (by decide) (fun hc hf => ?_) (fun hc hf => ?_)
  · refine lv_iconst (v := 0) hx hb dX5_isLink_19 (by decide) ?_
    obtain rfl := Option.some.inj hf
    exact kg_zretR (b := false) hx hb hr hlk rfl rfl dX5_isLink_20
  · refine lv_iload_n hx hb dX5_isLink_4 rfl (lv_at hl 1 rfl) ?_
    refine lv_aload_n hx hb dX5_isLink_5 rfl (lv_at hl 0 rfl) ?_
    refine va_get (D := (dC, dI)) (ci := 5) (v := .ref (A 1)) (C := RX5) (T := TX5) (N := 6) hx hb hts hiX5 hown hK hP 0 rfl rfl 0 (by decide) ww0 (fun _ h9 => h9) rfl dX5_isLink_6 ?_
    refine va_get (D := (dC, dI)) (ci := 4) (v := .int (Wb_links (SB_now x))) (C := RX4) (T := TX4) (N := 16) hx hb hts hiX4 hown hK hP 1 rfl rfl 11 (by decide) ww1 (fun _ h9 => h9) rfl dX5_isLink_9 ?_
    refine kg_icmp_ge (tgt := 19) hx hb hf dX5_isLink_12 (by decide) (fun hc hf => ?_) (fun hc hf => ?_)
    · refine lv_iconst (v := 0) hx hb dX5_isLink_19 (by decide) ?_
      obtain rfl := Option.some.inj hf
      exact kg_zretR (b := false) hx hb hr hlk rfl rfl dX5_isLink_20
    · refine lv_iconst (v := 1) hx hb dX5_isLink_15 (by decide) ?_
      refine lv_goto (tgt := 20) hx hb dX5_isLink_16 (by decide) ?_
      obtain rfl := Option.some.inj hf
      exact kg_zretR (b := true) hx hb hr hlk rfl rfl dX5_isLink_20
set_option maxHeartbeats 4000000 in
set_option maxRecDepth 100000 in
theorem c_X5_sideOf (l : Launch) (dC : Nat → ClassId) (dI : Nat → Nat → Nat) (cI cJ : ClassId) (A : Nat → Nat) (hq : Heap) (x : SBS) (v1 : Int32) (v2 : Int32) (v3 : Int32) (r0 : Int32) (hf : SB_m_sideOf x v1 v2 v3 = some r0) : MRi l yX5_sideOf (wAll yX5_sideOf cX5_sideOf 4 (some .int)) ({ frames := 2, cells := 0, slots := 0, locals := 61 } : Room) [.ref (A 0), .int v1, .int v2, .int v3] hq (dC, dI) (vTy cI cJ) (wSB cI cJ A x) r0 := by
  refine kg_metR (cc := cX5_sideOf) (maxL := 4) (ret := (some .int)) (by decide) rfl (Nat.le_of_ble_eq_true rfl) ?_
  intro p e s m args below meth c hx hb hr hts hown hlk hml hH hP hK hN ls hl
  subst hH
  have hl : lv_has ls 4 [(0, .ref (A 0)), (1, .int v1), (2, .int v2), (3, .int v3)] := hl
  have ww0 := hts (.fieldLink RX5 12 "SafeBlocks" "now" "LSafeBlocks$Web;") (List.mem_cons_of_mem _ wd_1_15)
  have ww1 := hts (.fieldLink RX5 112 "SafeBlocks$Web" "upLink" "[I") (List.mem_cons_of_mem _ wd_18_5)
  have ww2 := hts (.fieldLink RX5 121 "SafeBlocks$Web" "lands" "LSafeBlocks$Names;") (List.mem_cons_of_mem _ wd_18_8)
  have ww3 := hts (.fieldLink RX5 124 "SafeBlocks$Names" "size" "[I") (List.mem_cons_of_mem _ wd_18_9)
  have ww4 := hts (.fieldLink RX5 103 "SafeBlocks$Names" "of" "[I") (List.mem_cons_of_mem _ wd_17_19)
  have ww5 := hts (.fieldLink RX5 22 "SafeBlocks" "forest" "LSafeBlocks$Forest;") (List.mem_cons_of_mem _ wd_1_20)
  have ww6 := hts (.fieldLink RX5 115 "SafeBlocks$Forest" "below" "[I") (List.mem_cons_of_mem _ wd_18_6)
  have ww7 := hts (.fieldLink RX5 118 "SafeBlocks$Web" "blocks" "LSafeBlocks$Names;") (List.mem_cons_of_mem _ wd_18_7)
  have hiX5 : ∀ w ∈ u_ws RX5 TX5 6, w ∈ wAll yX5_sideOf cX5_sideOf 4 (some .int) := fun w h => List.mem_cons_of_mem _ (inlX5 w h)
  have hiX4 : ∀ w ∈ u_ws RX4 TX4 16, w ∈ wAll yX5_sideOf cX5_sideOf 4 (some .int) := fun w h => List.mem_cons_of_mem _ (inlX4 w h)
  have hiX1 : ∀ w ∈ u_ws RX1 TX1 6, w ∈ wAll yX5_sideOf cX5_sideOf 4 (some .int) := fun w h => List.mem_cons_of_mem _ (inlX1 w h)
  have hiX0 : ∀ w ∈ u_ws RX0 TX0 13, w ∈ wAll yX5_sideOf cX5_sideOf 4 (some .int) := fun w h => List.mem_cons_of_mem _ (inlX0 w h)
  unfold SB_m_sideOf at hf
  refine lv_aload_n hx hb dX5_sideOf_0 rfl (lv_at hl 0 rfl) ?_
  refine va_get (D := (dC, dI)) (ci := 5) (v := .ref (A 1)) (C := RX5) (T := TX5) (N := 6) hx hb hts hiX5 hown hK hP 0 rfl rfl 0 (by decide) ww0 (fun _ h9 => h9) rfl dX5_sideOf_1 ?_
  refine lv_iload_n hx hb dX5_sideOf_4 rfl (lv_at hl 1 rfl) ?_
  obtain ⟨g5, hc, hf⟩ := ob_bind hf
  have hPc : va_P (dC, dI) vwCl (wWb cI cJ (fun i => A (i + 1)) (SB_now x)) s.heap := hP.sub [1, 2, 3, 4, 5, 6, 7, 8, 9, 10, 11, 12, 13, 14, 15, 16, 17, 18, 19, 20, 21, 22, 23] rfl
  refine kg_retRi (va_runV (As := [.int v1]) (rest := []) ⟨hx, hb, hml, hown, hts⟩ (c_X4_isBridge l dC dI cI cJ (fun i => A (i + 1)) s.heap (SB_now x) v1 _ hc) (cwV 1 hts (gw_V wd_6_6 wd_18_0 wd_6_4 wd_6_5 wd_1_14) rfl rfl rfl qX4_isBridge ⟨Nat.le_of_ble_eq_true rfl, Nat.le_of_ble_eq_true rfl⟩) (kg_preVR (ci := 4) (q := (RX4, TX4, 16)) (q0 := 0) hPc hK hN rfl rfl) rfl rfl hl.1 rfl (lv_room (Nat.le_of_ble_eq_true rfl)) dX5_sideOf_5 ⟨Nat.zero_le _, Nat.zero_le _⟩) ?_
  refine kg_b_ne (tgt := 13) hx hb hf dX5_sideOf_8 (by decide) (fun hc hf => ?_) (fun hc hf => ?_)
  · refine lv_aload_n hx hb dX5_sideOf_13 rfl (lv_at hl 0 rfl) ?_
    refine va_get (D := (dC, dI)) (ci := 5) (v := .ref (A 1)) (C := RX5) (T := TX5) (N := 6) hx hb hts hiX5 hown hK hP 0 rfl rfl 0 (by decide) ww0 (fun _ h9 => h9) rfl dX5_sideOf_14 ?_
    refine va_get (D := (dC, dI)) (ci := 4) (v := .ref (A 6)) (C := RX4) (T := TX4) (N := 16) hx hb hts hiX4 hown hK hP 1 rfl rfl 4 (by decide) ww1 (fun _ h9 => h9) rfl dX5_sideOf_17 ?_
    refine lv_iload_n hx hb dX5_sideOf_20 rfl (lv_at hl 2 rfl) ?_
    obtain ⟨g21, hv, hf⟩ := ob_bind hf
    refine kg_iald hx hb hK hP 6 0 rfl rfl hv dX5_sideOf_21 ?_
    refine lv_iload_n hx hb dX5_sideOf_22 rfl (lv_at hl 1 rfl) ?_
    refine kg_icmp_ne (tgt := 47) hx hb hf dX5_sideOf_23 (by decide) (fun hc hf => ?_) (fun hc hf => ?_)
    · refine lv_aload_n hx hb dX5_sideOf_47 rfl (lv_at hl 0 rfl) ?_
      refine va_get (D := (dC, dI)) (ci := 5) (v := .ref (A 1)) (C := RX5) (T := TX5) (N := 6) hx hb hts hiX5 hown hK hP 0 rfl rfl 0 (by decide) ww0 (fun _ h9 => h9) rfl dX5_sideOf_48 ?_
      refine va_get (D := (dC, dI)) (ci := 4) (v := .ref (A 14)) (C := RX4) (T := TX4) (N := 16) hx hb hts hiX4 hown hK hP 1 rfl rfl 8 (by decide) ww2 (fun _ h9 => h9) rfl dX5_sideOf_51 ?_
      refine va_get (D := (dC, dI)) (ci := 1) (v := .ref (A 16)) (C := RX1) (T := TX1) (N := 6) hx hb hts hiX1 hown hK hP 14 rfl rfl 1 (by decide) ww3 (fun _ h9 => h9) rfl dX5_sideOf_54 ?_
      refine lv_aload_n hx hb dX5_sideOf_57 rfl (lv_at hl 0 rfl) ?_
      refine va_get (D := (dC, dI)) (ci := 5) (v := .ref (A 1)) (C := RX5) (T := TX5) (N := 6) hx hb hts hiX5 hown hK hP 0 rfl rfl 0 (by decide) ww0 (fun _ h9 => h9) rfl dX5_sideOf_58 ?_
      refine va_get (D := (dC, dI)) (ci := 4) (v := .ref (A 14)) (C := RX4) (T := TX4) (N := 16) hx hb hts hiX4 hown hK hP 1 rfl rfl 8 (by decide) ww2 (fun _ h9 => h9) rfl dX5_sideOf_61 ?_
      refine va_get (D := (dC, dI)) (ci := 1) (v := .ref (A 15)) (C := RX1) (T := TX1) (N := 6) hx hb hts hiX1 hown hK hP 14 rfl rfl 0 (by decide) ww4 (fun _ h9 => h9) rfl dX5_sideOf_64 ?_
      refine lv_iload_n hx hb dX5_sideOf_67 rfl (lv_at hl 2 rfl) ?_
      obtain ⟨g68, hv, hf⟩ := ob_bind hf
      refine kg_iald hx hb hK hP 15 0 rfl rfl hv dX5_sideOf_68 ?_
      obtain ⟨g69, hv, hf⟩ := ob_bind hf
      refine kg_iald hx hb hK hP 16 0 rfl rfl hv dX5_sideOf_69 ?_
      refine lv_aload_n hx hb dX5_sideOf_70 rfl (lv_at hl 0 rfl) ?_
      refine va_get (D := (dC, dI)) (ci := 5) (v := .ref (A 47)) (C := RX5) (T := TX5) (N := 6) hx hb hts hiX5 hown hK hP 0 rfl rfl 2 (by decide) ww5 (fun _ h9 => h9) rfl dX5_sideOf_71 ?_
      refine va_get (D := (dC, dI)) (ci := 0) (v := .ref (A 53)) (C := RX0) (T := TX0) (N := 13) hx hb hts hiX0 hown hK hP 47 rfl rfl 5 (by decide) ww6 (fun _ h9 => h9) rfl dX5_sideOf_74 ?_
      refine lv_aload_n hx hb dX5_sideOf_77 rfl (lv_at hl 0 rfl) ?_
      refine va_get (D := (dC, dI)) (ci := 5) (v := .ref (A 1)) (C := RX5) (T := TX5) (N := 6) hx hb hts hiX5 hown hK hP 0 rfl rfl 0 (by decide) ww0 (fun _ h9 => h9) rfl dX5_sideOf_78 ?_
      refine va_get (D := (dC, dI)) (ci := 4) (v := .ref (A 9)) (C := RX4) (T := TX4) (N := 16) hx hb hts hiX4 hown hK hP 1 rfl rfl 7 (by decide) ww7 (fun _ h9 => h9) rfl dX5_sideOf_81 ?_
      refine va_get (D := (dC, dI)) (ci := 1) (v := .ref (A 10)) (C := RX1) (T := TX1) (N := 6) hx hb hts hiX1 hown hK hP 9 rfl rfl 0 (by decide) ww4 (fun _ h9 => h9) rfl dX5_sideOf_84 ?_
      refine lv_iload_n hx hb dX5_sideOf_87 rfl (lv_at hl 3 rfl) ?_
      obtain ⟨g88, hv, hf⟩ := ob_bind hf
      refine kg_iald hx hb hK hP 10 0 rfl rfl hv dX5_sideOf_88 ?_
      obtain ⟨g89, hv, hf⟩ := ob_bind hf
      refine kg_iald hx hb hK hP 53 0 rfl rfl hv dX5_sideOf_89 ?_
      refine lv_isub hx hb dX5_sideOf_90 ?_
      obtain rfl := Option.some.inj hf
      exact kg_iretR hx hb hr hlk rfl dX5_sideOf_91
    · refine lv_aload_n hx hb dX5_sideOf_26 rfl (lv_at hl 0 rfl) ?_
      refine va_get (D := (dC, dI)) (ci := 5) (v := .ref (A 47)) (C := RX5) (T := TX5) (N := 6) hx hb hts hiX5 hown hK hP 0 rfl rfl 2 (by decide) ww5 (fun _ h9 => h9) rfl dX5_sideOf_27 ?_
      refine va_get (D := (dC, dI)) (ci := 0) (v := .ref (A 53)) (C := RX0) (T := TX0) (N := 13) hx hb hts hiX0 hown hK hP 47 rfl rfl 5 (by decide) ww6 (fun _ h9 => h9) rfl dX5_sideOf_30 ?_
      refine lv_aload_n hx hb dX5_sideOf_33 rfl (lv_at hl 0 rfl) ?_
      refine va_get (D := (dC, dI)) (ci := 5) (v := .ref (A 1)) (C := RX5) (T := TX5) (N := 6) hx hb hts hiX5 hown hK hP 0 rfl rfl 0 (by decide) ww0 (fun _ h9 => h9) rfl dX5_sideOf_34 ?_
      refine va_get (D := (dC, dI)) (ci := 4) (v := .ref (A 9)) (C := RX4) (T := TX4) (N := 16) hx hb hts hiX4 hown hK hP 1 rfl rfl 7 (by decide) ww7 (fun _ h9 => h9) rfl dX5_sideOf_37 ?_
      refine va_get (D := (dC, dI)) (ci := 1) (v := .ref (A 10)) (C := RX1) (T := TX1) (N := 6) hx hb hts hiX1 hown hK hP 9 rfl rfl 0 (by decide) ww4 (fun _ h9 => h9) rfl dX5_sideOf_40 ?_
      refine lv_iload_n hx hb dX5_sideOf_43 rfl (lv_at hl 2 rfl) ?_
      obtain ⟨g44, hv, hf⟩ := ob_bind hf
      refine kg_iald hx hb hK hP 10 0 rfl rfl hv dX5_sideOf_44 ?_
      obtain ⟨g45, hv, hf⟩ := ob_bind hf
      refine kg_iald hx hb hK hP 53 0 rfl rfl hv dX5_sideOf_45 ?_
      obtain rfl := Option.some.inj hf
      exact kg_iretR hx hb hr hlk rfl dX5_sideOf_46
  · refine lv_iconst (v := (-1)) hx hb dX5_sideOf_11 (by decide) ?_
    obtain rfl := Option.some.inj hf
    exact kg_iretR hx hb hr hlk rfl dX5_sideOf_12
set_option maxHeartbeats 4000000 in
set_option maxRecDepth 100000 in
theorem c_X5_linkOf (l : Launch) (dC : Nat → ClassId) (dI : Nat → Nat → Nat) (cI cJ : ClassId) (A : Nat → Nat) (hq : Heap) (x : SBS) (v1 : Int32) (v2 : Int32) (r0 : Int32) (hf : SB_m_linkOf x v1 v2 = some r0) : MRi l yX5_linkOf (wAll yX5_linkOf cX5_linkOf 3 (some .int)) ({ frames := 3, cells := 0, slots := 0, locals := 84 } : Room) [.ref (A 0), .int v1, .int v2] hq (dC, dI) (vTy cI cJ) (wSB cI cJ A x) r0 := by
  refine kg_metR (cc := cX5_linkOf) (maxL := 3) (ret := (some .int)) (by decide) rfl (Nat.le_of_ble_eq_true rfl) ?_
  intro p e s m args below meth c hx hb hr hts hown hlk hml hH hP hK hN ls hl
  subst hH
  have hl : lv_has ls 3 [(0, .ref (A 0)), (1, .int v1), (2, .int v2)] := hl
  have ww0 := hts (.fieldLink RX5 12 "SafeBlocks" "now" "LSafeBlocks$Web;") (List.mem_cons_of_mem _ wd_1_15)
  have ww1 := hts (.fieldLink RX5 83 "SafeBlocks$Web" "first" "[I") (List.mem_cons_of_mem _ wd_17_14)
  have ww2 := hts (.fieldLink RX5 87 "SafeBlocks$Web" "second" "[I") (List.mem_cons_of_mem _ wd_17_15)
  have ww3 := hts (.fieldLink RX5 93 "SafeBlocks$Web" "endedBy" "[I") (List.mem_cons_of_mem _ wd_17_16)
  have ww4 := hts (.fieldLink RX5 29 "SafeBlocks" "book" "LSafeBlocks$PartBook;") (List.mem_cons_of_mem _ wd_2_0)
  have ww5 := hts (.fieldLink RX5 96 "SafeBlocks$PartBook" "numberOf" "[I") (List.mem_cons_of_mem _ wd_17_17)
  have ww6 := hts (.fieldLink RX5 99 "SafeBlocks$Web" "parts" "LSafeBlocks$Names;") (List.mem_cons_of_mem _ wd_17_18)
  have ww7 := hts (.fieldLink RX5 103 "SafeBlocks$Names" "of" "[I") (List.mem_cons_of_mem _ wd_17_19)
  have hiX5 : ∀ w ∈ u_ws RX5 TX5 6, w ∈ wAll yX5_linkOf cX5_linkOf 3 (some .int) := fun w h => List.mem_cons_of_mem _ (inlX5 w h)
  have hiX4 : ∀ w ∈ u_ws RX4 TX4 16, w ∈ wAll yX5_linkOf cX5_linkOf 3 (some .int) := fun w h => List.mem_cons_of_mem _ (inlX4 w h)
  have hiX2 : ∀ w ∈ u_ws RX2 TX2 7, w ∈ wAll yX5_linkOf cX5_linkOf 3 (some .int) := fun w h => List.mem_cons_of_mem _ (inlX2 w h)
  have hiX1 : ∀ w ∈ u_ws RX1 TX1 6, w ∈ wAll yX5_linkOf cX5_linkOf 3 (some .int) := fun w h => List.mem_cons_of_mem _ (inlX1 w h)
  unfold SB_m_linkOf at hf
  refine lv_aload_n hx hb dX5_linkOf_0 rfl (lv_at hl 0 rfl) ?_
  refine lv_iload_n hx hb dX5_linkOf_1 rfl (lv_at hl 1 rfl) ?_
  obtain ⟨g2, hc, hf⟩ := ob_bind hf
  have hPc : va_P (dC, dI) vwCl (wSB cI cJ A x) s.heap := hP
  refine kg_retRi (va_runV (As := [.int v1]) (rest := []) ⟨hx, hb, hml, hown, hts⟩ (c_X5_isLink l dC dI cI cJ A s.heap x v1 _ hc) (cwV 1 hts (gw_V wd_17_23 wd_17_20 wd_17_21 wd_17_22 wd_1_2) rfl rfl rfl qX5_isLink ⟨Nat.le_of_ble_eq_true rfl, Nat.le_of_ble_eq_true rfl⟩) (kg_preVR (ci := 5) (q := (RX5, TX5, 6)) (q0 := 0) hPc hK hN rfl rfl) rfl rfl hl.1 rfl (lv_room (Nat.le_of_ble_eq_true rfl)) dX5_linkOf_2 ⟨Nat.zero_le _, Nat.zero_le _⟩) ?_
  refine kg_b_ne (tgt := 10) hx hb hf dX5_linkOf_5 (by decide) (fun hc hf => ?_) (fun hc hf => ?_)
  · refine lv_iload_n hx hb dX5_linkOf_10 rfl (lv_at hl 2 rfl) ?_
    by_cases hc0 : v2 = 0
    · rw [if_pos hc0] at hf
      refine lv_tableIn (tgt := 56) (off := 45) hx hb dX5_linkOf_11 (by rw [hc0]; decide) (by rw [hc0]; decide) (by rw [hc0]; rfl) (by decide) ?_
      refine lv_aload_n hx hb dX5_linkOf_56 rfl (lv_at hl 0 rfl) ?_
      refine va_get (D := (dC, dI)) (ci := 5) (v := .ref (A 1)) (C := RX5) (T := TX5) (N := 6) hx hb hts hiX5 hown hK hP 0 rfl rfl 0 (by decide) ww0 (fun _ h9 => h9) rfl dX5_linkOf_57 ?_
      refine va_get (D := (dC, dI)) (ci := 4) (v := .ref (A 2)) (C := RX4) (T := TX4) (N := 16) hx hb hts hiX4 hown hK hP 1 rfl rfl 0 (by decide) ww1 (fun _ h9 => h9) rfl dX5_linkOf_60 ?_
      refine lv_iload_n hx hb dX5_linkOf_63 rfl (lv_at hl 1 rfl) ?_
      obtain ⟨g64, hv, hf⟩ := ob_bind hf
      refine kg_iald hx hb hK hP 2 0 rfl rfl hv dX5_linkOf_64 ?_
      obtain rfl := Option.some.inj hf
      exact kg_iretR hx hb hr hlk rfl dX5_linkOf_65
    · rw [if_neg hc0] at hf
      by_cases hc1 : v2 = 1
      · rw [if_pos hc1] at hf
        refine lv_tableIn (tgt := 66) (off := 55) hx hb dX5_linkOf_11 (by rw [hc1]; decide) (by rw [hc1]; decide) (by rw [hc1]; rfl) (by decide) ?_
        refine lv_aload_n hx hb dX5_linkOf_66 rfl (lv_at hl 0 rfl) ?_
        refine va_get (D := (dC, dI)) (ci := 5) (v := .ref (A 1)) (C := RX5) (T := TX5) (N := 6) hx hb hts hiX5 hown hK hP 0 rfl rfl 0 (by decide) ww0 (fun _ h9 => h9) rfl dX5_linkOf_67 ?_
        refine va_get (D := (dC, dI)) (ci := 4) (v := .ref (A 3)) (C := RX4) (T := TX4) (N := 16) hx hb hts hiX4 hown hK hP 1 rfl rfl 1 (by decide) ww2 (fun _ h9 => h9) rfl dX5_linkOf_70 ?_
        refine lv_iload_n hx hb dX5_linkOf_73 rfl (lv_at hl 1 rfl) ?_
        obtain ⟨g74, hv, hf⟩ := ob_bind hf
        refine kg_iald hx hb hK hP 3 0 rfl rfl hv dX5_linkOf_74 ?_
        obtain rfl := Option.some.inj hf
        exact kg_iretR hx hb hr hlk rfl dX5_linkOf_75
      · rw [if_neg hc1] at hf
        by_cases hc2 : v2 = 2
        · rw [if_pos hc2] at hf
          refine lv_tableIn (tgt := 76) (off := 65) hx hb dX5_linkOf_11 (by rw [hc2]; decide) (by rw [hc2]; decide) (by rw [hc2]; rfl) (by decide) ?_
          refine lv_aload_n hx hb dX5_linkOf_76 rfl (lv_at hl 0 rfl) ?_
          refine va_get (D := (dC, dI)) (ci := 5) (v := .ref (A 1)) (C := RX5) (T := TX5) (N := 6) hx hb hts hiX5 hown hK hP 0 rfl rfl 0 (by decide) ww0 (fun _ h9 => h9) rfl dX5_linkOf_77 ?_
          refine lv_iload_n hx hb dX5_linkOf_80 rfl (lv_at hl 1 rfl) ?_
          obtain ⟨g81, hc, hf⟩ := ob_bind hf
          have hPc : va_P (dC, dI) vwCl (wWb cI cJ (fun i => A (i + 1)) (SB_now x)) s.heap := hP.sub [1, 2, 3, 4, 5, 6, 7, 8, 9, 10, 11, 12, 13, 14, 15, 16, 17, 18, 19, 20, 21, 22, 23] rfl
          refine kg_retRi (va_runV (As := [.int v1]) (rest := []) ⟨hx, hb, hml, hown, hts⟩ (c_X4_isBridge l dC dI cI cJ (fun i => A (i + 1)) s.heap (SB_now x) v1 _ hc) (cwV 1 hts (gw_V wd_6_6 wd_18_0 wd_6_4 wd_6_5 wd_1_14) rfl rfl rfl qX4_isBridge ⟨Nat.le_of_ble_eq_true rfl, Nat.le_of_ble_eq_true rfl⟩) (kg_preVR (ci := 4) (q := (RX4, TX4, 16)) (q0 := 0) hPc hK hN rfl rfl) rfl rfl hl.1 rfl (lv_room (Nat.le_of_ble_eq_true rfl)) dX5_linkOf_81 ⟨Nat.zero_le _, Nat.zero_le _⟩) ?_
          refine kg_b_eq (tgt := 91) hx hb hf dX5_linkOf_84 (by decide) (fun hc hf => ?_) (fun hc hf => ?_)
          · refine lv_iconst (v := 0) hx hb dX5_linkOf_91 (by decide) ?_
            obtain rfl := Option.some.inj hf
            exact kg_iretR hx hb hr hlk rfl dX5_linkOf_92
          · refine lv_iconst (v := 1) hx hb dX5_linkOf_87 (by decide) ?_
            refine lv_goto (tgt := 92) hx hb dX5_linkOf_88 (by decide) ?_
            obtain rfl := Option.some.inj hf
            exact kg_iretR hx hb hr hlk rfl dX5_linkOf_92
        · rw [if_neg hc2] at hf
          by_cases hc3 : v2 = 3
          · rw [if_pos hc3] at hf
            refine lv_tableIn (tgt := 93) (off := 82) hx hb dX5_linkOf_11 (by rw [hc3]; decide) (by rw [hc3]; decide) (by rw [hc3]; rfl) (by decide) ?_
            refine lv_aload_n hx hb dX5_linkOf_93 rfl (lv_at hl 0 rfl) ?_
            refine va_get (D := (dC, dI)) (ci := 5) (v := .ref (A 1)) (C := RX5) (T := TX5) (N := 6) hx hb hts hiX5 hown hK hP 0 rfl rfl 0 (by decide) ww0 (fun _ h9 => h9) rfl dX5_linkOf_94 ?_
            refine va_get (D := (dC, dI)) (ci := 4) (v := .ref (A 4)) (C := RX4) (T := TX4) (N := 16) hx hb hts hiX4 hown hK hP 1 rfl rfl 2 (by decide) ww3 (fun _ h9 => h9) rfl dX5_linkOf_97 ?_
            refine lv_iload_n hx hb dX5_linkOf_100 rfl (lv_at hl 1 rfl) ?_
            obtain ⟨g101, hv, hf⟩ := ob_bind hf
            refine kg_iald hx hb hK hP 4 0 rfl rfl hv dX5_linkOf_101 ?_
            obtain rfl := Option.some.inj hf
            exact kg_iretR hx hb hr hlk rfl dX5_linkOf_102
          · rw [if_neg hc3] at hf
            by_cases hc4 : v2 = 4
            · rw [if_pos hc4] at hf
              refine lv_tableIn (tgt := 103) (off := 92) hx hb dX5_linkOf_11 (by rw [hc4]; decide) (by rw [hc4]; decide) (by rw [hc4]; rfl) (by decide) ?_
              refine lv_aload_n hx hb dX5_linkOf_103 rfl (lv_at hl 0 rfl) ?_
              refine va_get (D := (dC, dI)) (ci := 5) (v := .ref (A 59)) (C := RX5) (T := TX5) (N := 6) hx hb hts hiX5 hown hK hP 0 rfl rfl 3 (by decide) ww4 (fun _ h9 => h9) rfl dX5_linkOf_104 ?_
              refine va_get (D := (dC, dI)) (ci := 2) (v := .ref (A 62)) (C := RX2) (T := TX2) (N := 7) hx hb hts hiX2 hown hK hP 59 rfl rfl 2 (by decide) ww5 (fun _ h9 => h9) rfl dX5_linkOf_107 ?_
              refine lv_aload_n hx hb dX5_linkOf_110 rfl (lv_at hl 0 rfl) ?_
              refine va_get (D := (dC, dI)) (ci := 5) (v := .ref (A 1)) (C := RX5) (T := TX5) (N := 6) hx hb hts hiX5 hown hK hP 0 rfl rfl 0 (by decide) ww0 (fun _ h9 => h9) rfl dX5_linkOf_111 ?_
              refine va_get (D := (dC, dI)) (ci := 4) (v := .ref (A 19)) (C := RX4) (T := TX4) (N := 16) hx hb hts hiX4 hown hK hP 1 rfl rfl 9 (by decide) ww6 (fun _ h9 => h9) rfl dX5_linkOf_114 ?_
              refine va_get (D := (dC, dI)) (ci := 1) (v := .ref (A 20)) (C := RX1) (T := TX1) (N := 6) hx hb hts hiX1 hown hK hP 19 rfl rfl 0 (by decide) ww7 (fun _ h9 => h9) rfl dX5_linkOf_117 ?_
              refine lv_iload_n hx hb dX5_linkOf_120 rfl (lv_at hl 1 rfl) ?_
              obtain ⟨g121, hv, hf⟩ := ob_bind hf
              refine kg_iald hx hb hK hP 20 0 rfl rfl hv dX5_linkOf_121 ?_
              obtain ⟨g122, hv, hf⟩ := ob_bind hf
              refine kg_iald hx hb hK hP 62 0 rfl rfl hv dX5_linkOf_122 ?_
              obtain rfl := Option.some.inj hf
              exact kg_iretR hx hb hr hlk rfl dX5_linkOf_123
            · rw [if_neg hc4] at hf
              by_cases hc5 : v2 = 5
              · rw [if_pos hc5] at hf
                refine lv_tableIn (tgt := 124) (off := 113) hx hb dX5_linkOf_11 (by rw [hc5]; decide) (by rw [hc5]; decide) (by rw [hc5]; rfl) (by decide) ?_
                refine lv_aload_n hx hb dX5_linkOf_124 rfl (lv_at hl 0 rfl) ?_
                refine lv_iload_n hx hb dX5_linkOf_125 rfl (lv_at hl 1 rfl) ?_
                refine lv_aload_n hx hb dX5_linkOf_126 rfl (lv_at hl 0 rfl) ?_
                refine va_get (D := (dC, dI)) (ci := 5) (v := .ref (A 1)) (C := RX5) (T := TX5) (N := 6) hx hb hts hiX5 hown hK hP 0 rfl rfl 0 (by decide) ww0 (fun _ h9 => h9) rfl dX5_linkOf_127 ?_
                refine va_get (D := (dC, dI)) (ci := 4) (v := .ref (A 2)) (C := RX4) (T := TX4) (N := 16) hx hb hts hiX4 hown hK hP 1 rfl rfl 0 (by decide) ww1 (fun _ h9 => h9) rfl dX5_linkOf_130 ?_
                refine lv_iload_n hx hb dX5_linkOf_133 rfl (lv_at hl 1 rfl) ?_
                obtain ⟨g134, hv, hf⟩ := ob_bind hf
                refine kg_iald hx hb hK hP 2 0 rfl rfl hv dX5_linkOf_134 ?_
                refine lv_aload_n hx hb dX5_linkOf_135 rfl (lv_at hl 0 rfl) ?_
                refine va_get (D := (dC, dI)) (ci := 5) (v := .ref (A 1)) (C := RX5) (T := TX5) (N := 6) hx hb hts hiX5 hown hK hP 0 rfl rfl 0 (by decide) ww0 (fun _ h9 => h9) rfl dX5_linkOf_136 ?_
                refine va_get (D := (dC, dI)) (ci := 4) (v := .ref (A 3)) (C := RX4) (T := TX4) (N := 16) hx hb hts hiX4 hown hK hP 1 rfl rfl 1 (by decide) ww2 (fun _ h9 => h9) rfl dX5_linkOf_139 ?_
                refine lv_iload_n hx hb dX5_linkOf_142 rfl (lv_at hl 1 rfl) ?_
                obtain ⟨g143, hv, hf⟩ := ob_bind hf
                refine kg_iald hx hb hK hP 3 0 rfl rfl hv dX5_linkOf_143 ?_
                obtain ⟨g144, hc, hf⟩ := ob_bind hf
                have hPc : va_P (dC, dI) vwCl (wSB cI cJ A x) s.heap := hP
                refine kg_retRi (va_runV (As := [.int v1, .int g134, .int g143]) (rest := []) ⟨hx, hb, hml, hown, hts⟩ (c_X5_sideOf l dC dI cI cJ A s.heap x v1 g134 g143 _ hc) (cwV 3 hts (gw_V wd_18_4 wd_18_1 wd_18_2 wd_18_3 wd_1_2) rfl rfl rfl qX5_sideOf ⟨Nat.le_of_ble_eq_true rfl, Nat.le_of_ble_eq_true rfl⟩) (kg_preVR (ci := 5) (q := (RX5, TX5, 6)) (q0 := 0) hPc hK hN rfl rfl) rfl rfl hl.1 rfl (lv_room (Nat.le_of_ble_eq_true rfl)) dX5_linkOf_144 ⟨Nat.zero_le _, Nat.zero_le _⟩) ?_
                obtain rfl := Option.some.inj hf
                exact kg_iretR hx hb hr hlk rfl dX5_linkOf_147
              · rw [if_neg hc5] at hf
                by_cases hc6 : v2 = 6
                · rw [if_pos hc6] at hf
                  refine lv_tableIn (tgt := 148) (off := 137) hx hb dX5_linkOf_11 (by rw [hc6]; decide) (by rw [hc6]; decide) (by rw [hc6]; rfl) (by decide) ?_
                  refine lv_aload_n hx hb dX5_linkOf_148 rfl (lv_at hl 0 rfl) ?_
                  refine lv_iload_n hx hb dX5_linkOf_149 rfl (lv_at hl 1 rfl) ?_
                  refine lv_aload_n hx hb dX5_linkOf_150 rfl (lv_at hl 0 rfl) ?_
                  refine va_get (D := (dC, dI)) (ci := 5) (v := .ref (A 1)) (C := RX5) (T := TX5) (N := 6) hx hb hts hiX5 hown hK hP 0 rfl rfl 0 (by decide) ww0 (fun _ h9 => h9) rfl dX5_linkOf_151 ?_
                  refine va_get (D := (dC, dI)) (ci := 4) (v := .ref (A 3)) (C := RX4) (T := TX4) (N := 16) hx hb hts hiX4 hown hK hP 1 rfl rfl 1 (by decide) ww2 (fun _ h9 => h9) rfl dX5_linkOf_154 ?_
                  refine lv_iload_n hx hb dX5_linkOf_157 rfl (lv_at hl 1 rfl) ?_
                  obtain ⟨g158, hv, hf⟩ := ob_bind hf
                  refine kg_iald hx hb hK hP 3 0 rfl rfl hv dX5_linkOf_158 ?_
                  refine lv_aload_n hx hb dX5_linkOf_159 rfl (lv_at hl 0 rfl) ?_
                  refine va_get (D := (dC, dI)) (ci := 5) (v := .ref (A 1)) (C := RX5) (T := TX5) (N := 6) hx hb hts hiX5 hown hK hP 0 rfl rfl 0 (by decide) ww0 (fun _ h9 => h9) rfl dX5_linkOf_160 ?_
                  refine va_get (D := (dC, dI)) (ci := 4) (v := .ref (A 2)) (C := RX4) (T := TX4) (N := 16) hx hb hts hiX4 hown hK hP 1 rfl rfl 0 (by decide) ww1 (fun _ h9 => h9) rfl dX5_linkOf_163 ?_
                  refine lv_iload_n hx hb dX5_linkOf_166 rfl (lv_at hl 1 rfl) ?_
                  obtain ⟨g167, hv, hf⟩ := ob_bind hf
                  refine kg_iald hx hb hK hP 2 0 rfl rfl hv dX5_linkOf_167 ?_
                  obtain ⟨g168, hc, hf⟩ := ob_bind hf
                  have hPc : va_P (dC, dI) vwCl (wSB cI cJ A x) s.heap := hP
                  refine kg_retRi (va_runV (As := [.int v1, .int g158, .int g167]) (rest := []) ⟨hx, hb, hml, hown, hts⟩ (c_X5_sideOf l dC dI cI cJ A s.heap x v1 g158 g167 _ hc) (cwV 3 hts (gw_V wd_18_4 wd_18_1 wd_18_2 wd_18_3 wd_1_2) rfl rfl rfl qX5_sideOf ⟨Nat.le_of_ble_eq_true rfl, Nat.le_of_ble_eq_true rfl⟩) (kg_preVR (ci := 5) (q := (RX5, TX5, 6)) (q0 := 0) hPc hK hN rfl rfl) rfl rfl hl.1 rfl (lv_room (Nat.le_of_ble_eq_true rfl)) dX5_linkOf_168 ⟨Nat.zero_le _, Nat.zero_le _⟩) ?_
                  obtain rfl := Option.some.inj hf
                  exact kg_iretR hx hb hr hlk rfl dX5_linkOf_171
                · rw [if_neg hc6] at hf
                  by_cases hc7 : v2 = 7
                  · rw [if_pos hc7] at hf
                    refine lv_tableIn (tgt := 172) (off := 161) hx hb dX5_linkOf_11 (by rw [hc7]; decide) (by rw [hc7]; decide) (by rw [hc7]; rfl) (by decide) ?_
                    refine lv_aload_n hx hb dX5_linkOf_172 rfl (lv_at hl 0 rfl) ?_
                    refine va_get (D := (dC, dI)) (ci := 5) (v := .ref (A 1)) (C := RX5) (T := TX5) (N := 6) hx hb hts hiX5 hown hK hP 0 rfl rfl 0 (by decide) ww0 (fun _ h9 => h9) rfl dX5_linkOf_173 ?_
                    refine va_get (D := (dC, dI)) (ci := 4) (v := .ref (A 19)) (C := RX4) (T := TX4) (N := 16) hx hb hts hiX4 hown hK hP 1 rfl rfl 9 (by decide) ww6 (fun _ h9 => h9) rfl dX5_linkOf_176 ?_
                    refine va_get (D := (dC, dI)) (ci := 1) (v := .ref (A 20)) (C := RX1) (T := TX1) (N := 6) hx hb hts hiX1 hown hK hP 19 rfl rfl 0 (by decide) ww7 (fun _ h9 => h9) rfl dX5_linkOf_179 ?_
                    refine lv_iload_n hx hb dX5_linkOf_182 rfl (lv_at hl 1 rfl) ?_
                    obtain ⟨g183, hv, hf⟩ := ob_bind hf
                    refine kg_iald hx hb hK hP 20 0 rfl rfl hv dX5_linkOf_183 ?_
                    obtain rfl := Option.some.inj hf
                    exact kg_iretR hx hb hr hlk rfl dX5_linkOf_184
                  · rw [if_neg hc7] at hf
                    have ehc0 := ne_toInt hc0 (k := 0) (by decide)
                    have ehc1 := ne_toInt hc1 (k := 1) (by decide)
                    have ehc2 := ne_toInt hc2 (k := 2) (by decide)
                    have ehc3 := ne_toInt hc3 (k := 3) (by decide)
                    have ehc4 := ne_toInt hc4 (k := 4) (by decide)
                    have ehc5 := ne_toInt hc5 (k := 5) (by decide)
                    have ehc6 := ne_toInt hc6 (k := 6) (by decide)
                    have ehc7 := ne_toInt hc7 (k := 7) (by decide)
                    refine lv_tableOut (tgt := 185) hx hb dX5_linkOf_11 (by omega) (by decide) ?_
                    refine lv_iconst (v := (-1)) hx hb dX5_linkOf_185 (by decide) ?_
                    obtain rfl := Option.some.inj hf
                    exact kg_iretR hx hb hr hlk rfl dX5_linkOf_186
  · refine lv_iconst (v := (-1)) hx hb dX5_linkOf_8 (by decide) ?_
    obtain rfl := Option.some.inj hf
    exact kg_iretR hx hb hr hlk rfl dX5_linkOf_9
set_option maxHeartbeats 4000000 in
set_option maxRecDepth 100000 in
theorem c_X5_bridge (l : Launch) (dC : Nat → ClassId) (dI : Nat → Nat → Nat) (cI cJ : ClassId) (A : Nat → Nat) (hq : Heap) (x : SBS) (v1 : Int32) (r0 : Int32) (hf : SB_m_bridge x v1 = some r0) : MRi l yX5_bridge (wAll yX5_bridge cX5_bridge 4 (some .int)) ({ frames := 2, cells := 0, slots := 0, locals := 61 } : Room) [.ref (A 0), .int v1] hq (dC, dI) (vTy cI cJ) (wSB cI cJ A x) r0 := by
  refine kg_metR (cc := cX5_bridge) (maxL := 4) (ret := (some .int)) (by decide) rfl (Nat.le_of_ble_eq_true rfl) ?_
  intro p e s m args below meth c hx hb hr hts hown hlk hml hH hP hK hN ls hl
  subst hH
  have hl : lv_has ls 4 [(0, .ref (A 0)), (1, .int v1)] := hl
  have ww0 := hts (.fieldLink RX5 12 "SafeBlocks" "now" "LSafeBlocks$Web;") (List.mem_cons_of_mem _ wd_1_15)
  have ww1 := hts (.fieldLink RX5 55 "SafeBlocks$Web" "links" "I") (List.mem_cons_of_mem _ wd_9_15)
  have hiX5 : ∀ w ∈ u_ws RX5 TX5 6, w ∈ wAll yX5_bridge cX5_bridge 4 (some .int) := fun w h => List.mem_cons_of_mem _ (inlX5 w h)
  have hiX4 : ∀ w ∈ u_ws RX4 TX4 16, w ∈ wAll yX5_bridge cX5_bridge 4 (some .int) := fun w h => List.mem_cons_of_mem _ (inlX4 w h)
  unfold SB_m_bridge at hf
  refine lv_iconst (v := 0) hx hb dX5_bridge_0 (by decide) ?_
  refine lv_istore_n (lv' := [(2, .int 0), (0, .ref (A 0)), (1, .int v1)]) hx hb dX5_bridge_1 rfl hl (by decide) rfl (fun ls hl => ?_)
  refine lv_iconst (v := 0) hx hb dX5_bridge_2 (by decide) ?_
  refine lv_istore_n (lv' := [(3, .int 0), (2, .int 0), (0, .ref (A 0)), (1, .int v1)]) hx hb dX5_bridge_3 rfl hl (by decide) rfl (fun ls hl => ?_)
  have hlp4 : ∀ (n : Nat) (v2 : Int32) (v3 : Int32), iter (fun p : Int32 × Int32 => SB_m_bridge_s4 x v1 p.1 p.2) n (v2, v3) = some r0 → ∀ (ls : Array Slot), lv_has ls 4 [(0, .ref (A 0)), (1, .int v1), (2, .int v2), (3, .int v3)] → W p l e ({ frames := 2, cells := 0, slots := 0, locals := 61 } : Room) s m args below meth c s.heap [] 0 0 (MQ below (QRi s.heap r0) args s 0 0 NoA) (F0 m 4 ls []) := by
    intro  n
    induction n with
    | zero => intro v2 v3 hf; exact iter_zero hf
    | succ n ih1 =>
      intro v2 v3 hf ls hl
      obtain ⟨q1, hf, hk1⟩ := iter_succ hf
      have hf : SB_m_bridge_s4 x v1 v2 v3 = some q1 := hf
      unfold SB_m_bridge_s4 at hf
      refine lv_iload_n hx hb dX5_bridge_4 rfl (lv_at hl 3 rfl) ?_
      refine lv_aload_n hx hb dX5_bridge_5 rfl (lv_at hl 0 rfl) ?_
      refine va_get (D := (dC, dI)) (ci := 5) (v := .ref (A 1)) (C := RX5) (T := TX5) (N := 6) hx hb hts hiX5 hown hK hP 0 rfl rfl 0 (by decide) ww0 (fun _ h9 => h9) rfl dX5_bridge_6 ?_
      refine va_get (D := (dC, dI)) (ci := 4) (v := .int (Wb_links (SB_now x))) (C := RX4) (T := TX4) (N := 16) hx hb hts hiX4 hown hK hP 1 rfl rfl 11 (by decide) ww1 (fun _ h9 => h9) rfl dX5_bridge_9 ?_
      refine kg_icmp_ge (tgt := 42) hx hb hf dX5_bridge_12 (by decide) (fun hc hf => ?_) (fun hc hf => ?_)
      · obtain ⟨qq, hf, hqq⟩ := omap_some hf
        have hkq : qq = r0 := by rw [← hqq] at hk1; exact hk1
        rw [hkq] at hf
        clear hkq hqq
        refine lv_iload_n hx hb dX5_bridge_42 rfl (lv_at hl 1 rfl) ?_
        refine lv_iconst (v := (-1)) hx hb dX5_bridge_43 (by decide) ?_
        refine kg_icmp_ne (tgt := 51) hx hb hf dX5_bridge_44 (by decide) (fun hc hf => ?_) (fun hc hf => ?_)
        · refine lv_iconst (v := (-1)) hx hb dX5_bridge_51 (by decide) ?_
          obtain rfl := Option.some.inj hf
          exact kg_iretR hx hb hr hlk rfl dX5_bridge_52
        · refine lv_iload_n hx hb dX5_bridge_47 rfl (lv_at hl 2 rfl) ?_
          refine lv_goto (tgt := 52) hx hb dX5_bridge_48 (by decide) ?_
          obtain rfl := Option.some.inj hf
          exact kg_iretR hx hb hr hlk rfl dX5_bridge_52
      · refine lv_aload_n hx hb dX5_bridge_15 rfl (lv_at hl 0 rfl) ?_
        refine va_get (D := (dC, dI)) (ci := 5) (v := .ref (A 1)) (C := RX5) (T := TX5) (N := 6) hx hb hts hiX5 hown hK hP 0 rfl rfl 0 (by decide) ww0 (fun _ h9 => h9) rfl dX5_bridge_16 ?_
        refine lv_iload_n hx hb dX5_bridge_19 rfl (lv_at hl 3 rfl) ?_
        obtain ⟨g20, hc, hf⟩ := ob_bind hf
        have hPc : va_P (dC, dI) vwCl (wWb cI cJ (fun i => A (i + 1)) (SB_now x)) s.heap := hP.sub [1, 2, 3, 4, 5, 6, 7, 8, 9, 10, 11, 12, 13, 14, 15, 16, 17, 18, 19, 20, 21, 22, 23] rfl
        refine kg_retRi (va_runV (As := [.int v3]) (rest := []) ⟨hx, hb, hml, hown, hts⟩ (c_X4_isBridge l dC dI cI cJ (fun i => A (i + 1)) s.heap (SB_now x) v3 _ hc) (cwV 1 hts (gw_V wd_6_6 wd_18_0 wd_6_4 wd_6_5 wd_1_14) rfl rfl rfl qX4_isBridge ⟨Nat.le_of_ble_eq_true rfl, Nat.le_of_ble_eq_true rfl⟩) (kg_preVR (ci := 4) (q := (RX4, TX4, 16)) (q0 := 0) hPc hK hN rfl rfl) rfl rfl hl.1 rfl (lv_room (Nat.le_of_ble_eq_true rfl)) dX5_bridge_20 ⟨Nat.zero_le _, Nat.zero_le _⟩) ?_
        refine kg_b_eq (tgt := 36) hx hb hf dX5_bridge_23 (by decide) (fun hc hf => ?_) (fun hc hf => ?_)
        · refine lv_iinc (v := (v3 + 1)) (lv' := [(3, .int (v3 + 1)), (0, .ref (A 0)), (1, .int v1), (2, .int v2)]) hx hb dX5_bridge_36 hl (k := 3) rfl rfl (by decide) rfl (fun ls hl => ?_)
          refine lv_goto (tgt := 4) hx hb dX5_bridge_39 (by decide) ?_
          obtain rfl := Option.some.inj hf
          exact ih1 v2 (v3 + 1) hk1 _ (lv_sub hl [1, 2, 3, 0] rfl)
        · refine lv_iload_n hx hb dX5_bridge_26 rfl (lv_at hl 2 rfl) ?_
          refine lv_iload_n hx hb dX5_bridge_27 rfl (lv_at hl 1 rfl) ?_
          refine kg_icmp_ne (tgt := 33) hx hb hf dX5_bridge_28 (by decide) (fun hc hf => ?_) (fun hc hf => ?_)
          · refine lv_iinc (v := (v2 + 1)) (lv' := [(2, .int (v2 + 1)), (0, .ref (A 0)), (1, .int v1), (3, .int v3)]) hx hb dX5_bridge_33 hl (k := 2) rfl rfl (by decide) rfl (fun ls hl => ?_)
            refine lv_iinc (v := (v3 + 1)) (lv' := [(3, .int (v3 + 1)), (2, .int (v2 + 1)), (0, .ref (A 0)), (1, .int v1)]) hx hb dX5_bridge_36 hl (k := 3) rfl rfl (by decide) rfl (fun ls hl => ?_)
            refine lv_goto (tgt := 4) hx hb dX5_bridge_39 (by decide) ?_
            obtain rfl := Option.some.inj hf
            exact ih1 (v2 + 1) (v3 + 1) hk1 _ (lv_sub hl [2, 3, 1, 0] rfl)
          · obtain ⟨qq, hf, hqq⟩ := omap_some hf
            have hkq : qq = r0 := by rw [← hqq] at hk1; exact hk1
            rw [hkq] at hf
            clear hkq hqq
            refine lv_iload_n hx hb dX5_bridge_31 rfl (lv_at hl 3 rfl) ?_
            obtain rfl := Option.some.inj hf
            exact kg_iretR hx hb hr hlk rfl dX5_bridge_32
  exact hlp4  FU 0 0 hf _ (lv_sub hl [2, 3, 1, 0] rfl)
set_option maxHeartbeats 4000000 in
set_option maxRecDepth 100000 in
theorem c_X5_node (l : Launch) (dC : Nat → ClassId) (dI : Nat → Nat → Nat) (cI cJ : ClassId) (A : Nat → Nat) (hq : Heap) (x : SBS) (v1 : Int32) (v2 : Int32) (r0 : Int32) (hf : SB_m_node x v1 v2 = some r0) : MRi l yX5_node (wAll yX5_node cX5_node 3 (some .int)) ({ frames := 3, cells := 0, slots := 0, locals := 85 } : Room) [.ref (A 0), .int v1, .int v2] hq (dC, dI) (vTy cI cJ) (wSB cI cJ A x) r0 := by
  refine kg_metR (cc := cX5_node) (maxL := 3) (ret := (some .int)) (by decide) rfl (Nat.le_of_ble_eq_true rfl) ?_
  intro p e s m args below meth c hx hb hr hts hown hlk hml hH hP hK hN ls hl
  subst hH
  have hl : lv_has ls 3 [(0, .ref (A 0)), (1, .int v1), (2, .int v2)] := hl
  have ww0 := hts (.fieldLink RX5 12 "SafeBlocks" "now" "LSafeBlocks$Web;") (List.mem_cons_of_mem _ wd_1_15)
  have ww1 := hts (.fieldLink RX5 118 "SafeBlocks$Web" "blocks" "LSafeBlocks$Names;") (List.mem_cons_of_mem _ wd_18_7)
  have ww2 := hts (.fieldLink RX5 103 "SafeBlocks$Names" "of" "[I") (List.mem_cons_of_mem _ wd_17_19)
  have ww3 := hts (.fieldLink RX5 121 "SafeBlocks$Web" "lands" "LSafeBlocks$Names;") (List.mem_cons_of_mem _ wd_18_8)
  have ww4 := hts (.fieldLink RX5 29 "SafeBlocks" "book" "LSafeBlocks$PartBook;") (List.mem_cons_of_mem _ wd_2_0)
  have ww5 := hts (.fieldLink RX5 136 "SafeBlocks$PartBook" "at" "[J") (List.mem_cons_of_mem _ wd_21_14)
  have ww6 := hts (.fieldLink RX5 22 "SafeBlocks" "forest" "LSafeBlocks$Forest;") (List.mem_cons_of_mem _ wd_1_20)
  have ww7 := hts (.fieldLink RX5 149 "SafeBlocks$Forest" "deep" "[I") (List.mem_cons_of_mem _ wd_21_15)
  have hiX5 : ∀ w ∈ u_ws RX5 TX5 6, w ∈ wAll yX5_node cX5_node 3 (some .int) := fun w h => List.mem_cons_of_mem _ (inlX5 w h)
  have hiX4 : ∀ w ∈ u_ws RX4 TX4 16, w ∈ wAll yX5_node cX5_node 3 (some .int) := fun w h => List.mem_cons_of_mem _ (inlX4 w h)
  have hiX1 : ∀ w ∈ u_ws RX1 TX1 6, w ∈ wAll yX5_node cX5_node 3 (some .int) := fun w h => List.mem_cons_of_mem _ (inlX1 w h)
  have hiX2 : ∀ w ∈ u_ws RX2 TX2 7, w ∈ wAll yX5_node cX5_node 3 (some .int) := fun w h => List.mem_cons_of_mem _ (inlX2 w h)
  have hiX0 : ∀ w ∈ u_ws RX0 TX0 13, w ∈ wAll yX5_node cX5_node 3 (some .int) := fun w h => List.mem_cons_of_mem _ (inlX0 w h)
  unfold SB_m_node at hf
  refine lv_aload_n hx hb dX5_node_0 rfl (lv_at hl 0 rfl) ?_
  refine lv_iload_n hx hb dX5_node_1 rfl (lv_at hl 1 rfl) ?_
  obtain ⟨g2, hc, hf⟩ := ob_bind hf
  have hPc : va_P (dC, dI) vwCl (wSB cI cJ A x) s.heap := hP
  refine kg_retRi (va_runV (As := [.int v1]) (rest := []) ⟨hx, hb, hml, hown, hts⟩ (c_X5_isNode l dC dI cI cJ A s.heap x v1 _ hc) (cwV 1 hts (gw_V wd_9_23 wd_9_20 wd_9_21 wd_9_22 wd_1_2) rfl rfl rfl qX5_isNode ⟨Nat.le_of_ble_eq_true rfl, Nat.le_of_ble_eq_true rfl⟩) (kg_preVR (ci := 5) (q := (RX5, TX5, 6)) (q0 := 0) hPc hK hN rfl rfl) rfl rfl hl.1 rfl (lv_room (Nat.le_of_ble_eq_true rfl)) dX5_node_2 ⟨Nat.zero_le _, Nat.zero_le _⟩) ?_
  refine kg_b_ne (tgt := 10) hx hb hf dX5_node_5 (by decide) (fun hc hf => ?_) (fun hc hf => ?_)
  · refine lv_iload_n hx hb dX5_node_10 rfl (lv_at hl 2 rfl) ?_
    by_cases hc0 : v2 = 0
    · rw [if_pos hc0] at hf
      refine lv_tableIn (tgt := 52) (off := 41) hx hb dX5_node_11 (by rw [hc0]; decide) (by rw [hc0]; decide) (by rw [hc0]; rfl) (by decide) ?_
      refine lv_aload_n hx hb dX5_node_52 rfl (lv_at hl 0 rfl) ?_
      refine va_get (D := (dC, dI)) (ci := 5) (v := .ref (A 1)) (C := RX5) (T := TX5) (N := 6) hx hb hts hiX5 hown hK hP 0 rfl rfl 0 (by decide) ww0 (fun _ h9 => h9) rfl dX5_node_53 ?_
      refine va_get (D := (dC, dI)) (ci := 4) (v := .ref (A 9)) (C := RX4) (T := TX4) (N := 16) hx hb hts hiX4 hown hK hP 1 rfl rfl 7 (by decide) ww1 (fun _ h9 => h9) rfl dX5_node_56 ?_
      refine va_get (D := (dC, dI)) (ci := 1) (v := .ref (A 10)) (C := RX1) (T := TX1) (N := 6) hx hb hts hiX1 hown hK hP 9 rfl rfl 0 (by decide) ww2 (fun _ h9 => h9) rfl dX5_node_59 ?_
      refine lv_iload_n hx hb dX5_node_62 rfl (lv_at hl 1 rfl) ?_
      obtain ⟨g63, hv, hf⟩ := ob_bind hf
      refine kg_iald hx hb hK hP 10 0 rfl rfl hv dX5_node_63 ?_
      obtain rfl := Option.some.inj hf
      exact kg_iretR hx hb hr hlk rfl dX5_node_64
    · rw [if_neg hc0] at hf
      by_cases hc1 : v2 = 1
      · rw [if_pos hc1] at hf
        refine lv_tableIn (tgt := 65) (off := 54) hx hb dX5_node_11 (by rw [hc1]; decide) (by rw [hc1]; decide) (by rw [hc1]; rfl) (by decide) ?_
        refine lv_aload_n hx hb dX5_node_65 rfl (lv_at hl 0 rfl) ?_
        refine va_get (D := (dC, dI)) (ci := 5) (v := .ref (A 1)) (C := RX5) (T := TX5) (N := 6) hx hb hts hiX5 hown hK hP 0 rfl rfl 0 (by decide) ww0 (fun _ h9 => h9) rfl dX5_node_66 ?_
        refine va_get (D := (dC, dI)) (ci := 4) (v := .ref (A 14)) (C := RX4) (T := TX4) (N := 16) hx hb hts hiX4 hown hK hP 1 rfl rfl 8 (by decide) ww3 (fun _ h9 => h9) rfl dX5_node_69 ?_
        refine va_get (D := (dC, dI)) (ci := 1) (v := .ref (A 15)) (C := RX1) (T := TX1) (N := 6) hx hb hts hiX1 hown hK hP 14 rfl rfl 0 (by decide) ww2 (fun _ h9 => h9) rfl dX5_node_72 ?_
        refine lv_iload_n hx hb dX5_node_75 rfl (lv_at hl 1 rfl) ?_
        obtain ⟨g76, hv, hf⟩ := ob_bind hf
        refine kg_iald hx hb hK hP 15 0 rfl rfl hv dX5_node_76 ?_
        obtain rfl := Option.some.inj hf
        exact kg_iretR hx hb hr hlk rfl dX5_node_77
      · rw [if_neg hc1] at hf
        by_cases hc2 : v2 = 2
        · rw [if_pos hc2] at hf
          refine lv_tableIn (tgt := 78) (off := 67) hx hb dX5_node_11 (by rw [hc2]; decide) (by rw [hc2]; decide) (by rw [hc2]; rfl) (by decide) ?_
          refine lv_aload_n hx hb dX5_node_78 rfl (lv_at hl 0 rfl) ?_
          refine va_get (D := (dC, dI)) (ci := 5) (v := .ref (A 1)) (C := RX5) (T := TX5) (N := 6) hx hb hts hiX5 hown hK hP 0 rfl rfl 0 (by decide) ww0 (fun _ h9 => h9) rfl dX5_node_79 ?_
          refine lv_iload_n hx hb dX5_node_82 rfl (lv_at hl 1 rfl) ?_
          obtain ⟨g83, hc, hf⟩ := ob_bind hf
          have hPc : va_P (dC, dI) vwCl (wWb cI cJ (fun i => A (i + 1)) (SB_now x)) s.heap := hP.sub [1, 2, 3, 4, 5, 6, 7, 8, 9, 10, 11, 12, 13, 14, 15, 16, 17, 18, 19, 20, 21, 22, 23] rfl
          refine kg_retRi (va_runV (As := [.int v1]) (rest := []) ⟨hx, hb, hml, hown, hts⟩ (c_X4_linksAt l dC dI cI cJ (fun i => A (i + 1)) s.heap (SB_now x) v1 _ hc) (cwV 1 hts (gw_V wd_21_19 wd_21_16 wd_21_17 wd_21_18 wd_1_14) rfl rfl rfl qX4_linksAt ⟨Nat.le_of_ble_eq_true rfl, Nat.le_of_ble_eq_true rfl⟩) (kg_preVR (ci := 4) (q := (RX4, TX4, 16)) (q0 := 0) hPc hK hN rfl rfl) rfl rfl hl.1 rfl (lv_room (Nat.le_of_ble_eq_true rfl)) dX5_node_83 ⟨Nat.zero_le _, Nat.zero_le _⟩) ?_
          obtain rfl := Option.some.inj hf
          exact kg_iretR hx hb hr hlk rfl dX5_node_86
        · rw [if_neg hc2] at hf
          by_cases hc3 : v2 = 3
          · rw [if_pos hc3] at hf
            refine lv_tableIn (tgt := 87) (off := 76) hx hb dX5_node_11 (by rw [hc3]; decide) (by rw [hc3]; decide) (by rw [hc3]; rfl) (by decide) ?_
            refine lv_aload_n hx hb dX5_node_87 rfl (lv_at hl 0 rfl) ?_
            refine va_get (D := (dC, dI)) (ci := 5) (v := .ref (A 1)) (C := RX5) (T := TX5) (N := 6) hx hb hts hiX5 hown hK hP 0 rfl rfl 0 (by decide) ww0 (fun _ h9 => h9) rfl dX5_node_88 ?_
            refine lv_iload_n hx hb dX5_node_91 rfl (lv_at hl 1 rfl) ?_
            obtain ⟨g92, hc, hf⟩ := ob_bind hf
            have hPc : va_P (dC, dI) vwCl (wWb cI cJ (fun i => A (i + 1)) (SB_now x)) s.heap := hP.sub [1, 2, 3, 4, 5, 6, 7, 8, 9, 10, 11, 12, 13, 14, 15, 16, 17, 18, 19, 20, 21, 22, 23] rfl
            refine kg_retRi (va_runV (As := [.int v1]) (rest := []) ⟨hx, hb, hml, hown, hts⟩ (c_X4_bridgesAt l dC dI cI cJ (fun i => A (i + 1)) s.heap (SB_now x) v1 _ hc) (cwV 1 hts (gw_V wd_22_3 wd_22_0 wd_22_1 wd_22_2 wd_1_14) rfl rfl rfl qX4_bridgesAt ⟨Nat.le_of_ble_eq_true rfl, Nat.le_of_ble_eq_true rfl⟩) (kg_preVR (ci := 4) (q := (RX4, TX4, 16)) (q0 := 0) hPc hK hN rfl rfl) rfl rfl hl.1 rfl (lv_room (Nat.le_of_ble_eq_true rfl)) dX5_node_92 ⟨Nat.zero_le _, Nat.zero_le _⟩) ?_
            obtain rfl := Option.some.inj hf
            exact kg_iretR hx hb hr hlk rfl dX5_node_95
          · rw [if_neg hc3] at hf
            by_cases hc4 : v2 = 4
            · rw [if_pos hc4] at hf
              refine lv_tableIn (tgt := 96) (off := 85) hx hb dX5_node_11 (by rw [hc4]; decide) (by rw [hc4]; decide) (by rw [hc4]; rfl) (by decide) ?_
              refine lv_aload_n hx hb dX5_node_96 rfl (lv_at hl 0 rfl) ?_
              refine va_get (D := (dC, dI)) (ci := 5) (v := .ref (A 59)) (C := RX5) (T := TX5) (N := 6) hx hb hts hiX5 hown hK hP 0 rfl rfl 3 (by decide) ww4 (fun _ h9 => h9) rfl dX5_node_97 ?_
              refine va_get (D := (dC, dI)) (ci := 2) (v := .ref (A 60)) (C := RX2) (T := TX2) (N := 7) hx hb hts hiX2 hown hK hP 59 rfl rfl 0 (by decide) ww5 (fun _ h9 => h9) rfl dX5_node_100 ?_
              refine lv_iload_n hx hb dX5_node_103 rfl (lv_at hl 1 rfl) ?_
              obtain ⟨g104, hv, hf⟩ := ob_bind hf
              refine kg_lald hx hb hK hP 60 1 rfl rfl hv dX5_node_104 ?_
              obtain ⟨g105, hc, hf⟩ := ob_bind hf
              have hPc : va_P (dC, dI) vwCl ([] : va_W) s.heap := fun k q h => by cases h
              refine kg_retRi (va_runS (As := [.long g104]) (rest := []) ⟨hx, hb, hml, hown, hts⟩ (c_J13_bitCount l dC dI cI cJ  s.heap g104 _ hc) (va_cwS 1 hts (gw_X wd_22_7 wd_22_4 wd_22_5 wd_22_6) rfl rfl rfl qJ13_bitCount_95d88_o ⟨Nat.le_of_ble_eq_true rfl, Nat.le_of_ble_eq_true rfl⟩) (kg_preSR hPc hK hN) rfl rfl hl.1 rfl (lv_room (Nat.le_of_ble_eq_true rfl)) dX5_node_105 ⟨Nat.zero_le _, Nat.zero_le _⟩) ?_
              obtain rfl := Option.some.inj hf
              exact kg_iretR hx hb hr hlk rfl dX5_node_108
            · rw [if_neg hc4] at hf
              by_cases hc5 : v2 = 5
              · rw [if_pos hc5] at hf
                refine lv_tableIn (tgt := 109) (off := 98) hx hb dX5_node_11 (by rw [hc5]; decide) (by rw [hc5]; decide) (by rw [hc5]; rfl) (by decide) ?_
                refine lv_aload_n hx hb dX5_node_109 rfl (lv_at hl 0 rfl) ?_
                refine va_get (D := (dC, dI)) (ci := 5) (v := .ref (A 59)) (C := RX5) (T := TX5) (N := 6) hx hb hts hiX5 hown hK hP 0 rfl rfl 3 (by decide) ww4 (fun _ h9 => h9) rfl dX5_node_110 ?_
                refine lv_iload_n hx hb dX5_node_113 rfl (lv_at hl 1 rfl) ?_
                obtain ⟨g114, hc, hf⟩ := ob_bind hf
                have hPc : va_P (dC, dI) vwCl (wPb cI cJ (fun i => A (i + 59)) (SB_book x)) s.heap := hP.sub [59, 60, 61, 62, 63] rfl
                refine kg_retRi (va_runV (As := [.int v1]) (rest := []) ⟨hx, hb, hml, hown, hts⟩ (c_X2_isCut l dC dI cI cJ (fun i => A (i + 59)) s.heap (SB_book x) v1 _ hc) (cwV 1 hts (gw_V wd_22_14 wd_22_11 wd_22_12 wd_22_13 wd_1_23) rfl rfl rfl qX2_isCut ⟨Nat.le_of_ble_eq_true rfl, Nat.le_of_ble_eq_true rfl⟩) (kg_preVR (ci := 2) (q := (RX2, TX2, 7)) (q0 := 0) hPc hK hN rfl rfl) rfl rfl hl.1 rfl (lv_room (Nat.le_of_ble_eq_true rfl)) dX5_node_114 ⟨Nat.zero_le _, Nat.zero_le _⟩) ?_
                refine kg_b_eq (tgt := 124) hx hb hf dX5_node_117 (by decide) (fun hc hf => ?_) (fun hc hf => ?_)
                · refine lv_iconst (v := 0) hx hb dX5_node_124 (by decide) ?_
                  obtain rfl := Option.some.inj hf
                  exact kg_iretR hx hb hr hlk rfl dX5_node_125
                · refine lv_iconst (v := 1) hx hb dX5_node_120 (by decide) ?_
                  refine lv_goto (tgt := 125) hx hb dX5_node_121 (by decide) ?_
                  obtain rfl := Option.some.inj hf
                  exact kg_iretR hx hb hr hlk rfl dX5_node_125
              · rw [if_neg hc5] at hf
                by_cases hc6 : v2 = 6
                · rw [if_pos hc6] at hf
                  refine lv_tableIn (tgt := 126) (off := 115) hx hb dX5_node_11 (by rw [hc6]; decide) (by rw [hc6]; decide) (by rw [hc6]; rfl) (by decide) ?_
                  refine lv_aload_n hx hb dX5_node_126 rfl (lv_at hl 0 rfl) ?_
                  refine va_get (D := (dC, dI)) (ci := 5) (v := .ref (A 47)) (C := RX5) (T := TX5) (N := 6) hx hb hts hiX5 hown hK hP 0 rfl rfl 2 (by decide) ww6 (fun _ h9 => h9) rfl dX5_node_127 ?_
                  refine va_get (D := (dC, dI)) (ci := 0) (v := .ref (A 50)) (C := RX0) (T := TX0) (N := 13) hx hb hts hiX0 hown hK hP 47 rfl rfl 2 (by decide) ww7 (fun _ h9 => h9) rfl dX5_node_130 ?_
                  refine lv_aload_n hx hb dX5_node_133 rfl (lv_at hl 0 rfl) ?_
                  refine va_get (D := (dC, dI)) (ci := 5) (v := .ref (A 1)) (C := RX5) (T := TX5) (N := 6) hx hb hts hiX5 hown hK hP 0 rfl rfl 0 (by decide) ww0 (fun _ h9 => h9) rfl dX5_node_134 ?_
                  refine va_get (D := (dC, dI)) (ci := 4) (v := .ref (A 9)) (C := RX4) (T := TX4) (N := 16) hx hb hts hiX4 hown hK hP 1 rfl rfl 7 (by decide) ww1 (fun _ h9 => h9) rfl dX5_node_137 ?_
                  refine va_get (D := (dC, dI)) (ci := 1) (v := .ref (A 10)) (C := RX1) (T := TX1) (N := 6) hx hb hts hiX1 hown hK hP 9 rfl rfl 0 (by decide) ww2 (fun _ h9 => h9) rfl dX5_node_140 ?_
                  refine lv_iload_n hx hb dX5_node_143 rfl (lv_at hl 1 rfl) ?_
                  obtain ⟨g144, hv, hf⟩ := ob_bind hf
                  refine kg_iald hx hb hK hP 10 0 rfl rfl hv dX5_node_144 ?_
                  obtain ⟨g145, hv, hf⟩ := ob_bind hf
                  refine kg_iald hx hb hK hP 50 0 rfl rfl hv dX5_node_145 ?_
                  obtain rfl := Option.some.inj hf
                  exact kg_iretR hx hb hr hlk rfl dX5_node_146
                · rw [if_neg hc6] at hf
                  have ehc0 := ne_toInt hc0 (k := 0) (by decide)
                  have ehc1 := ne_toInt hc1 (k := 1) (by decide)
                  have ehc2 := ne_toInt hc2 (k := 2) (by decide)
                  have ehc3 := ne_toInt hc3 (k := 3) (by decide)
                  have ehc4 := ne_toInt hc4 (k := 4) (by decide)
                  have ehc5 := ne_toInt hc5 (k := 5) (by decide)
                  have ehc6 := ne_toInt hc6 (k := 6) (by decide)
                  refine lv_tableOut (tgt := 147) hx hb dX5_node_11 (by omega) (by decide) ?_
                  refine lv_iconst (v := (-1)) hx hb dX5_node_147 (by decide) ?_
                  obtain rfl := Option.some.inj hf
                  exact kg_iretR hx hb hr hlk rfl dX5_node_148
  · refine lv_iconst (v := (-1)) hx hb dX5_node_8 (by decide) ?_
    obtain rfl := Option.some.inj hf
    exact kg_iretR hx hb hr hlk rfl dX5_node_9
set_option maxHeartbeats 4000000 in
set_option maxRecDepth 100000 in
theorem c_X5_member (l : Launch) (dC : Nat → ClassId) (dI : Nat → Nat → Nat) (cI cJ : ClassId) (A : Nat → Nat) (hq : Heap) (x : SBS) (v1 : Int32) (v2 : Int32) (r0 : Int32) (hf : SB_m_member x v1 v2 = some r0) : MRi l yX5_member (wAll yX5_member cX5_member 5 (some .int)) ({ frames := 2, cells := 0, slots := 0, locals := 61 } : Room) [.ref (A 0), .int v1, .int v2] hq (dC, dI) (vTy cI cJ) (wSB cI cJ A x) r0 := by
  refine kg_metR (cc := cX5_member) (maxL := 5) (ret := (some .int)) (by decide) rfl (Nat.le_of_ble_eq_true rfl) ?_
  intro p e s m args below meth c hx hb hr hts hown hlk hml hH hP hK hN ls hl
  subst hH
  have hl : lv_has ls 5 [(0, .ref (A 0)), (1, .int v1), (2, .int v2)] := hl
  have ww0 := hts (.fieldLink RX5 12 "SafeBlocks" "now" "LSafeBlocks$Web;") (List.mem_cons_of_mem _ wd_1_15)
  have ww1 := hts (.fieldLink RX5 118 "SafeBlocks$Web" "blocks" "LSafeBlocks$Names;") (List.mem_cons_of_mem _ wd_18_7)
  have ww2 := hts (.fieldLink RX5 65 "SafeBlocks$Web" "nodes" "I") (List.mem_cons_of_mem _ wd_10_0)
  have ww3 := hts (.fieldLink RX5 103 "SafeBlocks$Names" "of" "[I") (List.mem_cons_of_mem _ wd_17_19)
  have hiX5 : ∀ w ∈ u_ws RX5 TX5 6, w ∈ wAll yX5_member cX5_member 5 (some .int) := fun w h => List.mem_cons_of_mem _ (inlX5 w h)
  have hiX4 : ∀ w ∈ u_ws RX4 TX4 16, w ∈ wAll yX5_member cX5_member 5 (some .int) := fun w h => List.mem_cons_of_mem _ (inlX4 w h)
  have hiX1 : ∀ w ∈ u_ws RX1 TX1 6, w ∈ wAll yX5_member cX5_member 5 (some .int) := fun w h => List.mem_cons_of_mem _ (inlX1 w h)
  unfold SB_m_member at hf
  refine lv_aload_n hx hb dX5_member_0 rfl (lv_at hl 0 rfl) ?_
  refine va_get (D := (dC, dI)) (ci := 5) (v := .ref (A 1)) (C := RX5) (T := TX5) (N := 6) hx hb hts hiX5 hown hK hP 0 rfl rfl 0 (by decide) ww0 (fun _ h9 => h9) rfl dX5_member_1 ?_
  refine va_get (D := (dC, dI)) (ci := 4) (v := .ref (A 9)) (C := RX4) (T := TX4) (N := 16) hx hb hts hiX4 hown hK hP 1 rfl rfl 7 (by decide) ww1 (fun _ h9 => h9) rfl dX5_member_4 ?_
  refine lv_iload_n hx hb dX5_member_7 rfl (lv_at hl 1 rfl) ?_
  obtain ⟨g8, hc, hf⟩ := ob_bind hf
  have hPc : va_P (dC, dI) vwCl (wNm cI cJ 32 (fun i => A (i + 9)) (Wb_blocks (SB_now x))) s.heap := hP.sub [9, 10, 11, 12, 13] rfl
  refine kg_retRi (va_runV (As := [.int v1]) (rest := []) ⟨hx, hb, hml, hown, hts⟩ (c_X1_lives l dC dI cI cJ (fun i => A (i + 9)) s.heap 32 (Wb_blocks (SB_now x)) v1 _ hc) (cwV 1 hts (gw_V wd_6_18 wd_23_17 wd_6_16 wd_6_17 wd_2_20) rfl rfl rfl qX1_lives ⟨Nat.le_of_ble_eq_true rfl, Nat.le_of_ble_eq_true rfl⟩) (kg_preVR (ci := 1) (q := (RX1, TX1, 6)) (q0 := 0) hPc hK hN rfl rfl) rfl rfl hl.1 rfl (lv_room (Nat.le_of_ble_eq_true rfl)) dX5_member_8 ⟨Nat.zero_le _, Nat.zero_le _⟩) ?_
  refine kg_b_ne (tgt := 16) hx hb hf dX5_member_11 (by decide) (fun hc hf => ?_) (fun hc hf => ?_)
  · refine lv_iconst (v := 0) hx hb dX5_member_16 (by decide) ?_
    refine lv_istore_n (lv' := [(3, .int 0), (0, .ref (A 0)), (1, .int v1), (2, .int v2)]) hx hb dX5_member_17 rfl hl (by decide) rfl (fun ls hl => ?_)
    refine lv_iconst (v := 0) hx hb dX5_member_18 (by decide) ?_
    refine lv_istore (lv' := [(4, .int 0), (3, .int 0), (0, .ref (A 0)), (1, .int v1), (2, .int v2)]) hx hb dX5_member_19 hl (by decide) rfl (fun ls hl => ?_)
    have hlp21 : ∀ (n : Nat) (v3 : Int32) (v4 : Int32), iter (fun p : Int32 × Int32 => SB_m_member_s21 x v1 v2 p.1 p.2) n (v3, v4) = some r0 → ∀ (ls : Array Slot), lv_has ls 5 [(0, .ref (A 0)), (1, .int v1), (2, .int v2), (3, .int v3), (4, .int v4)] → W p l e ({ frames := 2, cells := 0, slots := 0, locals := 61 } : Room) s m args below meth c s.heap [] 0 0 (MQ below (QRi s.heap r0) args s 0 0 NoA) (F0 m 21 ls []) := by
      intro  n
      induction n with
      | zero => intro v3 v4 hf; exact iter_zero hf
      | succ n ih1 =>
        intro v3 v4 hf ls hl
        obtain ⟨q1, hf, hk1⟩ := iter_succ hf
        have hf : SB_m_member_s21 x v1 v2 v3 v4 = some q1 := hf
        unfold SB_m_member_s21 at hf
        refine lv_iload hx hb dX5_member_21 (lv_at hl 4 rfl) ?_
        refine lv_aload_n hx hb dX5_member_23 rfl (lv_at hl 0 rfl) ?_
        refine va_get (D := (dC, dI)) (ci := 5) (v := .ref (A 1)) (C := RX5) (T := TX5) (N := 6) hx hb hts hiX5 hown hK hP 0 rfl rfl 0 (by decide) ww0 (fun _ h9 => h9) rfl dX5_member_24 ?_
        refine va_get (D := (dC, dI)) (ci := 4) (v := .int (Wb_nodes (SB_now x))) (C := RX4) (T := TX4) (N := 16) hx hb hts hiX4 hown hK hP 1 rfl rfl 10 (by decide) ww2 (fun _ h9 => h9) rfl dX5_member_27 ?_
        refine kg_icmp_ge (tgt := 67) hx hb hf dX5_member_30 (by decide) (fun hc hf => ?_) (fun hc hf => ?_)
        · obtain ⟨qq, hf, hqq⟩ := omap_some hf
          have hkq : qq = r0 := by rw [← hqq] at hk1; exact hk1
          rw [hkq] at hf
          clear hkq hqq
          refine lv_iconst (v := (-1)) hx hb dX5_member_67 (by decide) ?_
          obtain rfl := Option.some.inj hf
          exact kg_iretR hx hb hr hlk rfl dX5_member_68
        · refine lv_aload_n hx hb dX5_member_33 rfl (lv_at hl 0 rfl) ?_
          refine va_get (D := (dC, dI)) (ci := 5) (v := .ref (A 1)) (C := RX5) (T := TX5) (N := 6) hx hb hts hiX5 hown hK hP 0 rfl rfl 0 (by decide) ww0 (fun _ h9 => h9) rfl dX5_member_34 ?_
          refine va_get (D := (dC, dI)) (ci := 4) (v := .ref (A 9)) (C := RX4) (T := TX4) (N := 16) hx hb hts hiX4 hown hK hP 1 rfl rfl 7 (by decide) ww1 (fun _ h9 => h9) rfl dX5_member_37 ?_
          refine va_get (D := (dC, dI)) (ci := 1) (v := .ref (A 10)) (C := RX1) (T := TX1) (N := 6) hx hb hts hiX1 hown hK hP 9 rfl rfl 0 (by decide) ww3 (fun _ h9 => h9) rfl dX5_member_40 ?_
          refine lv_iload hx hb dX5_member_43 (lv_at hl 4 rfl) ?_
          obtain ⟨g45, hv, hf⟩ := ob_bind hf
          refine kg_iald hx hb hK hP 10 0 rfl rfl hv dX5_member_45 ?_
          refine lv_iload_n hx hb dX5_member_46 rfl (lv_at hl 1 rfl) ?_
          refine kg_icmp_ne (tgt := 61) hx hb hf dX5_member_47 (by decide) (fun hc hf => ?_) (fun hc hf => ?_)
          · refine lv_iinc (v := (v4 + 1)) (lv' := [(4, .int (v4 + 1)), (0, .ref (A 0)), (1, .int v1), (2, .int v2), (3, .int v3)]) hx hb dX5_member_61 hl (k := 4) rfl rfl (by decide) rfl (fun ls hl => ?_)
            refine lv_goto (tgt := 21) hx hb dX5_member_64 (by decide) ?_
            obtain rfl := Option.some.inj hf
            exact ih1 v3 (v4 + 1) hk1 _ (lv_sub hl [1, 2, 3, 4, 0] rfl)
          · refine lv_iload_n hx hb dX5_member_50 rfl (lv_at hl 3 rfl) ?_
            refine lv_iload_n hx hb dX5_member_51 rfl (lv_at hl 2 rfl) ?_
            refine kg_icmp_ne (tgt := 58) hx hb hf dX5_member_52 (by decide) (fun hc hf => ?_) (fun hc hf => ?_)
            · refine lv_iinc (v := (v3 + 1)) (lv' := [(3, .int (v3 + 1)), (0, .ref (A 0)), (1, .int v1), (2, .int v2), (4, .int v4)]) hx hb dX5_member_58 hl (k := 3) rfl rfl (by decide) rfl (fun ls hl => ?_)
              refine lv_iinc (v := (v4 + 1)) (lv' := [(4, .int (v4 + 1)), (3, .int (v3 + 1)), (0, .ref (A 0)), (1, .int v1), (2, .int v2)]) hx hb dX5_member_61 hl (k := 4) rfl rfl (by decide) rfl (fun ls hl => ?_)
              refine lv_goto (tgt := 21) hx hb dX5_member_64 (by decide) ?_
              obtain rfl := Option.some.inj hf
              exact ih1 (v3 + 1) (v4 + 1) hk1 _ (lv_sub hl [2, 3, 4, 1, 0] rfl)
            · obtain ⟨qq, hf, hqq⟩ := omap_some hf
              have hkq : qq = r0 := by rw [← hqq] at hk1; exact hk1
              rw [hkq] at hf
              clear hkq hqq
              refine lv_iload hx hb dX5_member_55 (lv_at hl 4 rfl) ?_
              obtain rfl := Option.some.inj hf
              exact kg_iretR hx hb hr hlk rfl dX5_member_57
    exact hlp21  FU 0 0 hf _ (lv_sub hl [2, 3, 4, 1, 0] rfl)
  · refine lv_iconst (v := (-1)) hx hb dX5_member_14 (by decide) ?_
    obtain rfl := Option.some.inj hf
    exact kg_iretR hx hb hr hlk rfl dX5_member_15
set_option maxHeartbeats 4000000 in
set_option maxRecDepth 100000 in
theorem c_X5_block (l : Launch) (dC : Nat → ClassId) (dI : Nat → Nat → Nat) (cI cJ : ClassId) (A : Nat → Nat) (hq : Heap) (x : SBS) (v1 : Int32) (v2 : Int32) (r0 : Int32) (hf : SB_m_block x v1 v2 = some r0) : MRi l yX5_block (wAll yX5_block cX5_block 3 (some .int)) ({ frames := 3, cells := 0, slots := 0, locals := 85 } : Room) [.ref (A 0), .int v1, .int v2] hq (dC, dI) (vTy cI cJ) (wSB cI cJ A x) r0 := by
  refine kg_metR (cc := cX5_block) (maxL := 3) (ret := (some .int)) (by decide) rfl (Nat.le_of_ble_eq_true rfl) ?_
  intro p e s m args below meth c hx hb hr hts hown hlk hml hH hP hK hN ls hl
  subst hH
  have hl : lv_has ls 3 [(0, .ref (A 0)), (1, .int v1), (2, .int v2)] := hl
  have ww0 := hts (.fieldLink RX5 12 "SafeBlocks" "now" "LSafeBlocks$Web;") (List.mem_cons_of_mem _ wd_1_15)
  have ww1 := hts (.fieldLink RX5 118 "SafeBlocks$Web" "blocks" "LSafeBlocks$Names;") (List.mem_cons_of_mem _ wd_18_7)
  have ww2 := hts (.fieldLink RX5 124 "SafeBlocks$Names" "size" "[I") (List.mem_cons_of_mem _ wd_18_9)
  have ww3 := hts (.fieldLink RX5 22 "SafeBlocks" "forest" "LSafeBlocks$Forest;") (List.mem_cons_of_mem _ wd_1_20)
  have ww4 := hts (.fieldLink RX5 161 "SafeBlocks$Forest" "bridgesAt" "[I") (List.mem_cons_of_mem _ wd_23_12)
  have ww5 := hts (.fieldLink RX5 163 "SafeBlocks$Forest" "parent" "[I") (List.mem_cons_of_mem _ wd_23_13)
  have ww6 := hts (.fieldLink RX5 166 "SafeBlocks$Forest" "upLink" "[I") (List.mem_cons_of_mem _ wd_23_14)
  have ww7 := hts (.fieldLink RX5 149 "SafeBlocks$Forest" "deep" "[I") (List.mem_cons_of_mem _ wd_21_15)
  have ww8 := hts (.fieldLink RX5 167 "SafeBlocks$Forest" "children" "[I") (List.mem_cons_of_mem _ wd_23_15)
  have ww9 := hts (.fieldLink RX5 29 "SafeBlocks" "book" "LSafeBlocks$PartBook;") (List.mem_cons_of_mem _ wd_2_0)
  have ww10 := hts (.fieldLink RX5 178 "SafeBlocks$PartBook" "onRings" "J") (List.mem_cons_of_mem _ wd_23_16)
  have ww11 := hts (.fieldLink RX5 115 "SafeBlocks$Forest" "below" "[I") (List.mem_cons_of_mem _ wd_18_6)
  have hiX5 : ∀ w ∈ u_ws RX5 TX5 6, w ∈ wAll yX5_block cX5_block 3 (some .int) := fun w h => List.mem_cons_of_mem _ (inlX5 w h)
  have hiX4 : ∀ w ∈ u_ws RX4 TX4 16, w ∈ wAll yX5_block cX5_block 3 (some .int) := fun w h => List.mem_cons_of_mem _ (inlX4 w h)
  have hiX1 : ∀ w ∈ u_ws RX1 TX1 6, w ∈ wAll yX5_block cX5_block 3 (some .int) := fun w h => List.mem_cons_of_mem _ (inlX1 w h)
  have hiX0 : ∀ w ∈ u_ws RX0 TX0 13, w ∈ wAll yX5_block cX5_block 3 (some .int) := fun w h => List.mem_cons_of_mem _ (inlX0 w h)
  have hiX2 : ∀ w ∈ u_ws RX2 TX2 7, w ∈ wAll yX5_block cX5_block 3 (some .int) := fun w h => List.mem_cons_of_mem _ (inlX2 w h)
  unfold SB_m_block at hf
  refine lv_aload_n hx hb dX5_block_0 rfl (lv_at hl 0 rfl) ?_
  refine va_get (D := (dC, dI)) (ci := 5) (v := .ref (A 1)) (C := RX5) (T := TX5) (N := 6) hx hb hts hiX5 hown hK hP 0 rfl rfl 0 (by decide) ww0 (fun _ h9 => h9) rfl dX5_block_1 ?_
  refine va_get (D := (dC, dI)) (ci := 4) (v := .ref (A 9)) (C := RX4) (T := TX4) (N := 16) hx hb hts hiX4 hown hK hP 1 rfl rfl 7 (by decide) ww1 (fun _ h9 => h9) rfl dX5_block_4 ?_
  refine lv_iload_n hx hb dX5_block_7 rfl (lv_at hl 1 rfl) ?_
  obtain ⟨g8, hc, hf⟩ := ob_bind hf
  have hPc : va_P (dC, dI) vwCl (wNm cI cJ 32 (fun i => A (i + 9)) (Wb_blocks (SB_now x))) s.heap := hP.sub [9, 10, 11, 12, 13] rfl
  refine kg_retRi (va_runV (As := [.int v1]) (rest := []) ⟨hx, hb, hml, hown, hts⟩ (c_X1_lives l dC dI cI cJ (fun i => A (i + 9)) s.heap 32 (Wb_blocks (SB_now x)) v1 _ hc) (cwV 1 hts (gw_V wd_6_18 wd_23_17 wd_6_16 wd_6_17 wd_2_20) rfl rfl rfl qX1_lives ⟨Nat.le_of_ble_eq_true rfl, Nat.le_of_ble_eq_true rfl⟩) (kg_preVR (ci := 1) (q := (RX1, TX1, 6)) (q0 := 0) hPc hK hN rfl rfl) rfl rfl hl.1 rfl (lv_room (Nat.le_of_ble_eq_true rfl)) dX5_block_8 ⟨Nat.zero_le _, Nat.zero_le _⟩) ?_
  refine kg_b_ne (tgt := 16) hx hb hf dX5_block_11 (by decide) (fun hc hf => ?_) (fun hc hf => ?_)
  · refine lv_iload_n hx hb dX5_block_16 rfl (lv_at hl 2 rfl) ?_
    by_cases hc0 : v2 = 0
    · rw [if_pos hc0] at hf
      refine lv_tableIn (tgt := 76) (off := 59) hx hb dX5_block_17 (by rw [hc0]; decide) (by rw [hc0]; decide) (by rw [hc0]; rfl) (by decide) ?_
      refine lv_aload_n hx hb dX5_block_76 rfl (lv_at hl 0 rfl) ?_
      refine va_get (D := (dC, dI)) (ci := 5) (v := .ref (A 1)) (C := RX5) (T := TX5) (N := 6) hx hb hts hiX5 hown hK hP 0 rfl rfl 0 (by decide) ww0 (fun _ h9 => h9) rfl dX5_block_77 ?_
      refine va_get (D := (dC, dI)) (ci := 4) (v := .ref (A 9)) (C := RX4) (T := TX4) (N := 16) hx hb hts hiX4 hown hK hP 1 rfl rfl 7 (by decide) ww1 (fun _ h9 => h9) rfl dX5_block_80 ?_
      refine va_get (D := (dC, dI)) (ci := 1) (v := .ref (A 11)) (C := RX1) (T := TX1) (N := 6) hx hb hts hiX1 hown hK hP 9 rfl rfl 1 (by decide) ww2 (fun _ h9 => h9) rfl dX5_block_83 ?_
      refine lv_iload_n hx hb dX5_block_86 rfl (lv_at hl 1 rfl) ?_
      obtain ⟨g87, hv, hf⟩ := ob_bind hf
      refine kg_iald hx hb hK hP 11 0 rfl rfl hv dX5_block_87 ?_
      obtain rfl := Option.some.inj hf
      exact kg_iretR hx hb hr hlk rfl dX5_block_88
    · rw [if_neg hc0] at hf
      by_cases hc1 : v2 = 1
      · rw [if_pos hc1] at hf
        refine lv_tableIn (tgt := 89) (off := 72) hx hb dX5_block_17 (by rw [hc1]; decide) (by rw [hc1]; decide) (by rw [hc1]; rfl) (by decide) ?_
        refine lv_aload_n hx hb dX5_block_89 rfl (lv_at hl 0 rfl) ?_
        refine lv_iload_n hx hb dX5_block_90 rfl (lv_at hl 1 rfl) ?_
        refine lv_iconst (v := 0) hx hb dX5_block_91 (by decide) ?_
        obtain ⟨g92, hc, hf⟩ := ob_bind hf
        have hPc : va_P (dC, dI) vwCl (wSB cI cJ A x) s.heap := hP
        refine kg_retRi (va_runV (As := [.int v1, .int 0]) (rest := []) ⟨hx, hb, hml, hown, hts⟩ (c_X5_member l dC dI cI cJ A s.heap x v1 0 _ hc) (cwV 2 hts (gw_V wd_23_21 wd_23_18 wd_23_19 wd_23_20 wd_1_2) rfl rfl rfl qX5_member ⟨Nat.le_of_ble_eq_true rfl, Nat.le_of_ble_eq_true rfl⟩) (kg_preVR (ci := 5) (q := (RX5, TX5, 6)) (q0 := 0) hPc hK hN rfl rfl) rfl rfl hl.1 rfl (lv_room (Nat.le_of_ble_eq_true rfl)) dX5_block_92 ⟨Nat.zero_le _, Nat.zero_le _⟩) ?_
        obtain rfl := Option.some.inj hf
        exact kg_iretR hx hb hr hlk rfl dX5_block_95
      · rw [if_neg hc1] at hf
        by_cases hc2 : v2 = 2
        · rw [if_pos hc2] at hf
          refine lv_tableIn (tgt := 96) (off := 79) hx hb dX5_block_17 (by rw [hc2]; decide) (by rw [hc2]; decide) (by rw [hc2]; rfl) (by decide) ?_
          refine lv_aload_n hx hb dX5_block_96 rfl (lv_at hl 0 rfl) ?_
          refine va_get (D := (dC, dI)) (ci := 5) (v := .ref (A 1)) (C := RX5) (T := TX5) (N := 6) hx hb hts hiX5 hown hK hP 0 rfl rfl 0 (by decide) ww0 (fun _ h9 => h9) rfl dX5_block_97 ?_
          refine lv_iload_n hx hb dX5_block_100 rfl (lv_at hl 1 rfl) ?_
          obtain ⟨g101, hc, hf⟩ := ob_bind hf
          have hPc : va_P (dC, dI) vwCl (wWb cI cJ (fun i => A (i + 1)) (SB_now x)) s.heap := hP.sub [1, 2, 3, 4, 5, 6, 7, 8, 9, 10, 11, 12, 13, 14, 15, 16, 17, 18, 19, 20, 21, 22, 23] rfl
          refine kg_retRi (va_runV (As := [.int v1]) (rest := []) ⟨hx, hb, hml, hown, hts⟩ (c_X4_linksWithin l dC dI cI cJ (fun i => A (i + 1)) s.heap (SB_now x) v1 _ hc) (cwV 1 hts (gw_V wd_24_1 wd_23_22 wd_23_23 wd_24_0 wd_1_14) rfl rfl rfl qX4_linksWithin ⟨Nat.le_of_ble_eq_true rfl, Nat.le_of_ble_eq_true rfl⟩) (kg_preVR (ci := 4) (q := (RX4, TX4, 16)) (q0 := 0) hPc hK hN rfl rfl) rfl rfl hl.1 rfl (lv_room (Nat.le_of_ble_eq_true rfl)) dX5_block_101 ⟨Nat.zero_le _, Nat.zero_le _⟩) ?_
          obtain rfl := Option.some.inj hf
          exact kg_iretR hx hb hr hlk rfl dX5_block_104
        · rw [if_neg hc2] at hf
          by_cases hc3 : v2 = 3
          · rw [if_pos hc3] at hf
            refine lv_tableIn (tgt := 105) (off := 88) hx hb dX5_block_17 (by rw [hc3]; decide) (by rw [hc3]; decide) (by rw [hc3]; rfl) (by decide) ?_
            refine lv_aload_n hx hb dX5_block_105 rfl (lv_at hl 0 rfl) ?_
            refine va_get (D := (dC, dI)) (ci := 5) (v := .ref (A 47)) (C := RX5) (T := TX5) (N := 6) hx hb hts hiX5 hown hK hP 0 rfl rfl 2 (by decide) ww3 (fun _ h9 => h9) rfl dX5_block_106 ?_
            refine va_get (D := (dC, dI)) (ci := 0) (v := .ref (A 52)) (C := RX0) (T := TX0) (N := 13) hx hb hts hiX0 hown hK hP 47 rfl rfl 4 (by decide) ww4 (fun _ h9 => h9) rfl dX5_block_109 ?_
            refine lv_iload_n hx hb dX5_block_112 rfl (lv_at hl 1 rfl) ?_
            obtain ⟨g113, hv, hf⟩ := ob_bind hf
            refine kg_iald hx hb hK hP 52 0 rfl rfl hv dX5_block_113 ?_
            obtain rfl := Option.some.inj hf
            exact kg_iretR hx hb hr hlk rfl dX5_block_114
          · rw [if_neg hc3] at hf
            by_cases hc4 : v2 = 4
            · rw [if_pos hc4] at hf
              refine lv_tableIn (tgt := 115) (off := 98) hx hb dX5_block_17 (by rw [hc4]; decide) (by rw [hc4]; decide) (by rw [hc4]; rfl) (by decide) ?_
              refine lv_aload_n hx hb dX5_block_115 rfl (lv_at hl 0 rfl) ?_
              refine va_get (D := (dC, dI)) (ci := 5) (v := .ref (A 47)) (C := RX5) (T := TX5) (N := 6) hx hb hts hiX5 hown hK hP 0 rfl rfl 2 (by decide) ww3 (fun _ h9 => h9) rfl dX5_block_116 ?_
              refine va_get (D := (dC, dI)) (ci := 0) (v := .ref (A 48)) (C := RX0) (T := TX0) (N := 13) hx hb hts hiX0 hown hK hP 47 rfl rfl 0 (by decide) ww5 (fun _ h9 => h9) rfl dX5_block_119 ?_
              refine lv_iload_n hx hb dX5_block_122 rfl (lv_at hl 1 rfl) ?_
              obtain ⟨g123, hv, hf⟩ := ob_bind hf
              refine kg_iald hx hb hK hP 48 0 rfl rfl hv dX5_block_123 ?_
              obtain rfl := Option.some.inj hf
              exact kg_iretR hx hb hr hlk rfl dX5_block_124
            · rw [if_neg hc4] at hf
              by_cases hc5 : v2 = 5
              · rw [if_pos hc5] at hf
                refine lv_tableIn (tgt := 125) (off := 108) hx hb dX5_block_17 (by rw [hc5]; decide) (by rw [hc5]; decide) (by rw [hc5]; rfl) (by decide) ?_
                refine lv_aload_n hx hb dX5_block_125 rfl (lv_at hl 0 rfl) ?_
                refine va_get (D := (dC, dI)) (ci := 5) (v := .ref (A 47)) (C := RX5) (T := TX5) (N := 6) hx hb hts hiX5 hown hK hP 0 rfl rfl 2 (by decide) ww3 (fun _ h9 => h9) rfl dX5_block_126 ?_
                refine va_get (D := (dC, dI)) (ci := 0) (v := .ref (A 49)) (C := RX0) (T := TX0) (N := 13) hx hb hts hiX0 hown hK hP 47 rfl rfl 1 (by decide) ww6 (fun _ h9 => h9) rfl dX5_block_129 ?_
                refine lv_iload_n hx hb dX5_block_132 rfl (lv_at hl 1 rfl) ?_
                obtain ⟨g133, hv, hf⟩ := ob_bind hf
                refine kg_iald hx hb hK hP 49 0 rfl rfl hv dX5_block_133 ?_
                obtain rfl := Option.some.inj hf
                exact kg_iretR hx hb hr hlk rfl dX5_block_134
              · rw [if_neg hc5] at hf
                by_cases hc6 : v2 = 6
                · rw [if_pos hc6] at hf
                  refine lv_tableIn (tgt := 135) (off := 118) hx hb dX5_block_17 (by rw [hc6]; decide) (by rw [hc6]; decide) (by rw [hc6]; rfl) (by decide) ?_
                  refine lv_aload_n hx hb dX5_block_135 rfl (lv_at hl 0 rfl) ?_
                  refine va_get (D := (dC, dI)) (ci := 5) (v := .ref (A 47)) (C := RX5) (T := TX5) (N := 6) hx hb hts hiX5 hown hK hP 0 rfl rfl 2 (by decide) ww3 (fun _ h9 => h9) rfl dX5_block_136 ?_
                  refine va_get (D := (dC, dI)) (ci := 0) (v := .ref (A 50)) (C := RX0) (T := TX0) (N := 13) hx hb hts hiX0 hown hK hP 47 rfl rfl 2 (by decide) ww7 (fun _ h9 => h9) rfl dX5_block_139 ?_
                  refine lv_iload_n hx hb dX5_block_142 rfl (lv_at hl 1 rfl) ?_
                  obtain ⟨g143, hv, hf⟩ := ob_bind hf
                  refine kg_iald hx hb hK hP 50 0 rfl rfl hv dX5_block_143 ?_
                  obtain rfl := Option.some.inj hf
                  exact kg_iretR hx hb hr hlk rfl dX5_block_144
                · rw [if_neg hc6] at hf
                  by_cases hc7 : v2 = 7
                  · rw [if_pos hc7] at hf
                    refine lv_tableIn (tgt := 145) (off := 128) hx hb dX5_block_17 (by rw [hc7]; decide) (by rw [hc7]; decide) (by rw [hc7]; rfl) (by decide) ?_
                    refine lv_aload_n hx hb dX5_block_145 rfl (lv_at hl 0 rfl) ?_
                    refine va_get (D := (dC, dI)) (ci := 5) (v := .ref (A 47)) (C := RX5) (T := TX5) (N := 6) hx hb hts hiX5 hown hK hP 0 rfl rfl 2 (by decide) ww3 (fun _ h9 => h9) rfl dX5_block_146 ?_
                    refine va_get (D := (dC, dI)) (ci := 0) (v := .ref (A 51)) (C := RX0) (T := TX0) (N := 13) hx hb hts hiX0 hown hK hP 47 rfl rfl 3 (by decide) ww8 (fun _ h9 => h9) rfl dX5_block_149 ?_
                    refine lv_iload_n hx hb dX5_block_152 rfl (lv_at hl 1 rfl) ?_
                    obtain ⟨g153, hv, hf⟩ := ob_bind hf
                    refine kg_iald hx hb hK hP 51 0 rfl rfl hv dX5_block_153 ?_
                    obtain rfl := Option.some.inj hf
                    exact kg_iretR hx hb hr hlk rfl dX5_block_154
                  · rw [if_neg hc7] at hf
                    by_cases hc8 : v2 = 8
                    · rw [if_pos hc8] at hf
                      refine lv_tableIn (tgt := 155) (off := 138) hx hb dX5_block_17 (by rw [hc8]; decide) (by rw [hc8]; decide) (by rw [hc8]; rfl) (by decide) ?_
                      refine lv_aload_n hx hb dX5_block_155 rfl (lv_at hl 0 rfl) ?_
                      refine va_get (D := (dC, dI)) (ci := 5) (v := .ref (A 59)) (C := RX5) (T := TX5) (N := 6) hx hb hts hiX5 hown hK hP 0 rfl rfl 3 (by decide) ww9 (fun _ h9 => h9) rfl dX5_block_156 ?_
                      refine lv_aload_n hx hb dX5_block_159 rfl (lv_at hl 0 rfl) ?_
                      refine va_get (D := (dC, dI)) (ci := 5) (v := .ref (A 1)) (C := RX5) (T := TX5) (N := 6) hx hb hts hiX5 hown hK hP 0 rfl rfl 0 (by decide) ww0 (fun _ h9 => h9) rfl dX5_block_160 ?_
                      refine va_get (D := (dC, dI)) (ci := 4) (v := .ref (A 9)) (C := RX4) (T := TX4) (N := 16) hx hb hts hiX4 hown hK hP 1 rfl rfl 7 (by decide) ww1 (fun _ h9 => h9) rfl dX5_block_163 ?_
                      refine lv_iload_n hx hb dX5_block_166 rfl (lv_at hl 1 rfl) ?_
                      obtain ⟨g167, hc, hf⟩ := ob_bind hf
                      have hPc : va_P (dC, dI) vwCl (wPb cI cJ (fun i => A (i + 59)) (SB_book x) ++ (wNm cI cJ 32 (fun i => A (i + 9)) (Wb_blocks (SB_now x)))) s.heap := hP.sub [59, 60, 61, 62, 63, 9, 10, 11, 12, 13] rfl
                      refine kg_retRi (va_runV (As := [.ref (A 9), .int v1]) (rest := []) ⟨hx, hb, hml, hown, hts⟩ (c_X2_cutsWithin l dC dI cI cJ (fun i => A (i + 59)) (fun i => A (i + 9)) s.heap (SB_book x) 32 (Wb_blocks (SB_now x)) v1 _ hc) (cwV 2 hts (gw_V wd_24_5 wd_24_2 wd_24_3 wd_24_4 wd_1_23) rfl rfl rfl qX2_cutsWithin ⟨Nat.le_of_ble_eq_true rfl, Nat.le_of_ble_eq_true rfl⟩) (kg_preVR (ci := 2) (q := (RX2, TX2, 7)) (q0 := 0) hPc hK hN rfl rfl) rfl rfl hl.1 rfl (lv_room (Nat.le_of_ble_eq_true rfl)) dX5_block_167 ⟨Nat.zero_le _, Nat.zero_le _⟩) ?_
                      obtain rfl := Option.some.inj hf
                      exact kg_iretR hx hb hr hlk rfl dX5_block_170
                    · rw [if_neg hc8] at hf
                      by_cases hc9 : v2 = 9
                      · rw [if_pos hc9] at hf
                        refine lv_tableIn (tgt := 171) (off := 154) hx hb dX5_block_17 (by rw [hc9]; decide) (by rw [hc9]; decide) (by rw [hc9]; rfl) (by decide) ?_
                        refine lv_aload_n hx hb dX5_block_171 rfl (lv_at hl 0 rfl) ?_
                        refine va_get (D := (dC, dI)) (ci := 5) (v := .ref (A 59)) (C := RX5) (T := TX5) (N := 6) hx hb hts hiX5 hown hK hP 0 rfl rfl 3 (by decide) ww9 (fun _ h9 => h9) rfl dX5_block_172 ?_
                        refine lv_aload_n hx hb dX5_block_175 rfl (lv_at hl 0 rfl) ?_
                        refine va_get (D := (dC, dI)) (ci := 5) (v := .ref (A 1)) (C := RX5) (T := TX5) (N := 6) hx hb hts hiX5 hown hK hP 0 rfl rfl 0 (by decide) ww0 (fun _ h9 => h9) rfl dX5_block_176 ?_
                        refine va_get (D := (dC, dI)) (ci := 4) (v := .ref (A 9)) (C := RX4) (T := TX4) (N := 16) hx hb hts hiX4 hown hK hP 1 rfl rfl 7 (by decide) ww1 (fun _ h9 => h9) rfl dX5_block_179 ?_
                        refine lv_iload_n hx hb dX5_block_182 rfl (lv_at hl 1 rfl) ?_
                        obtain ⟨g183, hc, hf⟩ := ob_bind hf
                        have hPc : va_P (dC, dI) vwCl (wPb cI cJ (fun i => A (i + 59)) (SB_book x) ++ (wNm cI cJ 32 (fun i => A (i + 9)) (Wb_blocks (SB_now x)))) s.heap := hP.sub [59, 60, 61, 62, 63, 9, 10, 11, 12, 13] rfl
                        refine kg_retRj (va_runV (As := [.ref (A 9), .int v1]) (rest := []) ⟨hx, hb, hml, hown, hts⟩ (c_X2_allAt l dC dI cI cJ (fun i => A (i + 59)) (fun i => A (i + 9)) s.heap (SB_book x) 32 (Wb_blocks (SB_now x)) v1 _ hc) (cwV 2 hts (gw_V wd_24_9 wd_24_6 wd_24_7 wd_24_8 wd_1_23) rfl rfl rfl qX2_allAt ⟨Nat.le_of_ble_eq_true rfl, Nat.le_of_ble_eq_true rfl⟩) (kg_preVR (ci := 2) (q := (RX2, TX2, 7)) (q0 := 0) hPc hK hN rfl rfl) rfl rfl hl.1 rfl (lv_room (Nat.le_of_ble_eq_true rfl)) dX5_block_183 ⟨Nat.zero_le _, Nat.zero_le _⟩) ?_
                        refine lv_aload_n hx hb dX5_block_186 rfl (lv_at hl 0 rfl) ?_
                        refine va_get (D := (dC, dI)) (ci := 5) (v := .ref (A 59)) (C := RX5) (T := TX5) (N := 6) hx hb hts hiX5 hown hK hP 0 rfl rfl 3 (by decide) ww9 (fun _ h9 => h9) rfl dX5_block_187 ?_
                        refine va_get (D := (dC, dI)) (ci := 2) (v := .long (Pb_onRings (SB_book x))) (C := RX2) (T := TX2) (N := 7) hx hb hts hiX2 hown hK hP 59 rfl rfl 4 (by decide) ww10 (fun _ h9 => h9) rfl dX5_block_190 ?_
                        refine lv_land hx hb dX5_block_193 ?_
                        obtain ⟨g194, hc, hf⟩ := ob_bind hf
                        have hPc : va_P (dC, dI) vwCl ([] : va_W) s.heap := fun k q h => by cases h
                        refine kg_retRi (va_runS (As := [.long (g183 &&& (Pb_onRings (SB_book x)))]) (rest := []) ⟨hx, hb, hml, hown, hts⟩ (c_J13_bitCount l dC dI cI cJ  s.heap (g183 &&& (Pb_onRings (SB_book x))) _ hc) (va_cwS 1 hts (gw_X wd_22_7 wd_22_4 wd_22_5 wd_22_6) rfl rfl rfl qJ13_bitCount_95d88_o ⟨Nat.le_of_ble_eq_true rfl, Nat.le_of_ble_eq_true rfl⟩) (kg_preSR hPc hK hN) rfl rfl hl.1 rfl (lv_room (Nat.le_of_ble_eq_true rfl)) dX5_block_194 ⟨Nat.zero_le _, Nat.zero_le _⟩) ?_
                        obtain rfl := Option.some.inj hf
                        exact kg_iretR hx hb hr hlk rfl dX5_block_197
                      · rw [if_neg hc9] at hf
                        by_cases hc10 : v2 = 10
                        · rw [if_pos hc10] at hf
                          refine lv_tableIn (tgt := 198) (off := 181) hx hb dX5_block_17 (by rw [hc10]; decide) (by rw [hc10]; decide) (by rw [hc10]; rfl) (by decide) ?_
                          refine lv_aload_n hx hb dX5_block_198 rfl (lv_at hl 0 rfl) ?_
                          refine va_get (D := (dC, dI)) (ci := 5) (v := .ref (A 47)) (C := RX5) (T := TX5) (N := 6) hx hb hts hiX5 hown hK hP 0 rfl rfl 2 (by decide) ww3 (fun _ h9 => h9) rfl dX5_block_199 ?_
                          refine va_get (D := (dC, dI)) (ci := 0) (v := .ref (A 53)) (C := RX0) (T := TX0) (N := 13) hx hb hts hiX0 hown hK hP 47 rfl rfl 5 (by decide) ww11 (fun _ h9 => h9) rfl dX5_block_202 ?_
                          refine lv_iload_n hx hb dX5_block_205 rfl (lv_at hl 1 rfl) ?_
                          obtain ⟨g206, hv, hf⟩ := ob_bind hf
                          refine kg_iald hx hb hK hP 53 0 rfl rfl hv dX5_block_206 ?_
                          obtain rfl := Option.some.inj hf
                          exact kg_iretR hx hb hr hlk rfl dX5_block_207
                        · rw [if_neg hc10] at hf
                          have ehc0 := ne_toInt hc0 (k := 0) (by decide)
                          have ehc1 := ne_toInt hc1 (k := 1) (by decide)
                          have ehc2 := ne_toInt hc2 (k := 2) (by decide)
                          have ehc3 := ne_toInt hc3 (k := 3) (by decide)
                          have ehc4 := ne_toInt hc4 (k := 4) (by decide)
                          have ehc5 := ne_toInt hc5 (k := 5) (by decide)
                          have ehc6 := ne_toInt hc6 (k := 6) (by decide)
                          have ehc7 := ne_toInt hc7 (k := 7) (by decide)
                          have ehc8 := ne_toInt hc8 (k := 8) (by decide)
                          have ehc9 := ne_toInt hc9 (k := 9) (by decide)
                          have ehc10 := ne_toInt hc10 (k := 10) (by decide)
                          refine lv_tableOut (tgt := 208) hx hb dX5_block_17 (by omega) (by decide) ?_
                          refine lv_iconst (v := (-1)) hx hb dX5_block_208 (by decide) ?_
                          obtain rfl := Option.some.inj hf
                          exact kg_iretR hx hb hr hlk rfl dX5_block_209
  · refine lv_iconst (v := (-1)) hx hb dX5_block_14 (by decide) ?_
    obtain rfl := Option.some.inj hf
    exact kg_iretR hx hb hr hlk rfl dX5_block_15
set_option maxHeartbeats 4000000 in
set_option maxRecDepth 100000 in
theorem c_X5_child (l : Launch) (dC : Nat → ClassId) (dI : Nat → Nat → Nat) (cI cJ : ClassId) (A : Nat → Nat) (hq : Heap) (x : SBS) (v1 : Int32) (v2 : Int32) (r0 : Int32) (hf : SB_m_child x v1 v2 = some r0) : MRi l yX5_child (wAll yX5_child cX5_child 5 (some .int)) ({ frames := 2, cells := 0, slots := 0, locals := 61 } : Room) [.ref (A 0), .int v1, .int v2] hq (dC, dI) (vTy cI cJ) (wSB cI cJ A x) r0 := by
  refine kg_metR (cc := cX5_child) (maxL := 5) (ret := (some .int)) (by decide) rfl (Nat.le_of_ble_eq_true rfl) ?_
  intro p e s m args below meth c hx hb hr hts hown hlk hml hH hP hK hN ls hl
  subst hH
  have hl : lv_has ls 5 [(0, .ref (A 0)), (1, .int v1), (2, .int v2)] := hl
  have ww0 := hts (.fieldLink RX5 12 "SafeBlocks" "now" "LSafeBlocks$Web;") (List.mem_cons_of_mem _ wd_1_15)
  have ww1 := hts (.fieldLink RX5 118 "SafeBlocks$Web" "blocks" "LSafeBlocks$Names;") (List.mem_cons_of_mem _ wd_18_7)
  have ww2 := hts (.fieldLink RX5 65 "SafeBlocks$Web" "nodes" "I") (List.mem_cons_of_mem _ wd_10_0)
  have ww3 := hts (.fieldLink RX5 22 "SafeBlocks" "forest" "LSafeBlocks$Forest;") (List.mem_cons_of_mem _ wd_1_20)
  have ww4 := hts (.fieldLink RX5 163 "SafeBlocks$Forest" "parent" "[I") (List.mem_cons_of_mem _ wd_23_13)
  have hiX5 : ∀ w ∈ u_ws RX5 TX5 6, w ∈ wAll yX5_child cX5_child 5 (some .int) := fun w h => List.mem_cons_of_mem _ (inlX5 w h)
  have hiX4 : ∀ w ∈ u_ws RX4 TX4 16, w ∈ wAll yX5_child cX5_child 5 (some .int) := fun w h => List.mem_cons_of_mem _ (inlX4 w h)
  have hiX0 : ∀ w ∈ u_ws RX0 TX0 13, w ∈ wAll yX5_child cX5_child 5 (some .int) := fun w h => List.mem_cons_of_mem _ (inlX0 w h)
  unfold SB_m_child at hf
  refine lv_aload_n hx hb dX5_child_0 rfl (lv_at hl 0 rfl) ?_
  refine va_get (D := (dC, dI)) (ci := 5) (v := .ref (A 1)) (C := RX5) (T := TX5) (N := 6) hx hb hts hiX5 hown hK hP 0 rfl rfl 0 (by decide) ww0 (fun _ h9 => h9) rfl dX5_child_1 ?_
  refine va_get (D := (dC, dI)) (ci := 4) (v := .ref (A 9)) (C := RX4) (T := TX4) (N := 16) hx hb hts hiX4 hown hK hP 1 rfl rfl 7 (by decide) ww1 (fun _ h9 => h9) rfl dX5_child_4 ?_
  refine lv_iload_n hx hb dX5_child_7 rfl (lv_at hl 1 rfl) ?_
  obtain ⟨g8, hc, hf⟩ := ob_bind hf
  have hPc : va_P (dC, dI) vwCl (wNm cI cJ 32 (fun i => A (i + 9)) (Wb_blocks (SB_now x))) s.heap := hP.sub [9, 10, 11, 12, 13] rfl
  refine kg_retRi (va_runV (As := [.int v1]) (rest := []) ⟨hx, hb, hml, hown, hts⟩ (c_X1_lives l dC dI cI cJ (fun i => A (i + 9)) s.heap 32 (Wb_blocks (SB_now x)) v1 _ hc) (cwV 1 hts (gw_V wd_6_18 wd_23_17 wd_6_16 wd_6_17 wd_2_20) rfl rfl rfl qX1_lives ⟨Nat.le_of_ble_eq_true rfl, Nat.le_of_ble_eq_true rfl⟩) (kg_preVR (ci := 1) (q := (RX1, TX1, 6)) (q0 := 0) hPc hK hN rfl rfl) rfl rfl hl.1 rfl (lv_room (Nat.le_of_ble_eq_true rfl)) dX5_child_8 ⟨Nat.zero_le _, Nat.zero_le _⟩) ?_
  refine kg_b_ne (tgt := 16) hx hb hf dX5_child_11 (by decide) (fun hc hf => ?_) (fun hc hf => ?_)
  · refine lv_iconst (v := 0) hx hb dX5_child_16 (by decide) ?_
    refine lv_istore_n (lv' := [(3, .int 0), (0, .ref (A 0)), (1, .int v1), (2, .int v2)]) hx hb dX5_child_17 rfl hl (by decide) rfl (fun ls hl => ?_)
    refine lv_iconst (v := 0) hx hb dX5_child_18 (by decide) ?_
    refine lv_istore (lv' := [(4, .int 0), (3, .int 0), (0, .ref (A 0)), (1, .int v1), (2, .int v2)]) hx hb dX5_child_19 hl (by decide) rfl (fun ls hl => ?_)
    have hlp21 : ∀ (n : Nat) (v3 : Int32) (v4 : Int32), iter (fun p : Int32 × Int32 => SB_m_child_s21 x v1 v2 p.1 p.2) n (v3, v4) = some r0 → ∀ (ls : Array Slot), lv_has ls 5 [(0, .ref (A 0)), (1, .int v1), (2, .int v2), (3, .int v3), (4, .int v4)] → W p l e ({ frames := 2, cells := 0, slots := 0, locals := 61 } : Room) s m args below meth c s.heap [] 0 0 (MQ below (QRi s.heap r0) args s 0 0 NoA) (F0 m 21 ls []) := by
      intro  n
      induction n with
      | zero => intro v3 v4 hf; exact iter_zero hf
      | succ n ih1 =>
        intro v3 v4 hf ls hl
        obtain ⟨q1, hf, hk1⟩ := iter_succ hf
        have hf : SB_m_child_s21 x v1 v2 v3 v4 = some q1 := hf
        unfold SB_m_child_s21 at hf
        refine lv_iload hx hb dX5_child_21 (lv_at hl 4 rfl) ?_
        refine lv_aload_n hx hb dX5_child_23 rfl (lv_at hl 0 rfl) ?_
        refine va_get (D := (dC, dI)) (ci := 5) (v := .ref (A 1)) (C := RX5) (T := TX5) (N := 6) hx hb hts hiX5 hown hK hP 0 rfl rfl 0 (by decide) ww0 (fun _ h9 => h9) rfl dX5_child_24 ?_
        refine va_get (D := (dC, dI)) (ci := 4) (v := .int (Wb_nodes (SB_now x))) (C := RX4) (T := TX4) (N := 16) hx hb hts hiX4 hown hK hP 1 rfl rfl 10 (by decide) ww2 (fun _ h9 => h9) rfl dX5_child_27 ?_
        refine kg_icmp_ge (tgt := 79) hx hb hf dX5_child_30 (by decide) (fun hc hf => ?_) (fun hc hf => ?_)
        · obtain ⟨qq, hf, hqq⟩ := omap_some hf
          have hkq : qq = r0 := by rw [← hqq] at hk1; exact hk1
          rw [hkq] at hf
          clear hkq hqq
          refine lv_iconst (v := (-1)) hx hb dX5_child_79 (by decide) ?_
          obtain rfl := Option.some.inj hf
          exact kg_iretR hx hb hr hlk rfl dX5_child_80
        · refine lv_aload_n hx hb dX5_child_33 rfl (lv_at hl 0 rfl) ?_
          refine va_get (D := (dC, dI)) (ci := 5) (v := .ref (A 1)) (C := RX5) (T := TX5) (N := 6) hx hb hts hiX5 hown hK hP 0 rfl rfl 0 (by decide) ww0 (fun _ h9 => h9) rfl dX5_child_34 ?_
          refine va_get (D := (dC, dI)) (ci := 4) (v := .ref (A 9)) (C := RX4) (T := TX4) (N := 16) hx hb hts hiX4 hown hK hP 1 rfl rfl 7 (by decide) ww1 (fun _ h9 => h9) rfl dX5_child_37 ?_
          refine lv_iload hx hb dX5_child_40 (lv_at hl 4 rfl) ?_
          obtain ⟨g42, hc, hf⟩ := ob_bind hf
          have hPc : va_P (dC, dI) vwCl (wNm cI cJ 32 (fun i => A (i + 9)) (Wb_blocks (SB_now x))) s.heap := hP.sub [9, 10, 11, 12, 13] rfl
          refine kg_retRi (va_runV (As := [.int v4]) (rest := []) ⟨hx, hb, hml, hown, hts⟩ (c_X1_lives l dC dI cI cJ (fun i => A (i + 9)) s.heap 32 (Wb_blocks (SB_now x)) v4 _ hc) (cwV 1 hts (gw_V wd_6_18 wd_23_17 wd_6_16 wd_6_17 wd_2_20) rfl rfl rfl qX1_lives ⟨Nat.le_of_ble_eq_true rfl, Nat.le_of_ble_eq_true rfl⟩) (kg_preVR (ci := 1) (q := (RX1, TX1, 6)) (q0 := 0) hPc hK hN rfl rfl) rfl rfl hl.1 rfl (lv_room (Nat.le_of_ble_eq_true rfl)) dX5_child_42 ⟨Nat.zero_le _, Nat.zero_le _⟩) ?_
          refine kg_b_eq (tgt := 73) hx hb hf dX5_child_45 (by decide) (fun hc hf => ?_) (fun hc hf => ?_)
          · refine lv_iinc (v := (v4 + 1)) (lv' := [(4, .int (v4 + 1)), (0, .ref (A 0)), (1, .int v1), (2, .int v2), (3, .int v3)]) hx hb dX5_child_73 hl (k := 4) rfl rfl (by decide) rfl (fun ls hl => ?_)
            refine lv_goto (tgt := 21) hx hb dX5_child_76 (by decide) ?_
            obtain rfl := Option.some.inj hf
            exact ih1 v3 (v4 + 1) hk1 _ (lv_sub hl [1, 2, 3, 4, 0] rfl)
          · refine lv_aload_n hx hb dX5_child_48 rfl (lv_at hl 0 rfl) ?_
            refine va_get (D := (dC, dI)) (ci := 5) (v := .ref (A 47)) (C := RX5) (T := TX5) (N := 6) hx hb hts hiX5 hown hK hP 0 rfl rfl 2 (by decide) ww3 (fun _ h9 => h9) rfl dX5_child_49 ?_
            refine va_get (D := (dC, dI)) (ci := 0) (v := .ref (A 48)) (C := RX0) (T := TX0) (N := 13) hx hb hts hiX0 hown hK hP 47 rfl rfl 0 (by decide) ww4 (fun _ h9 => h9) rfl dX5_child_52 ?_
            refine lv_iload hx hb dX5_child_55 (lv_at hl 4 rfl) ?_
            obtain ⟨g57, hv, hf⟩ := ob_bind hf
            refine kg_iald hx hb hK hP 48 0 rfl rfl hv dX5_child_57 ?_
            refine lv_iload_n hx hb dX5_child_58 rfl (lv_at hl 1 rfl) ?_
            refine kg_icmp_ne (tgt := 73) hx hb hf dX5_child_59 (by decide) (fun hc hf => ?_) (fun hc hf => ?_)
            · refine lv_iinc (v := (v4 + 1)) (lv' := [(4, .int (v4 + 1)), (0, .ref (A 0)), (1, .int v1), (2, .int v2), (3, .int v3)]) hx hb dX5_child_73 hl (k := 4) rfl rfl (by decide) rfl (fun ls hl => ?_)
              refine lv_goto (tgt := 21) hx hb dX5_child_76 (by decide) ?_
              obtain rfl := Option.some.inj hf
              exact ih1 v3 (v4 + 1) hk1 _ (lv_sub hl [1, 2, 3, 4, 0] rfl)
            · refine lv_iload_n hx hb dX5_child_62 rfl (lv_at hl 3 rfl) ?_
              refine lv_iload_n hx hb dX5_child_63 rfl (lv_at hl 2 rfl) ?_
              refine kg_icmp_ne (tgt := 70) hx hb hf dX5_child_64 (by decide) (fun hc hf => ?_) (fun hc hf => ?_)
              · refine lv_iinc (v := (v3 + 1)) (lv' := [(3, .int (v3 + 1)), (0, .ref (A 0)), (1, .int v1), (2, .int v2), (4, .int v4)]) hx hb dX5_child_70 hl (k := 3) rfl rfl (by decide) rfl (fun ls hl => ?_)
                refine lv_iinc (v := (v4 + 1)) (lv' := [(4, .int (v4 + 1)), (3, .int (v3 + 1)), (0, .ref (A 0)), (1, .int v1), (2, .int v2)]) hx hb dX5_child_73 hl (k := 4) rfl rfl (by decide) rfl (fun ls hl => ?_)
                refine lv_goto (tgt := 21) hx hb dX5_child_76 (by decide) ?_
                obtain rfl := Option.some.inj hf
                exact ih1 (v3 + 1) (v4 + 1) hk1 _ (lv_sub hl [2, 3, 4, 1, 0] rfl)
              · obtain ⟨qq, hf, hqq⟩ := omap_some hf
                have hkq : qq = r0 := by rw [← hqq] at hk1; exact hk1
                rw [hkq] at hf
                clear hkq hqq
                refine lv_iload hx hb dX5_child_67 (lv_at hl 4 rfl) ?_
                obtain rfl := Option.some.inj hf
                exact kg_iretR hx hb hr hlk rfl dX5_child_69
    exact hlp21  FU 0 0 hf _ (lv_sub hl [2, 3, 4, 1, 0] rfl)
  · refine lv_iconst (v := (-1)) hx hb dX5_child_14 (by decide) ?_
    obtain rfl := Option.some.inj hf
    exact kg_iretR hx hb hr hlk rfl dX5_child_15
set_option maxHeartbeats 4000000 in
set_option maxRecDepth 100000 in
theorem c_X5_mendOf (l : Launch) (dC : Nat → ClassId) (dI : Nat → Nat → Nat) (cI cJ : ClassId) (A : Nat → Nat) (hq : Heap) (x : SBS) (v1 : Int32) (r0 : Int32) (hf : SB_m_mendOf x v1 = some r0) : MRi l yX5_mendOf (wAll yX5_mendOf cX5_mendOf 2 (some .int)) ({ frames := 2, cells := 0, slots := 0, locals := 64 } : Room) [.ref (A 0), .int v1] hq (dC, dI) (vTy cI cJ) (wSB cI cJ A x) r0 := by
  refine kg_metR (cc := cX5_mendOf) (maxL := 2) (ret := (some .int)) (by decide) rfl (Nat.le_of_ble_eq_true rfl) ?_
  intro p e s m args below meth c hx hb hr hts hown hlk hml hH hP hK hN ls hl
  subst hH
  have hl : lv_has ls 2 [(0, .ref (A 0)), (1, .int v1)] := hl
  have ww0 := hts (.fieldLink RX5 22 "SafeBlocks" "forest" "LSafeBlocks$Forest;") (List.mem_cons_of_mem _ wd_1_20)
  have ww1 := hts (.fieldLink RX5 12 "SafeBlocks" "now" "LSafeBlocks$Web;") (List.mem_cons_of_mem _ wd_1_15)
  have ww2 := hts (.fieldLink RX5 121 "SafeBlocks$Web" "lands" "LSafeBlocks$Names;") (List.mem_cons_of_mem _ wd_18_8)
  have hiX5 : ∀ w ∈ u_ws RX5 TX5 6, w ∈ wAll yX5_mendOf cX5_mendOf 2 (some .int) := fun w h => List.mem_cons_of_mem _ (inlX5 w h)
  have hiX4 : ∀ w ∈ u_ws RX4 TX4 16, w ∈ wAll yX5_mendOf cX5_mendOf 2 (some .int) := fun w h => List.mem_cons_of_mem _ (inlX4 w h)
  unfold SB_m_mendOf at hf
  refine lv_aload_n hx hb dX5_mendOf_0 rfl (lv_at hl 0 rfl) ?_
  refine va_get (D := (dC, dI)) (ci := 5) (v := .ref (A 47)) (C := RX5) (T := TX5) (N := 6) hx hb hts hiX5 hown hK hP 0 rfl rfl 2 (by decide) ww0 (fun _ h9 => h9) rfl dX5_mendOf_1 ?_
  refine lv_aload_n hx hb dX5_mendOf_4 rfl (lv_at hl 0 rfl) ?_
  refine va_get (D := (dC, dI)) (ci := 5) (v := .ref (A 1)) (C := RX5) (T := TX5) (N := 6) hx hb hts hiX5 hown hK hP 0 rfl rfl 0 (by decide) ww1 (fun _ h9 => h9) rfl dX5_mendOf_5 ?_
  refine va_get (D := (dC, dI)) (ci := 4) (v := .ref (A 14)) (C := RX4) (T := TX4) (N := 16) hx hb hts hiX4 hown hK hP 1 rfl rfl 8 (by decide) ww2 (fun _ h9 => h9) rfl dX5_mendOf_8 ?_
  refine lv_iload_n hx hb dX5_mendOf_11 rfl (lv_at hl 1 rfl) ?_
  obtain ⟨g12, hc, hf⟩ := ob_bind hf
  have hPc : va_P (dC, dI) vwCl (wFo cI cJ (fun i => A (i + 47)) (SB_forest x) ++ (wNm cI cJ 32 (fun i => A (i + 14)) (Wb_lands (SB_now x)))) s.heap := hP.sub [47, 48, 49, 50, 51, 52, 53, 54, 55, 56, 57, 58, 14, 15, 16, 17, 18] rfl
  refine kg_retRi (va_runV (As := [.ref (A 14), .int v1]) (rest := []) ⟨hx, hb, hml, hown, hts⟩ (c_X0_leavesOf l dC dI cI cJ (fun i => A (i + 47)) (fun i => A (i + 14)) s.heap (SB_forest x) 32 (Wb_lands (SB_now x)) v1 _ hc) (cwV 2 hts (gw_V wd_27_22 wd_27_19 wd_27_20 wd_27_21 wd_1_19) rfl rfl rfl qX0_leavesOf ⟨Nat.le_of_ble_eq_true rfl, Nat.le_of_ble_eq_true rfl⟩) (kg_preVR (ci := 0) (q := (RX0, TX0, 13)) (q0 := 0) hPc hK hN rfl rfl) rfl rfl hl.1 rfl (lv_room (Nat.le_of_ble_eq_true rfl)) dX5_mendOf_12 ⟨Nat.zero_le _, Nat.zero_le _⟩) ?_
  refine lv_iconst (v := 1) hx hb dX5_mendOf_15 (by decide) ?_
  refine lv_iadd hx hb dX5_mendOf_16 ?_
  refine lv_iconst (v := 2) hx hb dX5_mendOf_17 (by decide) ?_
  obtain ⟨g18, hv, hf⟩ := ob_bind hf
  refine kg_idiv hx hb hv dX5_mendOf_18 ?_
  obtain rfl := Option.some.inj hf
  exact kg_iretR hx hb hr hlk rfl dX5_mendOf_19
set_option maxHeartbeats 4000000 in
set_option maxRecDepth 100000 in
theorem c_X5_mending (l : Launch) (dC : Nat → ClassId) (dI : Nat → Nat → Nat) (cI cJ : ClassId) (A : Nat → Nat) (hq : Heap) (x : SBS) (v1 : Int32) (v2 : Int32) (v3 : Int32) (r0 : Int32) (hf : SB_m_mending x v1 v2 v3 = some r0) : MRi l yX5_mending (wAll yX5_mending cX5_mending 5 (some .int)) ({ frames := 3, cells := 0, slots := 0, locals := 85 } : Room) [.ref (A 0), .int v1, .int v2, .int v3] hq (dC, dI) (vTy cI cJ) (wSB cI cJ A x) r0 := by
  refine kg_metR (cc := cX5_mending) (maxL := 5) (ret := (some .int)) (by decide) rfl (Nat.le_of_ble_eq_true rfl) ?_
  intro p e s m args below meth c hx hb hr hts hown hlk hml hH hP hK hN ls hl
  subst hH
  have hl : lv_has ls 5 [(0, .ref (A 0)), (1, .int v1), (2, .int v2), (3, .int v3)] := hl
  have ww0 := hts (.fieldLink RX5 12 "SafeBlocks" "now" "LSafeBlocks$Web;") (List.mem_cons_of_mem _ wd_1_15)
  have ww1 := hts (.fieldLink RX5 121 "SafeBlocks$Web" "lands" "LSafeBlocks$Names;") (List.mem_cons_of_mem _ wd_18_8)
  have ww2 := hts (.fieldLink RX5 22 "SafeBlocks" "forest" "LSafeBlocks$Forest;") (List.mem_cons_of_mem _ wd_1_20)
  have hiX5 : ∀ w ∈ u_ws RX5 TX5 6, w ∈ wAll yX5_mending cX5_mending 5 (some .int) := fun w h => List.mem_cons_of_mem _ (inlX5 w h)
  have hiX4 : ∀ w ∈ u_ws RX4 TX4 16, w ∈ wAll yX5_mending cX5_mending 5 (some .int) := fun w h => List.mem_cons_of_mem _ (inlX4 w h)
  unfold SB_m_mending at hf
  refine lv_aload_n hx hb dX5_mending_0 rfl (lv_at hl 0 rfl) ?_
  refine va_get (D := (dC, dI)) (ci := 5) (v := .ref (A 1)) (C := RX5) (T := TX5) (N := 6) hx hb hts hiX5 hown hK hP 0 rfl rfl 0 (by decide) ww0 (fun _ h9 => h9) rfl dX5_mending_1 ?_
  refine va_get (D := (dC, dI)) (ci := 4) (v := .ref (A 14)) (C := RX4) (T := TX4) (N := 16) hx hb hts hiX4 hown hK hP 1 rfl rfl 8 (by decide) ww1 (fun _ h9 => h9) rfl dX5_mending_4 ?_
  refine lv_iload_n hx hb dX5_mending_7 rfl (lv_at hl 1 rfl) ?_
  obtain ⟨g8, hc, hf⟩ := ob_bind hf
  have hPc : va_P (dC, dI) vwCl (wNm cI cJ 32 (fun i => A (i + 14)) (Wb_lands (SB_now x))) s.heap := hP.sub [14, 15, 16, 17, 18] rfl
  refine kg_retRi (va_runV (As := [.int v1]) (rest := []) ⟨hx, hb, hml, hown, hts⟩ (c_X1_lives l dC dI cI cJ (fun i => A (i + 14)) s.heap 32 (Wb_lands (SB_now x)) v1 _ hc) (cwV 1 hts (gw_V wd_6_18 wd_23_17 wd_6_16 wd_6_17 wd_2_20) rfl rfl rfl qX1_lives ⟨Nat.le_of_ble_eq_true rfl, Nat.le_of_ble_eq_true rfl⟩) (kg_preVR (ci := 1) (q := (RX1, TX1, 6)) (q0 := 0) hPc hK hN rfl rfl) rfl rfl hl.1 rfl (lv_room (Nat.le_of_ble_eq_true rfl)) dX5_mending_8 ⟨Nat.zero_le _, Nat.zero_le _⟩) ?_
  refine kg_b_eq (tgt := 27) hx hb hf dX5_mending_11 (by decide) (fun hc hf => ?_) (fun hc hf => ?_)
  · refine lv_iconst (v := (-1)) hx hb dX5_mending_27 (by decide) ?_
    obtain rfl := Option.some.inj hf
    exact kg_iretR hx hb hr hlk rfl dX5_mending_28
  · refine lv_iload_n hx hb dX5_mending_14 rfl (lv_at hl 2 rfl) ?_
    refine kg_if_lt (tgt := 27) hx hb hf dX5_mending_15 (by decide) (fun hc hf => ?_) (fun hc hf => ?_)
    · refine lv_iconst (v := (-1)) hx hb dX5_mending_27 (by decide) ?_
      obtain rfl := Option.some.inj hf
      exact kg_iretR hx hb hr hlk rfl dX5_mending_28
    · refine lv_iload_n hx hb dX5_mending_18 rfl (lv_at hl 2 rfl) ?_
      refine lv_aload_n hx hb dX5_mending_19 rfl (lv_at hl 0 rfl) ?_
      refine lv_iload_n hx hb dX5_mending_20 rfl (lv_at hl 1 rfl) ?_
      obtain ⟨g21, hc, hf⟩ := ob_bind hf
      have hPc : va_P (dC, dI) vwCl (wSB cI cJ A x) s.heap := hP
      refine kg_retRi (va_runV (As := [.int v1]) (rest := [.int v2]) ⟨hx, hb, hml, hown, hts⟩ (c_X5_mendOf l dC dI cI cJ A s.heap x v1 _ hc) (cwV 1 hts (gw_V wd_27_18 wd_27_15 wd_27_16 wd_27_17 wd_1_2) rfl rfl rfl qX5_mendOf ⟨Nat.le_of_ble_eq_true rfl, Nat.le_of_ble_eq_true rfl⟩) (kg_preVR (ci := 5) (q := (RX5, TX5, 6)) (q0 := 0) hPc hK hN rfl rfl) rfl rfl hl.1 rfl (lv_room (Nat.le_of_ble_eq_true rfl)) dX5_mending_21 ⟨Nat.zero_le _, Nat.zero_le _⟩) ?_
      refine kg_icmp_lt (tgt := 29) hx hb hf dX5_mending_24 (by decide) (fun hc hf => ?_) (fun hc hf => ?_)
      · refine lv_aload_n hx hb dX5_mending_29 rfl (lv_at hl 0 rfl) ?_
        refine va_get (D := (dC, dI)) (ci := 5) (v := .ref (A 47)) (C := RX5) (T := TX5) (N := 6) hx hb hts hiX5 hown hK hP 0 rfl rfl 2 (by decide) ww2 (fun _ h9 => h9) rfl dX5_mending_30 ?_
        refine lv_aload_n hx hb dX5_mending_33 rfl (lv_at hl 0 rfl) ?_
        refine va_get (D := (dC, dI)) (ci := 5) (v := .ref (A 1)) (C := RX5) (T := TX5) (N := 6) hx hb hts hiX5 hown hK hP 0 rfl rfl 0 (by decide) ww0 (fun _ h9 => h9) rfl dX5_mending_34 ?_
        refine va_get (D := (dC, dI)) (ci := 4) (v := .ref (A 14)) (C := RX4) (T := TX4) (N := 16) hx hb hts hiX4 hown hK hP 1 rfl rfl 8 (by decide) ww1 (fun _ h9 => h9) rfl dX5_mending_37 ?_
        refine lv_iload_n hx hb dX5_mending_40 rfl (lv_at hl 1 rfl) ?_
        obtain ⟨g41, hc, hf⟩ := ob_bind hf
        have hPc : va_P (dC, dI) vwCl (wFo cI cJ (fun i => A (i + 47)) (SB_forest x) ++ (wNm cI cJ 32 (fun i => A (i + 14)) (Wb_lands (SB_now x)))) s.heap := hP.sub [47, 48, 49, 50, 51, 52, 53, 54, 55, 56, 57, 58, 14, 15, 16, 17, 18] rfl
        refine kg_retRi (va_runV (As := [.ref (A 14), .int v1]) (rest := []) ⟨hx, hb, hml, hown, hts⟩ (c_X0_leavesOf l dC dI cI cJ (fun i => A (i + 47)) (fun i => A (i + 14)) s.heap (SB_forest x) 32 (Wb_lands (SB_now x)) v1 _ hc) (cwV 2 hts (gw_V wd_27_22 wd_27_19 wd_27_20 wd_27_21 wd_1_19) rfl rfl rfl qX0_leavesOf ⟨Nat.le_of_ble_eq_true rfl, Nat.le_of_ble_eq_true rfl⟩) (kg_preVR (ci := 0) (q := (RX0, TX0, 13)) (q0 := 0) hPc hK hN rfl rfl) rfl rfl hl.1 rfl (lv_room (Nat.le_of_ble_eq_true rfl)) dX5_mending_41 ⟨Nat.zero_le _, Nat.zero_le _⟩) ?_
        refine lv_iconst (v := 2) hx hb dX5_mending_44 (by decide) ?_
        obtain ⟨g45, hv, hf⟩ := ob_bind hf
        refine kg_idiv hx hb hv dX5_mending_45 ?_
        refine lv_istore (lv' := [(4, .int g45), (0, .ref (A 0)), (1, .int v1), (2, .int v2), (3, .int v3)]) hx hb dX5_mending_46 hl (by decide) rfl (fun ls hl => ?_)
        refine lv_iload_n hx hb dX5_mending_48 rfl (lv_at hl 4 rfl) ?_
        by_cases hc0 : v3 = 0
        · rw [if_pos hc0] at hf
          refine lv_lookup (tgt := 76) (off := 27) hx hb dX5_mending_49 (by decide) (by rw [hc0]; rfl) (by decide) ?_
          refine lv_aload_n hx hb dX5_mending_76 rfl (lv_at hl 1 rfl) ?_
          refine lv_aload_n hx hb dX5_mending_77 rfl (lv_at hl 1 rfl) ?_
          refine va_get (D := (dC, dI)) (ci := 5) (v := .ref (A 47)) (C := RX5) (T := TX5) (N := 6) hx hb hts hiX5 hown hK hP 0 rfl rfl 2 (by decide) ww2 (fun _ h9 => h9) rfl dX5_mending_78 ?_
          refine lv_aload_n hx hb dX5_mending_81 rfl (lv_at hl 1 rfl) ?_
          refine va_get (D := (dC, dI)) (ci := 5) (v := .ref (A 1)) (C := RX5) (T := TX5) (N := 6) hx hb hts hiX5 hown hK hP 0 rfl rfl 0 (by decide) ww0 (fun _ h9 => h9) rfl dX5_mending_82 ?_
          refine va_get (D := (dC, dI)) (ci := 4) (v := .ref (A 14)) (C := RX4) (T := TX4) (N := 16) hx hb hts hiX4 hown hK hP 1 rfl rfl 8 (by decide) ww1 (fun _ h9 => h9) rfl dX5_mending_85 ?_
          refine lv_iload_n hx hb dX5_mending_88 rfl (lv_at hl 2 rfl) ?_
          refine lv_iload_n hx hb dX5_mending_89 rfl (lv_at hl 3 rfl) ?_
          obtain ⟨g90, hc, hf⟩ := ob_bind hf
          have hPc : va_P (dC, dI) vwCl (wFo cI cJ (fun i => A (i + 47)) (SB_forest x) ++ (wNm cI cJ 32 (fun i => A (i + 14)) (Wb_lands (SB_now x)))) s.heap := hP.sub [47, 48, 49, 50, 51, 52, 53, 54, 55, 56, 57, 58, 14, 15, 16, 17, 18] rfl
          refine kg_retRi (va_runV (As := [.ref (A 14), .int v1, .int v2]) (rest := [.ref (A 0)]) ⟨hx, hb, hml, hown, hts⟩ (c_X0_leaf l dC dI cI cJ (fun i => A (i + 47)) (fun i => A (i + 14)) s.heap (SB_forest x) 32 (Wb_lands (SB_now x)) v1 v2 _ hc) (cwV 3 hts (gw_V wd_39_19 wd_39_16 wd_39_17 wd_39_18 wd_1_19) rfl rfl rfl qX0_leaf ⟨Nat.le_of_ble_eq_true rfl, Nat.le_of_ble_eq_true rfl⟩) (kg_preVR (ci := 0) (q := (RX0, TX0, 13)) (q0 := 0) hPc hK hN rfl rfl) rfl rfl hl.1 rfl (lv_room (Nat.le_of_ble_eq_true rfl)) dX5_mending_90 ⟨Nat.zero_le _, Nat.zero_le _⟩) ?_
          refine lv_iconst (v := 0) hx hb dX5_mending_93 (by decide) ?_
          obtain ⟨g94, hc, hf⟩ := ob_bind hf
          have hPc : va_P (dC, dI) vwCl (wSB cI cJ A x) s.heap := hP
          refine kg_retRi (va_runV (As := [.int g90, .int 0]) (rest := []) ⟨hx, hb, hml, hown, hts⟩ (c_X5_member l dC dI cI cJ A s.heap x g90 0 _ hc) (cwV 2 hts (gw_V wd_23_21 wd_23_18 wd_23_19 wd_23_20 wd_1_2) rfl rfl rfl qX5_member ⟨Nat.le_of_ble_eq_true rfl, Nat.le_of_ble_eq_true rfl⟩) (kg_preVR (ci := 5) (q := (RX5, TX5, 6)) (q0 := 0) hPc hK hN rfl rfl) rfl rfl hl.1 rfl (lv_room (Nat.le_of_ble_eq_true rfl)) dX5_mending_94 ⟨Nat.zero_le _, Nat.zero_le _⟩) ?_
          obtain rfl := Option.some.inj hf
          exact kg_iretR hx hb hr hlk rfl dX5_mending_97
        · rw [if_neg hc0] at hf
          by_cases hc1 : v3 = 1
          · rw [if_pos hc1] at hf
            refine lv_lookup (tgt := 98) (off := 49) hx hb dX5_mending_49 (by decide) (by rw [hc1]; rfl) (by decide) ?_
            refine lv_aload_n hx hb dX5_mending_98 rfl (lv_at hl 1 rfl) ?_
            refine lv_aload_n hx hb dX5_mending_99 rfl (lv_at hl 1 rfl) ?_
            refine va_get (D := (dC, dI)) (ci := 5) (v := .ref (A 47)) (C := RX5) (T := TX5) (N := 6) hx hb hts hiX5 hown hK hP 0 rfl rfl 2 (by decide) ww2 (fun _ h9 => h9) rfl dX5_mending_100 ?_
            refine lv_aload_n hx hb dX5_mending_103 rfl (lv_at hl 1 rfl) ?_
            refine va_get (D := (dC, dI)) (ci := 5) (v := .ref (A 1)) (C := RX5) (T := TX5) (N := 6) hx hb hts hiX5 hown hK hP 0 rfl rfl 0 (by decide) ww0 (fun _ h9 => h9) rfl dX5_mending_104 ?_
            refine va_get (D := (dC, dI)) (ci := 4) (v := .ref (A 14)) (C := RX4) (T := TX4) (N := 16) hx hb hts hiX4 hown hK hP 1 rfl rfl 8 (by decide) ww1 (fun _ h9 => h9) rfl dX5_mending_107 ?_
            refine lv_iload_n hx hb dX5_mending_110 rfl (lv_at hl 2 rfl) ?_
            refine lv_iload_n hx hb dX5_mending_111 rfl (lv_at hl 3 rfl) ?_
            refine lv_iload hx hb dX5_mending_112 (lv_at hl 0 rfl) ?_
            refine lv_iadd hx hb dX5_mending_114 ?_
            obtain ⟨g115, hc, hf⟩ := ob_bind hf
            have hPc : va_P (dC, dI) vwCl (wFo cI cJ (fun i => A (i + 47)) (SB_forest x) ++ (wNm cI cJ 32 (fun i => A (i + 14)) (Wb_lands (SB_now x)))) s.heap := hP.sub [47, 48, 49, 50, 51, 52, 53, 54, 55, 56, 57, 58, 14, 15, 16, 17, 18] rfl
            refine kg_retRi (va_runV (As := [.ref (A 14), .int v1, .int (v2 + g45)]) (rest := [.ref (A 0)]) ⟨hx, hb, hml, hown, hts⟩ (c_X0_leaf l dC dI cI cJ (fun i => A (i + 47)) (fun i => A (i + 14)) s.heap (SB_forest x) 32 (Wb_lands (SB_now x)) v1 (v2 + g45) _ hc) (cwV 3 hts (gw_V wd_39_19 wd_39_16 wd_39_17 wd_39_18 wd_1_19) rfl rfl rfl qX0_leaf ⟨Nat.le_of_ble_eq_true rfl, Nat.le_of_ble_eq_true rfl⟩) (kg_preVR (ci := 0) (q := (RX0, TX0, 13)) (q0 := 0) hPc hK hN rfl rfl) rfl rfl hl.1 rfl (lv_room (Nat.le_of_ble_eq_true rfl)) dX5_mending_115 ⟨Nat.zero_le _, Nat.zero_le _⟩) ?_
            refine lv_iconst (v := 0) hx hb dX5_mending_118 (by decide) ?_
            obtain ⟨g119, hc, hf⟩ := ob_bind hf
            have hPc : va_P (dC, dI) vwCl (wSB cI cJ A x) s.heap := hP
            refine kg_retRi (va_runV (As := [.int g115, .int 0]) (rest := []) ⟨hx, hb, hml, hown, hts⟩ (c_X5_member l dC dI cI cJ A s.heap x g115 0 _ hc) (cwV 2 hts (gw_V wd_23_21 wd_23_18 wd_23_19 wd_23_20 wd_1_2) rfl rfl rfl qX5_member ⟨Nat.le_of_ble_eq_true rfl, Nat.le_of_ble_eq_true rfl⟩) (kg_preVR (ci := 5) (q := (RX5, TX5, 6)) (q0 := 0) hPc hK hN rfl rfl) rfl rfl hl.1 rfl (lv_room (Nat.le_of_ble_eq_true rfl)) dX5_mending_119 ⟨Nat.zero_le _, Nat.zero_le _⟩) ?_
            obtain rfl := Option.some.inj hf
            exact kg_iretR hx hb hr hlk rfl dX5_mending_122
          · rw [if_neg hc1] at hf
            have ehc0 := ne_toInt hc0 (k := 0) (by decide)
            have ehc1 := ne_toInt hc1 (k := 1) (by decide)
            refine lv_lookup (tgt := 123) (off := 74) hx hb dX5_mending_49 (by decide) (by simp only [Op.lookupswitch.offset]; rw [if_neg (Ne.symm ehc0), if_neg (Ne.symm ehc1)]) (by decide) ?_
            refine lv_iconst (v := (-1)) hx hb dX5_mending_123 (by decide) ?_
            obtain rfl := Option.some.inj hf
            exact kg_iretR hx hb hr hlk rfl dX5_mending_124
      · refine lv_iconst (v := (-1)) hx hb dX5_mending_27 (by decide) ?_
        obtain rfl := Option.some.inj hf
        exact kg_iretR hx hb hr hlk rfl dX5_mending_28
set_option maxHeartbeats 4000000 in
set_option maxRecDepth 100000 in
theorem c_X5_latest (l : Launch) (dC : Nat → ClassId) (dI : Nat → Nat → Nat) (cI cJ : ClassId) (A : Nat → Nat) (hq : Heap) (x : SBS) (v1 : Int32) (r0 : Int32) (hf : SB_m_latest x v1 = some r0) : MRi l yX5_latest (wAll yX5_latest cX5_latest 2 (some .int)) ({ frames := 1, cells := 0, slots := 0, locals := 40 } : Room) [.ref (A 0), .int v1] hq (dC, dI) (vTy cI cJ) (wSB cI cJ A x) r0 := by
  refine kg_metR (cc := cX5_latest) (maxL := 2) (ret := (some .int)) (by decide) rfl (Nat.le_of_ble_eq_true rfl) ?_
  intro p e s m args below meth c hx hb hr hts hown hlk hml hH hP hK hN ls hl
  subst hH
  have hl : lv_has ls 2 [(0, .ref (A 0)), (1, .int v1)] := hl
  have ww0 := hts (.fieldLink RX5 12 "SafeBlocks" "now" "LSafeBlocks$Web;") (List.mem_cons_of_mem _ wd_1_15)
  have ww1 := hts (.fieldLink RX5 55 "SafeBlocks$Web" "links" "I") (List.mem_cons_of_mem _ wd_9_15)
  have ww2 := hts (.fieldLink RX5 233 "SafeBlocks$Web" "turned" "I") (List.mem_cons_of_mem _ wd_32_7)
  have ww3 := hts (.fieldLink RX5 236 "SafeBlocks$Web" "joined" "I") (List.mem_cons_of_mem _ wd_32_8)
  have ww4 := hts (.fieldLink RX5 239 "SafeBlocks$Web" "firstWas" "I") (List.mem_cons_of_mem _ wd_32_9)
  have ww5 := hts (.fieldLink RX5 242 "SafeBlocks$Web" "secondWas" "I") (List.mem_cons_of_mem _ wd_32_10)
  have hiX5 : ∀ w ∈ u_ws RX5 TX5 6, w ∈ wAll yX5_latest cX5_latest 2 (some .int) := fun w h => List.mem_cons_of_mem _ (inlX5 w h)
  have hiX4 : ∀ w ∈ u_ws RX4 TX4 16, w ∈ wAll yX5_latest cX5_latest 2 (some .int) := fun w h => List.mem_cons_of_mem _ (inlX4 w h)
  unfold SB_m_latest at hf
  refine lv_aload_n hx hb dX5_latest_0 rfl (lv_at hl 0 rfl) ?_
  refine va_get (D := (dC, dI)) (ci := 5) (v := .ref (A 1)) (C := RX5) (T := TX5) (N := 6) hx hb hts hiX5 hown hK hP 0 rfl rfl 0 (by decide) ww0 (fun _ h9 => h9) rfl dX5_latest_1 ?_
  refine va_get (D := (dC, dI)) (ci := 4) (v := .int (Wb_links (SB_now x))) (C := RX4) (T := TX4) (N := 16) hx hb hts hiX4 hown hK hP 1 rfl rfl 11 (by decide) ww1 (fun _ h9 => h9) rfl dX5_latest_4 ?_
  refine kg_if_ne (tgt := 12) hx hb hf dX5_latest_7 (by decide) (fun hc hf => ?_) (fun hc hf => ?_)
  · refine lv_iload_n hx hb dX5_latest_12 rfl (lv_at hl 1 rfl) ?_
    by_cases hc0 : v1 = 0
    · rw [if_pos hc0] at hf
      refine lv_tableIn (tgt := 44) (off := 31) hx hb dX5_latest_13 (by rw [hc0]; decide) (by rw [hc0]; decide) (by rw [hc0]; rfl) (by decide) ?_
      refine lv_aload_n hx hb dX5_latest_44 rfl (lv_at hl 0 rfl) ?_
      refine va_get (D := (dC, dI)) (ci := 5) (v := .ref (A 1)) (C := RX5) (T := TX5) (N := 6) hx hb hts hiX5 hown hK hP 0 rfl rfl 0 (by decide) ww0 (fun _ h9 => h9) rfl dX5_latest_45 ?_
      refine va_get (D := (dC, dI)) (ci := 4) (v := .int (Wb_turned (SB_now x))) (C := RX4) (T := TX4) (N := 16) hx hb hts hiX4 hown hK hP 1 rfl rfl 12 (by decide) ww2 (fun _ h9 => h9) rfl dX5_latest_48 ?_
      obtain rfl := Option.some.inj hf
      exact kg_iretR hx hb hr hlk rfl dX5_latest_51
    · rw [if_neg hc0] at hf
      by_cases hc1 : v1 = 1
      · rw [if_pos hc1] at hf
        refine lv_tableIn (tgt := 52) (off := 39) hx hb dX5_latest_13 (by rw [hc1]; decide) (by rw [hc1]; decide) (by rw [hc1]; rfl) (by decide) ?_
        refine lv_aload_n hx hb dX5_latest_52 rfl (lv_at hl 0 rfl) ?_
        refine va_get (D := (dC, dI)) (ci := 5) (v := .ref (A 1)) (C := RX5) (T := TX5) (N := 6) hx hb hts hiX5 hown hK hP 0 rfl rfl 0 (by decide) ww0 (fun _ h9 => h9) rfl dX5_latest_53 ?_
        refine va_get (D := (dC, dI)) (ci := 4) (v := .int (Wb_joined (SB_now x))) (C := RX4) (T := TX4) (N := 16) hx hb hts hiX4 hown hK hP 1 rfl rfl 13 (by decide) ww3 (fun _ h9 => h9) rfl dX5_latest_56 ?_
        obtain rfl := Option.some.inj hf
        exact kg_iretR hx hb hr hlk rfl dX5_latest_59
      · rw [if_neg hc1] at hf
        by_cases hc2 : v1 = 2
        · rw [if_pos hc2] at hf
          refine lv_tableIn (tgt := 60) (off := 47) hx hb dX5_latest_13 (by rw [hc2]; decide) (by rw [hc2]; decide) (by rw [hc2]; rfl) (by decide) ?_
          refine lv_aload_n hx hb dX5_latest_60 rfl (lv_at hl 0 rfl) ?_
          refine va_get (D := (dC, dI)) (ci := 5) (v := .ref (A 1)) (C := RX5) (T := TX5) (N := 6) hx hb hts hiX5 hown hK hP 0 rfl rfl 0 (by decide) ww0 (fun _ h9 => h9) rfl dX5_latest_61 ?_
          refine va_get (D := (dC, dI)) (ci := 4) (v := .int (Wb_firstWas (SB_now x))) (C := RX4) (T := TX4) (N := 16) hx hb hts hiX4 hown hK hP 1 rfl rfl 14 (by decide) ww4 (fun _ h9 => h9) rfl dX5_latest_64 ?_
          obtain rfl := Option.some.inj hf
          exact kg_iretR hx hb hr hlk rfl dX5_latest_67
        · rw [if_neg hc2] at hf
          by_cases hc3 : v1 = 3
          · rw [if_pos hc3] at hf
            refine lv_tableIn (tgt := 68) (off := 55) hx hb dX5_latest_13 (by rw [hc3]; decide) (by rw [hc3]; decide) (by rw [hc3]; rfl) (by decide) ?_
            refine lv_aload_n hx hb dX5_latest_68 rfl (lv_at hl 0 rfl) ?_
            refine va_get (D := (dC, dI)) (ci := 5) (v := .ref (A 1)) (C := RX5) (T := TX5) (N := 6) hx hb hts hiX5 hown hK hP 0 rfl rfl 0 (by decide) ww0 (fun _ h9 => h9) rfl dX5_latest_69 ?_
            refine va_get (D := (dC, dI)) (ci := 4) (v := .int (Wb_secondWas (SB_now x))) (C := RX4) (T := TX4) (N := 16) hx hb hts hiX4 hown hK hP 1 rfl rfl 15 (by decide) ww5 (fun _ h9 => h9) rfl dX5_latest_72 ?_
            obtain rfl := Option.some.inj hf
            exact kg_iretR hx hb hr hlk rfl dX5_latest_75
          · rw [if_neg hc3] at hf
            have ehc0 := ne_toInt hc0 (k := 0) (by decide)
            have ehc1 := ne_toInt hc1 (k := 1) (by decide)
            have ehc2 := ne_toInt hc2 (k := 2) (by decide)
            have ehc3 := ne_toInt hc3 (k := 3) (by decide)
            refine lv_tableOut (tgt := 76) hx hb dX5_latest_13 (by omega) (by decide) ?_
            refine lv_iconst (v := (-1)) hx hb dX5_latest_76 (by decide) ?_
            obtain rfl := Option.some.inj hf
            exact kg_iretR hx hb hr hlk rfl dX5_latest_77
  · refine lv_iconst (v := (-1)) hx hb dX5_latest_10 (by decide) ?_
    obtain rfl := Option.some.inj hf
    exact kg_iretR hx hb hr hlk rfl dX5_latest_11
set_option maxHeartbeats 4000000 in
set_option maxRecDepth 100000 in
theorem c_X5_bridgesBy (l : Launch) (dC : Nat → ClassId) (dI : Nat → Nat → Nat) (cI cJ : ClassId) (A : Nat → Nat) (hq : Heap) (x : SBS) (v1 : Int32) (r0 : Int32) (hf : SB_m_bridgesBy x v1 = some r0) : MRi l yX5_bridgesBy (wAll yX5_bridgesBy cX5_bridgesBy 2 (some .int)) ({ frames := 3, cells := 0, slots := 0, locals := 84 } : Room) [.ref (A 0), .int v1] hq (dC, dI) (vTy cI cJ) (wSB cI cJ A x) r0 := by
  refine kg_metR (cc := cX5_bridgesBy) (maxL := 2) (ret := (some .int)) (by decide) rfl (Nat.le_of_ble_eq_true rfl) ?_
  intro p e s m args below meth c hx hb hr hts hown hlk hml hH hP hK hN ls hl
  subst hH
  have hl : lv_has ls 2 [(0, .ref (A 0)), (1, .int v1)] := hl
  have ww0 := hts (.fieldLink RX5 12 "SafeBlocks" "now" "LSafeBlocks$Web;") (List.mem_cons_of_mem _ wd_1_15)
  have ww1 := hts (.fieldLink RX5 55 "SafeBlocks$Web" "links" "I") (List.mem_cons_of_mem _ wd_9_15)
  have hiX5 : ∀ w ∈ u_ws RX5 TX5 6, w ∈ wAll yX5_bridgesBy cX5_bridgesBy 2 (some .int) := fun w h => List.mem_cons_of_mem _ (inlX5 w h)
  have hiX4 : ∀ w ∈ u_ws RX4 TX4 16, w ∈ wAll yX5_bridgesBy cX5_bridgesBy 2 (some .int) := fun w h => List.mem_cons_of_mem _ (inlX4 w h)
  unfold SB_m_bridgesBy at hf
  refine lv_iload_n hx hb dX5_bridgesBy_0 rfl (lv_at hl 1 rfl) ?_
  refine kg_if_lt (tgt := 15) hx hb hf dX5_bridgesBy_1 (by decide) (fun hc hf => ?_) (fun hc hf => ?_)
  · refine lv_iconst (v := (-1)) hx hb dX5_bridgesBy_15 (by decide) ?_
    refine lv_goto (tgt := 27) hx hb dX5_bridgesBy_16 (by decide) ?_
    obtain rfl := Option.some.inj hf
    exact kg_iretR hx hb hr hlk rfl dX5_bridgesBy_27
  · refine lv_iload_n hx hb dX5_bridgesBy_4 rfl (lv_at hl 1 rfl) ?_
    refine lv_aload_n hx hb dX5_bridgesBy_5 rfl (lv_at hl 0 rfl) ?_
    refine va_get (D := (dC, dI)) (ci := 5) (v := .ref (A 1)) (C := RX5) (T := TX5) (N := 6) hx hb hts hiX5 hown hK hP 0 rfl rfl 0 (by decide) ww0 (fun _ h9 => h9) rfl dX5_bridgesBy_6 ?_
    refine va_get (D := (dC, dI)) (ci := 4) (v := .int (Wb_links (SB_now x))) (C := RX4) (T := TX4) (N := 16) hx hb hts hiX4 hown hK hP 1 rfl rfl 11 (by decide) ww1 (fun _ h9 => h9) rfl dX5_bridgesBy_9 ?_
    refine kg_icmp_le (tgt := 19) hx hb hf dX5_bridgesBy_12 (by decide) (fun hc hf => ?_) (fun hc hf => ?_)
    · refine lv_aload_n hx hb dX5_bridgesBy_19 rfl (lv_at hl 0 rfl) ?_
      refine va_get (D := (dC, dI)) (ci := 5) (v := .ref (A 1)) (C := RX5) (T := TX5) (N := 6) hx hb hts hiX5 hown hK hP 0 rfl rfl 0 (by decide) ww0 (fun _ h9 => h9) rfl dX5_bridgesBy_20 ?_
      refine lv_iload_n hx hb dX5_bridgesBy_23 rfl (lv_at hl 1 rfl) ?_
      obtain ⟨g24, hc, hf⟩ := ob_bind hf
      have hPc : va_P (dC, dI) vwCl (wWb cI cJ (fun i => A (i + 1)) (SB_now x)) s.heap := hP.sub [1, 2, 3, 4, 5, 6, 7, 8, 9, 10, 11, 12, 13, 14, 15, 16, 17, 18, 19, 20, 21, 22, 23] rfl
      refine kg_retRi (va_runV (As := [.int v1]) (rest := []) ⟨hx, hb, hml, hown, hts⟩ (c_X4_bridgesAmong l dC dI cI cJ (fun i => A (i + 1)) s.heap (SB_now x) v1 _ hc) (cwV 1 hts (gw_V wd_40_14 wd_40_11 wd_40_12 wd_40_13 wd_1_14) rfl rfl rfl qX4_bridgesAmong ⟨Nat.le_of_ble_eq_true rfl, Nat.le_of_ble_eq_true rfl⟩) (kg_preVR (ci := 4) (q := (RX4, TX4, 16)) (q0 := 0) hPc hK hN rfl rfl) rfl rfl hl.1 rfl (lv_room (Nat.le_of_ble_eq_true rfl)) dX5_bridgesBy_24 ⟨Nat.zero_le _, Nat.zero_le _⟩) ?_
      obtain rfl := Option.some.inj hf
      exact kg_iretR hx hb hr hlk rfl dX5_bridgesBy_27
    · refine lv_iconst (v := (-1)) hx hb dX5_bridgesBy_15 (by decide) ?_
      refine lv_goto (tgt := 27) hx hb dX5_bridgesBy_16 (by decide) ?_
      obtain rfl := Option.some.inj hf
      exact kg_iretR hx hb hr hlk rfl dX5_bridgesBy_27
set_option maxHeartbeats 4000000 in
set_option maxRecDepth 100000 in
theorem c_X5_doubleSafe (l : Launch) (dC : Nat → ClassId) (dI : Nat → Nat → Nat) (cI cJ : ClassId) (A : Nat → Nat) (hq : Heap) (x : SBS) (v1 : Int32) (v2 : Int32) (r0 : Int32) (hf : SB_m_doubleSafe x v1 v2 = some r0) : MRi l yX5_doubleSafe (wAll yX5_doubleSafe cX5_doubleSafe 3 (some .int)) ({ frames := 3, cells := 0, slots := 0, locals := 83 } : Room) [.ref (A 0), .int v1, .int v2] hq (dC, dI) (vTy cI cJ) (wSB cI cJ A x) r0 := by
  refine kg_metR (cc := cX5_doubleSafe) (maxL := 3) (ret := (some .int)) (by decide) rfl (Nat.le_of_ble_eq_true rfl) ?_
  intro p e s m args below meth c hx hb hr hts hown hlk hml hH hP hK hN ls hl
  subst hH
  have hl : lv_has ls 3 [(0, .ref (A 0)), (1, .int v1), (2, .int v2)] := hl
  have ww0 := hts (.fieldLink RX5 29 "SafeBlocks" "book" "LSafeBlocks$PartBook;") (List.mem_cons_of_mem _ wd_2_0)
  have hiX5 : ∀ w ∈ u_ws RX5 TX5 6, w ∈ wAll yX5_doubleSafe cX5_doubleSafe 3 (some .int) := fun w h => List.mem_cons_of_mem _ (inlX5 w h)
  unfold SB_m_doubleSafe at hf
  refine lv_aload_n hx hb dX5_doubleSafe_0 rfl (lv_at hl 0 rfl) ?_
  refine lv_iload_n hx hb dX5_doubleSafe_1 rfl (lv_at hl 1 rfl) ?_
  refine lv_iload_n hx hb dX5_doubleSafe_2 rfl (lv_at hl 2 rfl) ?_
  obtain ⟨g3, hc, hf⟩ := ob_bind hf
  have hPc : va_P (dC, dI) vwCl (wSB cI cJ A x) s.heap := hP
  refine kg_retRi (va_runV (As := [.int v1, .int v2]) (rest := []) ⟨hx, hb, hml, hown, hts⟩ (c_X5_areTwoNodes l dC dI cI cJ A s.heap x v1 v2 _ hc) (cwV 2 hts (gw_V wd_9_19 wd_9_16 wd_9_17 wd_9_18 wd_1_2) rfl rfl rfl qX5_areTwoNodes ⟨Nat.le_of_ble_eq_true rfl, Nat.le_of_ble_eq_true rfl⟩) (kg_preVR (ci := 5) (q := (RX5, TX5, 6)) (q0 := 0) hPc hK hN rfl rfl) rfl rfl hl.1 rfl (lv_room (Nat.le_of_ble_eq_true rfl)) dX5_doubleSafe_3 ⟨Nat.zero_le _, Nat.zero_le _⟩) ?_
  refine kg_b_ne (tgt := 11) hx hb hf dX5_doubleSafe_6 (by decide) (fun hc hf => ?_) (fun hc hf => ?_)
  · refine lv_aload_n hx hb dX5_doubleSafe_11 rfl (lv_at hl 0 rfl) ?_
    refine va_get (D := (dC, dI)) (ci := 5) (v := .ref (A 59)) (C := RX5) (T := TX5) (N := 6) hx hb hts hiX5 hown hK hP 0 rfl rfl 3 (by decide) ww0 (fun _ h9 => h9) rfl dX5_doubleSafe_12 ?_
    refine lv_iload_n hx hb dX5_doubleSafe_15 rfl (lv_at hl 1 rfl) ?_
    refine lv_iload_n hx hb dX5_doubleSafe_16 rfl (lv_at hl 2 rfl) ?_
    obtain ⟨g17, hc, hf⟩ := ob_bind hf
    have hPc : va_P (dC, dI) vwCl (wPb cI cJ (fun i => A (i + 59)) (SB_book x)) s.heap := hP.sub [59, 60, 61, 62, 63] rfl
    refine kg_retRi (va_runV (As := [.int v1, .int v2]) (rest := []) ⟨hx, hb, hml, hown, hts⟩ (c_X2_shareRing l dC dI cI cJ (fun i => A (i + 59)) s.heap (SB_book x) v1 v2 _ hc) (cwV 2 hts (gw_V wd_32_22 wd_32_19 wd_32_20 wd_32_21 wd_1_23) rfl rfl rfl qX2_shareRing ⟨Nat.le_of_ble_eq_true rfl, Nat.le_of_ble_eq_true rfl⟩) (kg_preVR (ci := 2) (q := (RX2, TX2, 7)) (q0 := 0) hPc hK hN rfl rfl) rfl rfl hl.1 rfl (lv_room (Nat.le_of_ble_eq_true rfl)) dX5_doubleSafe_17 ⟨Nat.zero_le _, Nat.zero_le _⟩) ?_
    refine kg_b_eq (tgt := 27) hx hb hf dX5_doubleSafe_20 (by decide) (fun hc hf => ?_) (fun hc hf => ?_)
    · refine lv_iconst (v := 0) hx hb dX5_doubleSafe_27 (by decide) ?_
      obtain rfl := Option.some.inj hf
      exact kg_iretR hx hb hr hlk rfl dX5_doubleSafe_28
    · refine lv_iconst (v := 1) hx hb dX5_doubleSafe_23 (by decide) ?_
      refine lv_goto (tgt := 28) hx hb dX5_doubleSafe_24 (by decide) ?_
      obtain rfl := Option.some.inj hf
      exact kg_iretR hx hb hr hlk rfl dX5_doubleSafe_28
  · refine lv_iconst (v := (-1)) hx hb dX5_doubleSafe_9 (by decide) ?_
    obtain rfl := Option.some.inj hf
    exact kg_iretR hx hb hr hlk rfl dX5_doubleSafe_10
set_option maxHeartbeats 4000000 in
set_option maxRecDepth 100000 in
theorem c_X5_wouldBeOne (l : Launch) (dC : Nat → ClassId) (dI : Nat → Nat → Nat) (cI cJ : ClassId) (A : Nat → Nat) (hq : Heap) (x : SBS) (v1 : Int32) (v2 : Int32) (r0 : Int64) (hf : SB_m_wouldBeOne x v1 v2 = some r0) : MRj l yX5_wouldBeOne (wAll yX5_wouldBeOne cX5_wouldBeOne 3 (some .long)) ({ frames := 3, cells := 0, slots := 0, locals := 84 } : Room) [.ref (A 0), .int v1, .int v2] hq (dC, dI) (vTy cI cJ) (wSB cI cJ A x) r0 := by
  refine kg_metR (cc := cX5_wouldBeOne) (maxL := 3) (ret := (some .long)) (by decide) rfl (Nat.le_of_ble_eq_true rfl) ?_
  intro p e s m args below meth c hx hb hr hts hown hlk hml hH hP hK hN ls hl
  subst hH
  have hl : lv_has ls 3 [(0, .ref (A 0)), (1, .int v1), (2, .int v2)] := hl
  have ww0 := hts (.fieldLink RX5 12 "SafeBlocks" "now" "LSafeBlocks$Web;") (List.mem_cons_of_mem _ wd_1_15)
  have ww1 := hts (.fieldLink RX5 118 "SafeBlocks$Web" "blocks" "LSafeBlocks$Names;") (List.mem_cons_of_mem _ wd_18_7)
  have ww2 := hts (.fieldLink RX5 103 "SafeBlocks$Names" "of" "[I") (List.mem_cons_of_mem _ wd_17_19)
  have hiX5 : ∀ w ∈ u_ws RX5 TX5 6, w ∈ wAll yX5_wouldBeOne cX5_wouldBeOne 3 (some .long) := fun w h => List.mem_cons_of_mem _ (inlX5 w h)
  have hiX4 : ∀ w ∈ u_ws RX4 TX4 16, w ∈ wAll yX5_wouldBeOne cX5_wouldBeOne 3 (some .long) := fun w h => List.mem_cons_of_mem _ (inlX4 w h)
  have hiX1 : ∀ w ∈ u_ws RX1 TX1 6, w ∈ wAll yX5_wouldBeOne cX5_wouldBeOne 3 (some .long) := fun w h => List.mem_cons_of_mem _ (inlX1 w h)
  unfold SB_m_wouldBeOne at hf
  refine lv_iload_n hx hb dX5_wouldBeOne_0 rfl (lv_at hl 2 rfl) ?_
  refine lv_iconst (v := (-1)) hx hb dX5_wouldBeOne_1 (by decide) ?_
  refine kg_icmp_ne (tgt := 23) hx hb hf dX5_wouldBeOne_2 (by decide) (fun hc hf => ?_) (fun hc hf => ?_)
  · refine lv_aload_n hx hb dX5_wouldBeOne_23 rfl (lv_at hl 0 rfl) ?_
    refine va_get (D := (dC, dI)) (ci := 5) (v := .ref (A 1)) (C := RX5) (T := TX5) (N := 6) hx hb hts hiX5 hown hK hP 0 rfl rfl 0 (by decide) ww0 (fun _ h9 => h9) rfl dX5_wouldBeOne_24 ?_
    refine lv_iload_n hx hb dX5_wouldBeOne_27 rfl (lv_at hl 2 rfl) ?_
    obtain ⟨g28, hc, hf⟩ := ob_bind hf
    have hPc : va_P (dC, dI) vwCl (wWb cI cJ (fun i => A (i + 1)) (SB_now x)) s.heap := hP.sub [1, 2, 3, 4, 5, 6, 7, 8, 9, 10, 11, 12, 13, 14, 15, 16, 17, 18, 19, 20, 21, 22, 23] rfl
    refine kg_retRj (va_runV (As := [.int v2]) (rest := []) ⟨hx, hb, hml, hown, hts⟩ (c_X4_blocksOnWay l dC dI cI cJ (fun i => A (i + 1)) s.heap (SB_now x) v2 _ hc) (cwV 1 hts (gw_V wd_12_1 wd_36_5 wd_11_23 wd_12_0 wd_1_14) rfl rfl rfl qX4_blocksOnWay ⟨Nat.le_of_ble_eq_true rfl, Nat.le_of_ble_eq_true rfl⟩) (kg_preVR (ci := 4) (q := (RX4, TX4, 16)) (q0 := 0) hPc hK hN rfl rfl) rfl rfl hl.1 rfl (lv_room (Nat.le_of_ble_eq_true rfl)) dX5_wouldBeOne_28 ⟨Nat.zero_le _, Nat.zero_le _⟩) ?_
    obtain rfl := Option.some.inj hf
    exact kg_lretR hx hb hr hlk rfl dX5_wouldBeOne_31
  · refine lv_aload_n hx hb dX5_wouldBeOne_5 rfl (lv_at hl 0 rfl) ?_
    refine va_get (D := (dC, dI)) (ci := 5) (v := .ref (A 1)) (C := RX5) (T := TX5) (N := 6) hx hb hts hiX5 hown hK hP 0 rfl rfl 0 (by decide) ww0 (fun _ h9 => h9) rfl dX5_wouldBeOne_6 ?_
    refine va_get (D := (dC, dI)) (ci := 4) (v := .ref (A 9)) (C := RX4) (T := TX4) (N := 16) hx hb hts hiX4 hown hK hP 1 rfl rfl 7 (by decide) ww1 (fun _ h9 => h9) rfl dX5_wouldBeOne_9 ?_
    refine va_get (D := (dC, dI)) (ci := 1) (v := .ref (A 10)) (C := RX1) (T := TX1) (N := 6) hx hb hts hiX1 hown hK hP 9 rfl rfl 0 (by decide) ww2 (fun _ h9 => h9) rfl dX5_wouldBeOne_12 ?_
    refine lv_iload_n hx hb dX5_wouldBeOne_15 rfl (lv_at hl 1 rfl) ?_
    obtain ⟨g16, hv, hf⟩ := ob_bind hf
    refine kg_iald hx hb hK hP 10 0 rfl rfl hv dX5_wouldBeOne_16 ?_
    obtain ⟨g17, hc, hf⟩ := ob_bind hf
    have hPc : va_P (dC, dI) vwCl ([] : va_W) s.heap := fun k q h => by cases h
    refine kg_retRj (va_runS (As := [.int g16]) (rest := []) ⟨hx, hb, hml, hown, hts⟩ (c_X5_bit l dC dI cI cJ  s.heap g16 _ hc) (cwS 1 hts (gw_S wd_7_17 wd_36_4 wd_7_16 wd_1_2) rfl rfl rfl qX5_bit ⟨Nat.le_of_ble_eq_true rfl, Nat.le_of_ble_eq_true rfl⟩) (kg_preSR hPc hK hN) rfl rfl hl.1 rfl (lv_room (Nat.le_of_ble_eq_true rfl)) dX5_wouldBeOne_17 ⟨Nat.zero_le _, Nat.zero_le _⟩) ?_
    refine lv_goto (tgt := 31) hx hb dX5_wouldBeOne_20 (by decide) ?_
    obtain rfl := Option.some.inj hf
    exact kg_lretR hx hb hr hlk rfl dX5_wouldBeOne_31
set_option maxHeartbeats 4000000 in
set_option maxRecDepth 100000 in
theorem c_X5_productOfSides (l : Launch) (dC : Nat → ClassId) (dI : Nat → Nat → Nat) (cI cJ : ClassId) (A : Nat → Nat) (hq : Heap) (x : SBS) (v1 : Int32) (r0 : Int32) (hf : SB_m_productOfSides x v1 = some r0) : MRi l yX5_productOfSides (wAll yX5_productOfSides cX5_productOfSides 4 (some .int)) ({ frames := 3, cells := 0, slots := 0, locals := 84 } : Room) [.ref (A 0), .int v1] hq (dC, dI) (vTy cI cJ) (wSB cI cJ A x) r0 := by
  refine kg_metR (cc := cX5_productOfSides) (maxL := 4) (ret := (some .int)) (by decide) rfl (Nat.le_of_ble_eq_true rfl) ?_
  intro p e s m args below meth c hx hb hr hts hown hlk hml hH hP hK hN ls hl
  subst hH
  have hl : lv_has ls 4 [(0, .ref (A 0)), (1, .int v1)] := hl
  have ww0 := hts (.fieldLink RX5 12 "SafeBlocks" "now" "LSafeBlocks$Web;") (List.mem_cons_of_mem _ wd_1_15)
  have ww1 := hts (.fieldLink RX5 83 "SafeBlocks$Web" "first" "[I") (List.mem_cons_of_mem _ wd_17_14)
  have ww2 := hts (.fieldLink RX5 87 "SafeBlocks$Web" "second" "[I") (List.mem_cons_of_mem _ wd_17_15)
  have hiX5 : ∀ w ∈ u_ws RX5 TX5 6, w ∈ wAll yX5_productOfSides cX5_productOfSides 4 (some .int) := fun w h => List.mem_cons_of_mem _ (inlX5 w h)
  have hiX4 : ∀ w ∈ u_ws RX4 TX4 16, w ∈ wAll yX5_productOfSides cX5_productOfSides 4 (some .int) := fun w h => List.mem_cons_of_mem _ (inlX4 w h)
  unfold SB_m_productOfSides at hf
  refine lv_aload_n hx hb dX5_productOfSides_0 rfl (lv_at hl 0 rfl) ?_
  refine va_get (D := (dC, dI)) (ci := 5) (v := .ref (A 1)) (C := RX5) (T := TX5) (N := 6) hx hb hts hiX5 hown hK hP 0 rfl rfl 0 (by decide) ww0 (fun _ h9 => h9) rfl dX5_productOfSides_1 ?_
  refine lv_iload_n hx hb dX5_productOfSides_4 rfl (lv_at hl 1 rfl) ?_
  obtain ⟨g5, hc, hf⟩ := ob_bind hf
  have hPc : va_P (dC, dI) vwCl (wWb cI cJ (fun i => A (i + 1)) (SB_now x)) s.heap := hP.sub [1, 2, 3, 4, 5, 6, 7, 8, 9, 10, 11, 12, 13, 14, 15, 16, 17, 18, 19, 20, 21, 22, 23] rfl
  refine kg_retRi (va_runV (As := [.int v1]) (rest := []) ⟨hx, hb, hml, hown, hts⟩ (c_X4_isBridge l dC dI cI cJ (fun i => A (i + 1)) s.heap (SB_now x) v1 _ hc) (cwV 1 hts (gw_V wd_6_6 wd_18_0 wd_6_4 wd_6_5 wd_1_14) rfl rfl rfl qX4_isBridge ⟨Nat.le_of_ble_eq_true rfl, Nat.le_of_ble_eq_true rfl⟩) (kg_preVR (ci := 4) (q := (RX4, TX4, 16)) (q0 := 0) hPc hK hN rfl rfl) rfl rfl hl.1 rfl (lv_room (Nat.le_of_ble_eq_true rfl)) dX5_productOfSides_5 ⟨Nat.zero_le _, Nat.zero_le _⟩) ?_
  refine kg_b_ne (tgt := 13) hx hb hf dX5_productOfSides_8 (by decide) (fun hc hf => ?_) (fun hc hf => ?_)
  · refine lv_aload_n hx hb dX5_productOfSides_13 rfl (lv_at hl 0 rfl) ?_
    refine va_get (D := (dC, dI)) (ci := 5) (v := .ref (A 1)) (C := RX5) (T := TX5) (N := 6) hx hb hts hiX5 hown hK hP 0 rfl rfl 0 (by decide) ww0 (fun _ h9 => h9) rfl dX5_productOfSides_14 ?_
    refine va_get (D := (dC, dI)) (ci := 4) (v := .ref (A 2)) (C := RX4) (T := TX4) (N := 16) hx hb hts hiX4 hown hK hP 1 rfl rfl 0 (by decide) ww1 (fun _ h9 => h9) rfl dX5_productOfSides_17 ?_
    refine lv_iload_n hx hb dX5_productOfSides_20 rfl (lv_at hl 1 rfl) ?_
    obtain ⟨g21, hv, hf⟩ := ob_bind hf
    refine kg_iald hx hb hK hP 2 0 rfl rfl hv dX5_productOfSides_21 ?_
    refine lv_istore_n (lv' := [(2, .int g21), (0, .ref (A 0)), (1, .int v1)]) hx hb dX5_productOfSides_22 rfl hl (by decide) rfl (fun ls hl => ?_)
    refine lv_aload_n hx hb dX5_productOfSides_23 rfl (lv_at hl 1 rfl) ?_
    refine va_get (D := (dC, dI)) (ci := 5) (v := .ref (A 1)) (C := RX5) (T := TX5) (N := 6) hx hb hts hiX5 hown hK hP 0 rfl rfl 0 (by decide) ww0 (fun _ h9 => h9) rfl dX5_productOfSides_24 ?_
    refine va_get (D := (dC, dI)) (ci := 4) (v := .ref (A 3)) (C := RX4) (T := TX4) (N := 16) hx hb hts hiX4 hown hK hP 1 rfl rfl 1 (by decide) ww2 (fun _ h9 => h9) rfl dX5_productOfSides_27 ?_
    refine lv_iload_n hx hb dX5_productOfSides_30 rfl (lv_at hl 2 rfl) ?_
    obtain ⟨g31, hv, hf⟩ := ob_bind hf
    refine kg_iald hx hb hK hP 3 0 rfl rfl hv dX5_productOfSides_31 ?_
    refine lv_istore_n (lv' := [(3, .int g31), (2, .int g21), (0, .ref (A 0)), (1, .int v1)]) hx hb dX5_productOfSides_32 rfl hl (by decide) rfl (fun ls hl => ?_)
    refine lv_aload_n hx hb dX5_productOfSides_33 rfl (lv_at hl 2 rfl) ?_
    refine lv_iload_n hx hb dX5_productOfSides_34 rfl (lv_at hl 3 rfl) ?_
    refine lv_iload_n hx hb dX5_productOfSides_35 rfl (lv_at hl 1 rfl) ?_
    refine lv_iload_n hx hb dX5_productOfSides_36 rfl (lv_at hl 0 rfl) ?_
    obtain ⟨g37, hc, hf⟩ := ob_bind hf
    have hPc : va_P (dC, dI) vwCl (wSB cI cJ A x) s.heap := hP
    refine kg_retRi (va_runV (As := [.int v1, .int g21, .int g31]) (rest := []) ⟨hx, hb, hml, hown, hts⟩ (c_X5_sideOf l dC dI cI cJ A s.heap x v1 g21 g31 _ hc) (cwV 3 hts (gw_V wd_18_4 wd_18_1 wd_18_2 wd_18_3 wd_1_2) rfl rfl rfl qX5_sideOf ⟨Nat.le_of_ble_eq_true rfl, Nat.le_of_ble_eq_true rfl⟩) (kg_preVR (ci := 5) (q := (RX5, TX5, 6)) (q0 := 0) hPc hK hN rfl rfl) rfl rfl hl.1 rfl (lv_room (Nat.le_of_ble_eq_true rfl)) dX5_productOfSides_37 ⟨Nat.zero_le _, Nat.zero_le _⟩) ?_
    refine lv_aload_n hx hb dX5_productOfSides_40 rfl (lv_at hl 2 rfl) ?_
    refine lv_iload_n hx hb dX5_productOfSides_41 rfl (lv_at hl 3 rfl) ?_
    refine lv_iload_n hx hb dX5_productOfSides_42 rfl (lv_at hl 0 rfl) ?_
    refine lv_iload_n hx hb dX5_productOfSides_43 rfl (lv_at hl 1 rfl) ?_
    obtain ⟨g44, hc, hf⟩ := ob_bind hf
    have hPc : va_P (dC, dI) vwCl (wSB cI cJ A x) s.heap := hP
    refine kg_retRi (va_runV (As := [.int v1, .int g31, .int g21]) (rest := [.int g37]) ⟨hx, hb, hml, hown, hts⟩ (c_X5_sideOf l dC dI cI cJ A s.heap x v1 g31 g21 _ hc) (cwV 3 hts (gw_V wd_18_4 wd_18_1 wd_18_2 wd_18_3 wd_1_2) rfl rfl rfl qX5_sideOf ⟨Nat.le_of_ble_eq_true rfl, Nat.le_of_ble_eq_true rfl⟩) (kg_preVR (ci := 5) (q := (RX5, TX5, 6)) (q0 := 0) hPc hK hN rfl rfl) rfl rfl hl.1 rfl (lv_room (Nat.le_of_ble_eq_true rfl)) dX5_productOfSides_44 ⟨Nat.zero_le _, Nat.zero_le _⟩) ?_
    refine lv_imul hx hb dX5_productOfSides_47 ?_
    obtain rfl := Option.some.inj hf
    exact kg_iretR hx hb hr hlk rfl dX5_productOfSides_48
  · refine lv_iconst (v := (-1)) hx hb dX5_productOfSides_11 (by decide) ?_
    obtain rfl := Option.some.inj hf
    exact kg_iretR hx hb hr hlk rfl dX5_productOfSides_12
set_option maxHeartbeats 4000000 in
set_option maxRecDepth 100000 in
theorem c_X5_worst (l : Launch) (dC : Nat → ClassId) (dI : Nat → Nat → Nat) (cI cJ : ClassId) (A : Nat → Nat) (hq : Heap) (x : SBS) (v1 : Int32) (r0 : Int32) (hf : SB_m_worst x v1 = some r0) : MRi l yX5_worst (wAll yX5_worst cX5_worst 6 (some .int)) ({ frames := 4, cells := 0, slots := 0, locals := 107 } : Room) [.ref (A 0), .int v1] hq (dC, dI) (vTy cI cJ) (wSB cI cJ A x) r0 := by
  refine kg_metR (cc := cX5_worst) (maxL := 6) (ret := (some .int)) (by decide) rfl (Nat.le_of_ble_eq_true rfl) ?_
  intro p e s m args below meth c hx hb hr hts hown hlk hml hH hP hK hN ls hl
  subst hH
  have hl : lv_has ls 6 [(0, .ref (A 0)), (1, .int v1)] := hl
  have ww0 := hts (.fieldLink RX5 12 "SafeBlocks" "now" "LSafeBlocks$Web;") (List.mem_cons_of_mem _ wd_1_15)
  have ww1 := hts (.fieldLink RX5 55 "SafeBlocks$Web" "links" "I") (List.mem_cons_of_mem _ wd_9_15)
  have hiX5 : ∀ w ∈ u_ws RX5 TX5 6, w ∈ wAll yX5_worst cX5_worst 6 (some .int) := fun w h => List.mem_cons_of_mem _ (inlX5 w h)
  have hiX4 : ∀ w ∈ u_ws RX4 TX4 16, w ∈ wAll yX5_worst cX5_worst 6 (some .int) := fun w h => List.mem_cons_of_mem _ (inlX4 w h)
  unfold SB_m_worst at hf
  refine lv_iconst (v := (-1)) hx hb dX5_worst_0 (by decide) ?_
  refine lv_istore_n (lv' := [(2, .int (-1)), (0, .ref (A 0)), (1, .int v1)]) hx hb dX5_worst_1 rfl hl (by decide) rfl (fun ls hl => ?_)
  refine lv_iconst (v := (-1)) hx hb dX5_worst_2 (by decide) ?_
  refine lv_istore_n (lv' := [(3, .int (-1)), (2, .int (-1)), (0, .ref (A 0)), (1, .int v1)]) hx hb dX5_worst_3 rfl hl (by decide) rfl (fun ls hl => ?_)
  refine lv_iconst (v := 0) hx hb dX5_worst_4 (by decide) ?_
  refine lv_istore (lv' := [(4, .int 0), (3, .int (-1)), (2, .int (-1)), (0, .ref (A 0)), (1, .int v1)]) hx hb dX5_worst_5 hl (by decide) rfl (fun ls hl => ?_)
  have hlp7 : ∀ (n : Nat) (v2 : Int32) (v3 : Int32) (v4 : Int32), iter (fun p : Int32 × Int32 × Int32 => SB_m_worst_s7 x v1 p.1 p.2.1 p.2.2) n (v2, v3, v4) = some r0 → ∀ (ls : Array Slot), lv_has ls 6 [(0, .ref (A 0)), (1, .int v1), (2, .int v2), (3, .int v3), (4, .int v4)] → W p l e ({ frames := 4, cells := 0, slots := 0, locals := 107 } : Room) s m args below meth c s.heap [] 0 0 (MQ below (QRi s.heap r0) args s 0 0 NoA) (F0 m 7 ls []) := by
    intro  n
    induction n with
    | zero => intro v2 v3 v4 hf; exact iter_zero hf
    | succ n ih1 =>
      intro v2 v3 v4 hf ls hl
      obtain ⟨q1, hf, hk1⟩ := iter_succ hf
      have hf : SB_m_worst_s7 x v1 v2 v3 v4 = some q1 := hf
      unfold SB_m_worst_s7 at hf
      refine lv_iload hx hb dX5_worst_7 (lv_at hl 4 rfl) ?_
      refine lv_aload_n hx hb dX5_worst_9 rfl (lv_at hl 0 rfl) ?_
      refine va_get (D := (dC, dI)) (ci := 5) (v := .ref (A 1)) (C := RX5) (T := TX5) (N := 6) hx hb hts hiX5 hown hK hP 0 rfl rfl 0 (by decide) ww0 (fun _ h9 => h9) rfl dX5_worst_10 ?_
      refine va_get (D := (dC, dI)) (ci := 4) (v := .int (Wb_links (SB_now x))) (C := RX4) (T := TX4) (N := 16) hx hb hts hiX4 hown hK hP 1 rfl rfl 11 (by decide) ww1 (fun _ h9 => h9) rfl dX5_worst_13 ?_
      refine kg_icmp_ge (tgt := 45) hx hb hf dX5_worst_16 (by decide) (fun hc hf => ?_) (fun hc hf => ?_)
      · obtain ⟨qq, hf, hqq⟩ := omap_some hf
        have hkq : qq = r0 := by rw [← hqq] at hk1; exact hk1
        rw [hkq] at hf
        clear hkq hqq
        refine lv_iload_n hx hb dX5_worst_45 rfl (lv_at hl 1 rfl) ?_
        by_cases hc0 : v1 = 0
        · rw [if_pos hc0] at hf
          refine lv_lookup (tgt := 72) (off := 26) hx hb dX5_worst_46 (by decide) (by rw [hc0]; rfl) (by decide) ?_
          refine lv_iload_n hx hb dX5_worst_72 rfl (lv_at hl 3 rfl) ?_
          obtain rfl := Option.some.inj hf
          exact kg_iretR hx hb hr hlk rfl dX5_worst_73
        · rw [if_neg hc0] at hf
          by_cases hc1 : v1 = 1
          · rw [if_pos hc1] at hf
            refine lv_lookup (tgt := 74) (off := 28) hx hb dX5_worst_46 (by decide) (by rw [hc1]; rfl) (by decide) ?_
            refine lv_iload_n hx hb dX5_worst_74 rfl (lv_at hl 2 rfl) ?_
            obtain rfl := Option.some.inj hf
            exact kg_iretR hx hb hr hlk rfl dX5_worst_75
          · rw [if_neg hc1] at hf
            have ehc0 := ne_toInt hc0 (k := 0) (by decide)
            have ehc1 := ne_toInt hc1 (k := 1) (by decide)
            refine lv_lookup (tgt := 76) (off := 30) hx hb dX5_worst_46 (by decide) (by simp only [Op.lookupswitch.offset]; rw [if_neg (Ne.symm ehc0), if_neg (Ne.symm ehc1)]) (by decide) ?_
            refine lv_iconst (v := (-1)) hx hb dX5_worst_76 (by decide) ?_
            obtain rfl := Option.some.inj hf
            exact kg_iretR hx hb hr hlk rfl dX5_worst_77
      · refine lv_aload_n hx hb dX5_worst_19 rfl (lv_at hl 0 rfl) ?_
        refine lv_iload hx hb dX5_worst_20 (lv_at hl 4 rfl) ?_
        obtain ⟨g22, hc, hf⟩ := ob_bind hf
        have hPc : va_P (dC, dI) vwCl (wSB cI cJ A x) s.heap := hP
        refine kg_retRi (va_runV (As := [.int v4]) (rest := []) ⟨hx, hb, hml, hown, hts⟩ (c_X5_productOfSides l dC dI cI cJ A s.heap x v4 _ hc) (cwV 1 hts (gw_V wd_37_15 wd_37_12 wd_37_13 wd_37_14 wd_1_2) rfl rfl rfl qX5_productOfSides ⟨Nat.le_of_ble_eq_true rfl, Nat.le_of_ble_eq_true rfl⟩) (kg_preVR (ci := 5) (q := (RX5, TX5, 6)) (q0 := 0) hPc hK hN rfl rfl) rfl rfl hl.1 rfl (lv_room (Nat.le_of_ble_eq_true rfl)) dX5_worst_22 ⟨Nat.zero_le _, Nat.zero_le _⟩) ?_
        refine lv_istore (lv' := [(5, .int g22), (0, .ref (A 0)), (1, .int v1), (2, .int v2), (3, .int v3), (4, .int v4)]) hx hb dX5_worst_25 hl (by decide) rfl (fun ls hl => ?_)
        refine lv_iload hx hb dX5_worst_27 (lv_at hl 0 rfl) ?_
        refine lv_iload_n hx hb dX5_worst_29 rfl (lv_at hl 3 rfl) ?_
        refine kg_icmp_le (tgt := 39) hx hb hf dX5_worst_30 (by decide) (fun hc hf => ?_) (fun hc hf => ?_)
        · refine lv_iinc (v := (v4 + 1)) (lv' := [(4, .int (v4 + 1)), (5, .int g22), (0, .ref (A 0)), (1, .int v1), (2, .int v2), (3, .int v3)]) hx hb dX5_worst_39 hl (k := 5) rfl rfl (by decide) rfl (fun ls hl => ?_)
          refine lv_goto (tgt := 7) hx hb dX5_worst_42 (by decide) ?_
          obtain rfl := Option.some.inj hf
          exact ih1 v2 v3 (v4 + 1) hk1 _ (lv_sub hl [2, 3, 4, 5, 0] rfl)
        · refine lv_iload hx hb dX5_worst_33 (lv_at hl 0 rfl) ?_
          refine lv_istore_n (lv' := [(2, .int g22), (5, .int g22), (0, .ref (A 0)), (1, .int v1), (3, .int v3), (4, .int v4)]) hx hb dX5_worst_35 rfl hl (by decide) rfl (fun ls hl => ?_)
          refine lv_iload hx hb dX5_worst_36 (lv_at hl 5 rfl) ?_
          refine lv_istore_n (lv' := [(3, .int v4), (2, .int g22), (5, .int g22), (0, .ref (A 0)), (1, .int v1), (4, .int v4)]) hx hb dX5_worst_38 rfl hl (by decide) rfl (fun ls hl => ?_)
          refine lv_iinc (v := (v4 + 1)) (lv' := [(4, .int (v4 + 1)), (3, .int v4), (2, .int g22), (5, .int g22), (0, .ref (A 0)), (1, .int v1)]) hx hb dX5_worst_39 hl (k := 5) rfl rfl (by decide) rfl (fun ls hl => ?_)
          refine lv_goto (tgt := 7) hx hb dX5_worst_42 (by decide) ?_
          obtain rfl := Option.some.inj hf
          exact ih1 g22 v4 (v4 + 1) hk1 _ (lv_sub hl [4, 5, 2, 1, 0] rfl)
  exact hlp7  FU (-1) (-1) 0 hf _ (lv_sub hl [3, 4, 2, 1, 0] rfl)
set_option maxHeartbeats 4000000 in
set_option maxRecDepth 100000 in
theorem c_X5_part (l : Launch) (dC : Nat → ClassId) (dI : Nat → Nat → Nat) (cI cJ : ClassId) (A : Nat → Nat) (hq : Heap) (x : SBS) (v1 : Int32) (v2 : Int32) (r0 : Int32) (hf : SB_m_part x v1 v2 = some r0) : MRi l yX5_part (wAll yX5_part cX5_part 3 (some .int)) ({ frames := 3, cells := 0, slots := 0, locals := 85 } : Room) [.ref (A 0), .int v1, .int v2] hq (dC, dI) (vTy cI cJ) (wSB cI cJ A x) r0 := by
  refine kg_metR (cc := cX5_part) (maxL := 3) (ret := (some .int)) (by decide) rfl (Nat.le_of_ble_eq_true rfl) ?_
  intro p e s m args below meth c hx hb hr hts hown hlk hml hH hP hK hN ls hl
  subst hH
  have hl : lv_has ls 3 [(0, .ref (A 0)), (1, .int v1), (2, .int v2)] := hl
  have ww0 := hts (.fieldLink RX5 29 "SafeBlocks" "book" "LSafeBlocks$PartBook;") (List.mem_cons_of_mem _ wd_2_0)
  have ww1 := hts (.fieldLink RX5 301 "SafeBlocks$PartBook" "count" "I") (List.mem_cons_of_mem _ wd_38_0)
  have ww2 := hts (.fieldLink RX5 12 "SafeBlocks" "now" "LSafeBlocks$Web;") (List.mem_cons_of_mem _ wd_1_15)
  have ww3 := hts (.fieldLink RX5 99 "SafeBlocks$Web" "parts" "LSafeBlocks$Names;") (List.mem_cons_of_mem _ wd_17_18)
  have ww4 := hts (.fieldLink RX5 124 "SafeBlocks$Names" "size" "[I") (List.mem_cons_of_mem _ wd_18_9)
  have ww5 := hts (.fieldLink RX5 304 "SafeBlocks$PartBook" "nameOf" "[I") (List.mem_cons_of_mem _ wd_38_1)
  have ww6 := hts (.fieldLink RX5 310 "SafeBlocks$PartBook" "least" "[I") (List.mem_cons_of_mem _ wd_38_2)
  have hiX5 : ∀ w ∈ u_ws RX5 TX5 6, w ∈ wAll yX5_part cX5_part 3 (some .int) := fun w h => List.mem_cons_of_mem _ (inlX5 w h)
  have hiX2 : ∀ w ∈ u_ws RX2 TX2 7, w ∈ wAll yX5_part cX5_part 3 (some .int) := fun w h => List.mem_cons_of_mem _ (inlX2 w h)
  have hiX4 : ∀ w ∈ u_ws RX4 TX4 16, w ∈ wAll yX5_part cX5_part 3 (some .int) := fun w h => List.mem_cons_of_mem _ (inlX4 w h)
  have hiX1 : ∀ w ∈ u_ws RX1 TX1 6, w ∈ wAll yX5_part cX5_part 3 (some .int) := fun w h => List.mem_cons_of_mem _ (inlX1 w h)
  unfold SB_m_part at hf
  refine lv_iload_n hx hb dX5_part_0 rfl (lv_at hl 1 rfl) ?_
  refine kg_if_lt (tgt := 15) hx hb hf dX5_part_1 (by decide) (fun hc hf => ?_) (fun hc hf => ?_)
  · refine lv_iconst (v := (-1)) hx hb dX5_part_15 (by decide) ?_
    obtain rfl := Option.some.inj hf
    exact kg_iretR hx hb hr hlk rfl dX5_part_16
  · refine lv_iload_n hx hb dX5_part_4 rfl (lv_at hl 1 rfl) ?_
    refine lv_aload_n hx hb dX5_part_5 rfl (lv_at hl 0 rfl) ?_
    refine va_get (D := (dC, dI)) (ci := 5) (v := .ref (A 59)) (C := RX5) (T := TX5) (N := 6) hx hb hts hiX5 hown hK hP 0 rfl rfl 3 (by decide) ww0 (fun _ h9 => h9) rfl dX5_part_6 ?_
    refine va_get (D := (dC, dI)) (ci := 2) (v := .int (Pb_count (SB_book x))) (C := RX2) (T := TX2) (N := 7) hx hb hts hiX2 hown hK hP 59 rfl rfl 5 (by decide) ww1 (fun _ h9 => h9) rfl dX5_part_9 ?_
    refine kg_icmp_lt (tgt := 17) hx hb hf dX5_part_12 (by decide) (fun hc hf => ?_) (fun hc hf => ?_)
    · refine lv_iload_n hx hb dX5_part_17 rfl (lv_at hl 2 rfl) ?_
      by_cases hc0 : v2 = 0
      · rw [if_pos hc0] at hf
        refine lv_tableIn (tgt := 44) (off := 26) hx hb dX5_part_18 (by rw [hc0]; decide) (by rw [hc0]; decide) (by rw [hc0]; rfl) (by decide) ?_
        refine lv_aload_n hx hb dX5_part_44 rfl (lv_at hl 0 rfl) ?_
        refine va_get (D := (dC, dI)) (ci := 5) (v := .ref (A 1)) (C := RX5) (T := TX5) (N := 6) hx hb hts hiX5 hown hK hP 0 rfl rfl 0 (by decide) ww2 (fun _ h9 => h9) rfl dX5_part_45 ?_
        refine va_get (D := (dC, dI)) (ci := 4) (v := .ref (A 19)) (C := RX4) (T := TX4) (N := 16) hx hb hts hiX4 hown hK hP 1 rfl rfl 9 (by decide) ww3 (fun _ h9 => h9) rfl dX5_part_48 ?_
        refine va_get (D := (dC, dI)) (ci := 1) (v := .ref (A 21)) (C := RX1) (T := TX1) (N := 6) hx hb hts hiX1 hown hK hP 19 rfl rfl 1 (by decide) ww4 (fun _ h9 => h9) rfl dX5_part_51 ?_
        refine lv_aload_n hx hb dX5_part_54 rfl (lv_at hl 0 rfl) ?_
        refine va_get (D := (dC, dI)) (ci := 5) (v := .ref (A 59)) (C := RX5) (T := TX5) (N := 6) hx hb hts hiX5 hown hK hP 0 rfl rfl 3 (by decide) ww0 (fun _ h9 => h9) rfl dX5_part_55 ?_
        refine va_get (D := (dC, dI)) (ci := 2) (v := .ref (A 61)) (C := RX2) (T := TX2) (N := 7) hx hb hts hiX2 hown hK hP 59 rfl rfl 1 (by decide) ww5 (fun _ h9 => h9) rfl dX5_part_58 ?_
        refine lv_iload_n hx hb dX5_part_61 rfl (lv_at hl 1 rfl) ?_
        obtain ⟨g62, hv, hf⟩ := ob_bind hf
        refine kg_iald hx hb hK hP 61 0 rfl rfl hv dX5_part_62 ?_
        obtain ⟨g63, hv, hf⟩ := ob_bind hf
        refine kg_iald hx hb hK hP 21 0 rfl rfl hv dX5_part_63 ?_
        obtain rfl := Option.some.inj hf
        exact kg_iretR hx hb hr hlk rfl dX5_part_64
      · rw [if_neg hc0] at hf
        by_cases hc1 : v2 = 1
        · rw [if_pos hc1] at hf
          refine lv_tableIn (tgt := 65) (off := 47) hx hb dX5_part_18 (by rw [hc1]; decide) (by rw [hc1]; decide) (by rw [hc1]; rfl) (by decide) ?_
          refine lv_aload_n hx hb dX5_part_65 rfl (lv_at hl 0 rfl) ?_
          refine va_get (D := (dC, dI)) (ci := 5) (v := .ref (A 59)) (C := RX5) (T := TX5) (N := 6) hx hb hts hiX5 hown hK hP 0 rfl rfl 3 (by decide) ww0 (fun _ h9 => h9) rfl dX5_part_66 ?_
          refine lv_aload_n hx hb dX5_part_69 rfl (lv_at hl 0 rfl) ?_
          refine va_get (D := (dC, dI)) (ci := 5) (v := .ref (A 59)) (C := RX5) (T := TX5) (N := 6) hx hb hts hiX5 hown hK hP 0 rfl rfl 3 (by decide) ww0 (fun _ h9 => h9) rfl dX5_part_70 ?_
          refine va_get (D := (dC, dI)) (ci := 2) (v := .ref (A 61)) (C := RX2) (T := TX2) (N := 7) hx hb hts hiX2 hown hK hP 59 rfl rfl 1 (by decide) ww5 (fun _ h9 => h9) rfl dX5_part_73 ?_
          refine lv_iload_n hx hb dX5_part_76 rfl (lv_at hl 1 rfl) ?_
          obtain ⟨g77, hv, hf⟩ := ob_bind hf
          refine kg_iald hx hb hK hP 61 0 rfl rfl hv dX5_part_77 ?_
          obtain ⟨g78, hc, hf⟩ := ob_bind hf
          have hPc : va_P (dC, dI) vwCl (wPb cI cJ (fun i => A (i + 59)) (SB_book x)) s.heap := hP.sub [59, 60, 61, 62, 63] rfl
          refine kg_retRi (va_runV (As := [.int g77]) (rest := []) ⟨hx, hb, hml, hown, hts⟩ (c_X2_nodesAt l dC dI cI cJ (fun i => A (i + 59)) s.heap (SB_book x) g77 _ hc) (cwV 1 hts (gw_V wd_38_6 wd_38_3 wd_38_4 wd_38_5 wd_1_23) rfl rfl rfl qX2_nodesAt ⟨Nat.le_of_ble_eq_true rfl, Nat.le_of_ble_eq_true rfl⟩) (kg_preVR (ci := 2) (q := (RX2, TX2, 7)) (q0 := 0) hPc hK hN rfl rfl) rfl rfl hl.1 rfl (lv_room (Nat.le_of_ble_eq_true rfl)) dX5_part_78 ⟨Nat.zero_le _, Nat.zero_le _⟩) ?_
          obtain rfl := Option.some.inj hf
          exact kg_iretR hx hb hr hlk rfl dX5_part_81
        · rw [if_neg hc1] at hf
          by_cases hc2 : v2 = 2
          · rw [if_pos hc2] at hf
            refine lv_tableIn (tgt := 82) (off := 64) hx hb dX5_part_18 (by rw [hc2]; decide) (by rw [hc2]; decide) (by rw [hc2]; rfl) (by decide) ?_
            refine lv_aload_n hx hb dX5_part_82 rfl (lv_at hl 0 rfl) ?_
            refine va_get (D := (dC, dI)) (ci := 5) (v := .ref (A 59)) (C := RX5) (T := TX5) (N := 6) hx hb hts hiX5 hown hK hP 0 rfl rfl 3 (by decide) ww0 (fun _ h9 => h9) rfl dX5_part_83 ?_
            refine va_get (D := (dC, dI)) (ci := 2) (v := .ref (A 63)) (C := RX2) (T := TX2) (N := 7) hx hb hts hiX2 hown hK hP 59 rfl rfl 3 (by decide) ww6 (fun _ h9 => h9) rfl dX5_part_86 ?_
            refine lv_iload_n hx hb dX5_part_89 rfl (lv_at hl 1 rfl) ?_
            obtain ⟨g90, hv, hf⟩ := ob_bind hf
            refine kg_iald hx hb hK hP 63 0 rfl rfl hv dX5_part_90 ?_
            obtain rfl := Option.some.inj hf
            exact kg_iretR hx hb hr hlk rfl dX5_part_91
          · rw [if_neg hc2] at hf
            have ehc0 := ne_toInt hc0 (k := 0) (by decide)
            have ehc1 := ne_toInt hc1 (k := 1) (by decide)
            have ehc2 := ne_toInt hc2 (k := 2) (by decide)
            refine lv_tableOut (tgt := 92) hx hb dX5_part_18 (by omega) (by decide) ?_
            refine lv_iconst (v := (-1)) hx hb dX5_part_92 (by decide) ?_
            obtain rfl := Option.some.inj hf
            exact kg_iretR hx hb hr hlk rfl dX5_part_93
    · refine lv_iconst (v := (-1)) hx hb dX5_part_15 (by decide) ?_
      obtain rfl := Option.some.inj hf
      exact kg_iretR hx hb hr hlk rfl dX5_part_16
set_option maxHeartbeats 4000000 in
set_option maxRecDepth 100000 in
theorem c_X5_mendOfAll (l : Launch) (dC : Nat → ClassId) (dI : Nat → Nat → Nat) (cI cJ : ClassId) (A : Nat → Nat) (hq : Heap) (x : SBS) (r0 : Int32) (hf : SB_m_mendOfAll x = some r0) : MRi l yX5_mendOfAll (wAll yX5_mendOfAll cX5_mendOfAll 3 (some .int)) ({ frames := 3, cells := 0, slots := 0, locals := 85 } : Room) [.ref (A 0)] hq (dC, dI) (vTy cI cJ) (wSB cI cJ A x) r0 := by
  refine kg_metR (cc := cX5_mendOfAll) (maxL := 3) (ret := (some .int)) (by decide) rfl (Nat.le_of_ble_eq_true rfl) ?_
  intro p e s m args below meth c hx hb hr hts hown hlk hml hH hP hK hN ls hl
  subst hH
  have hl : lv_has ls 3 [(0, .ref (A 0))] := hl
  have ww0 := hts (.fieldLink RX5 12 "SafeBlocks" "now" "LSafeBlocks$Web;") (List.mem_cons_of_mem _ wd_1_15)
  have ww1 := hts (.fieldLink RX5 65 "SafeBlocks$Web" "nodes" "I") (List.mem_cons_of_mem _ wd_10_0)
  have ww2 := hts (.fieldLink RX5 121 "SafeBlocks$Web" "lands" "LSafeBlocks$Names;") (List.mem_cons_of_mem _ wd_18_8)
  have hiX5 : ∀ w ∈ u_ws RX5 TX5 6, w ∈ wAll yX5_mendOfAll cX5_mendOfAll 3 (some .int) := fun w h => List.mem_cons_of_mem _ (inlX5 w h)
  have hiX4 : ∀ w ∈ u_ws RX4 TX4 16, w ∈ wAll yX5_mendOfAll cX5_mendOfAll 3 (some .int) := fun w h => List.mem_cons_of_mem _ (inlX4 w h)
  unfold SB_m_mendOfAll at hf
  refine lv_iconst (v := 0) hx hb dX5_mendOfAll_0 (by decide) ?_
  refine lv_istore_n (lv' := [(1, .int 0), (0, .ref (A 0))]) hx hb dX5_mendOfAll_1 rfl hl (by decide) rfl (fun ls hl => ?_)
  refine lv_iconst (v := 0) hx hb dX5_mendOfAll_2 (by decide) ?_
  refine lv_istore_n (lv' := [(2, .int 0), (1, .int 0), (0, .ref (A 0))]) hx hb dX5_mendOfAll_3 rfl hl (by decide) rfl (fun ls hl => ?_)
  have hlp4 : ∀ (n : Nat) (v1 : Int32) (v2 : Int32), iter (fun p : Int32 × Int32 => SB_m_mendOfAll_s4 x p.1 p.2) n (v1, v2) = some r0 → ∀ (ls : Array Slot), lv_has ls 3 [(0, .ref (A 0)), (1, .int v1), (2, .int v2)] → W p l e ({ frames := 3, cells := 0, slots := 0, locals := 85 } : Room) s m args below meth c s.heap [] 0 0 (MQ below (QRi s.heap r0) args s 0 0 NoA) (F0 m 4 ls []) := by
    intro  n
    induction n with
    | zero => intro v1 v2 hf; exact iter_zero hf
    | succ n ih1 =>
      intro v1 v2 hf ls hl
      obtain ⟨q1, hf, hk1⟩ := iter_succ hf
      have hf : SB_m_mendOfAll_s4 x v1 v2 = some q1 := hf
      unfold SB_m_mendOfAll_s4 at hf
      refine lv_iload_n hx hb dX5_mendOfAll_4 rfl (lv_at hl 2 rfl) ?_
      refine lv_aload_n hx hb dX5_mendOfAll_5 rfl (lv_at hl 0 rfl) ?_
      refine va_get (D := (dC, dI)) (ci := 5) (v := .ref (A 1)) (C := RX5) (T := TX5) (N := 6) hx hb hts hiX5 hown hK hP 0 rfl rfl 0 (by decide) ww0 (fun _ h9 => h9) rfl dX5_mendOfAll_6 ?_
      refine va_get (D := (dC, dI)) (ci := 4) (v := .int (Wb_nodes (SB_now x))) (C := RX4) (T := TX4) (N := 16) hx hb hts hiX4 hown hK hP 1 rfl rfl 10 (by decide) ww1 (fun _ h9 => h9) rfl dX5_mendOfAll_9 ?_
      refine kg_icmp_ge (tgt := 43) hx hb hf dX5_mendOfAll_12 (by decide) (fun hc hf => ?_) (fun hc hf => ?_)
      · obtain ⟨qq, hf, hqq⟩ := omap_some hf
        have hkq : qq = r0 := by rw [← hqq] at hk1; exact hk1
        rw [hkq] at hf
        clear hkq hqq
        refine lv_iload_n hx hb dX5_mendOfAll_43 rfl (lv_at hl 1 rfl) ?_
        obtain rfl := Option.some.inj hf
        exact kg_iretR hx hb hr hlk rfl dX5_mendOfAll_44
      · refine lv_aload_n hx hb dX5_mendOfAll_15 rfl (lv_at hl 0 rfl) ?_
        refine va_get (D := (dC, dI)) (ci := 5) (v := .ref (A 1)) (C := RX5) (T := TX5) (N := 6) hx hb hts hiX5 hown hK hP 0 rfl rfl 0 (by decide) ww0 (fun _ h9 => h9) rfl dX5_mendOfAll_16 ?_
        refine va_get (D := (dC, dI)) (ci := 4) (v := .ref (A 14)) (C := RX4) (T := TX4) (N := 16) hx hb hts hiX4 hown hK hP 1 rfl rfl 8 (by decide) ww2 (fun _ h9 => h9) rfl dX5_mendOfAll_19 ?_
        refine lv_iload_n hx hb dX5_mendOfAll_22 rfl (lv_at hl 2 rfl) ?_
        obtain ⟨g23, hc, hf⟩ := ob_bind hf
        have hPc : va_P (dC, dI) vwCl (wNm cI cJ 32 (fun i => A (i + 14)) (Wb_lands (SB_now x))) s.heap := hP.sub [14, 15, 16, 17, 18] rfl
        refine kg_retRi (va_runV (As := [.int v2]) (rest := []) ⟨hx, hb, hml, hown, hts⟩ (c_X1_lives l dC dI cI cJ (fun i => A (i + 14)) s.heap 32 (Wb_lands (SB_now x)) v2 _ hc) (cwV 1 hts (gw_V wd_6_18 wd_23_17 wd_6_16 wd_6_17 wd_2_20) rfl rfl rfl qX1_lives ⟨Nat.le_of_ble_eq_true rfl, Nat.le_of_ble_eq_true rfl⟩) (kg_preVR (ci := 1) (q := (RX1, TX1, 6)) (q0 := 0) hPc hK hN rfl rfl) rfl rfl hl.1 rfl (lv_room (Nat.le_of_ble_eq_true rfl)) dX5_mendOfAll_23 ⟨Nat.zero_le _, Nat.zero_le _⟩) ?_
        refine kg_b_eq (tgt := 37) hx hb hf dX5_mendOfAll_26 (by decide) (fun hc hf => ?_) (fun hc hf => ?_)
        · refine lv_iinc (v := (v2 + 1)) (lv' := [(2, .int (v2 + 1)), (0, .ref (A 0)), (1, .int v1)]) hx hb dX5_mendOfAll_37 hl (k := 2) rfl rfl (by decide) rfl (fun ls hl => ?_)
          refine lv_goto (tgt := 4) hx hb dX5_mendOfAll_40 (by decide) ?_
          obtain rfl := Option.some.inj hf
          exact ih1 v1 (v2 + 1) hk1 _ (lv_sub hl [1, 2, 0] rfl)
        · refine lv_iload_n hx hb dX5_mendOfAll_29 rfl (lv_at hl 1 rfl) ?_
          refine lv_aload_n hx hb dX5_mendOfAll_30 rfl (lv_at hl 0 rfl) ?_
          refine lv_iload_n hx hb dX5_mendOfAll_31 rfl (lv_at hl 2 rfl) ?_
          obtain ⟨g32, hc, hf⟩ := ob_bind hf
          have hPc : va_P (dC, dI) vwCl (wSB cI cJ A x) s.heap := hP
          refine kg_retRi (va_runV (As := [.int v2]) (rest := [.int v1]) ⟨hx, hb, hml, hown, hts⟩ (c_X5_mendOf l dC dI cI cJ A s.heap x v2 _ hc) (cwV 1 hts (gw_V wd_27_18 wd_27_15 wd_27_16 wd_27_17 wd_1_2) rfl rfl rfl qX5_mendOf ⟨Nat.le_of_ble_eq_true rfl, Nat.le_of_ble_eq_true rfl⟩) (kg_preVR (ci := 5) (q := (RX5, TX5, 6)) (q0 := 0) hPc hK hN rfl rfl) rfl rfl hl.1 rfl (lv_room (Nat.le_of_ble_eq_true rfl)) dX5_mendOfAll_32 ⟨Nat.zero_le _, Nat.zero_le _⟩) ?_
          refine lv_iadd hx hb dX5_mendOfAll_35 ?_
          refine lv_istore_n (lv' := [(1, .int (v1 + g32)), (0, .ref (A 0)), (2, .int v2)]) hx hb dX5_mendOfAll_36 rfl hl (by decide) rfl (fun ls hl => ?_)
          refine lv_iinc (v := (v2 + 1)) (lv' := [(2, .int (v2 + 1)), (1, .int (v1 + g32)), (0, .ref (A 0))]) hx hb dX5_mendOfAll_37 hl (k := 2) rfl rfl (by decide) rfl (fun ls hl => ?_)
          refine lv_goto (tgt := 4) hx hb dX5_mendOfAll_40 (by decide) ?_
          obtain rfl := Option.some.inj hf
          exact ih1 (v1 + g32) (v2 + 1) hk1 _ (lv_sub hl [2, 1, 0] rfl)
  exact hlp4  FU 0 0 hf _ (lv_sub hl [2, 1, 0] rfl)
set_option maxHeartbeats 4000000 in
set_option maxRecDepth 100000 in
theorem c_X5_look (l : Launch) (dC : Nat → ClassId) (dI : Nat → Nat → Nat) (cI cJ : ClassId) (A : Nat → Nat) (hq : Heap) (x : SBS) (v1 : Int32) (r0 : Int32) (hf : SB_m_look x v1 = some r0) : MRi l yX5_look (wAll yX5_look cX5_look 2 (some .int)) ({ frames := 4, cells := 0, slots := 0, locals := 107 } : Room) [.ref (A 0), .int v1] hq (dC, dI) (vTy cI cJ) (wSB cI cJ A x) r0 := by
  refine kg_metR (cc := cX5_look) (maxL := 2) (ret := (some .int)) (by decide) rfl (Nat.le_of_ble_eq_true rfl) ?_
  intro p e s m args below meth c hx hb hr hts hown hlk hml hH hP hK hN ls hl
  subst hH
  have hl : lv_has ls 2 [(0, .ref (A 0)), (1, .int v1)] := hl
  have ww0 := hts (.fieldLink RX5 12 "SafeBlocks" "now" "LSafeBlocks$Web;") (List.mem_cons_of_mem _ wd_1_15)
  have ww1 := hts (.fieldLink RX5 65 "SafeBlocks$Web" "nodes" "I") (List.mem_cons_of_mem _ wd_10_0)
  have ww2 := hts (.fieldLink RX5 55 "SafeBlocks$Web" "links" "I") (List.mem_cons_of_mem _ wd_9_15)
  have ww3 := hts (.fieldLink RX5 118 "SafeBlocks$Web" "blocks" "LSafeBlocks$Names;") (List.mem_cons_of_mem _ wd_18_7)
  have ww4 := hts (.fieldLink RX5 316 "SafeBlocks$Names" "groups" "I") (List.mem_cons_of_mem _ wd_40_9)
  have ww5 := hts (.fieldLink RX5 121 "SafeBlocks$Web" "lands" "LSafeBlocks$Names;") (List.mem_cons_of_mem _ wd_18_8)
  have ww6 := hts (.fieldLink RX5 99 "SafeBlocks$Web" "parts" "LSafeBlocks$Names;") (List.mem_cons_of_mem _ wd_17_18)
  have ww7 := hts (.fieldLink RX5 29 "SafeBlocks" "book" "LSafeBlocks$PartBook;") (List.mem_cons_of_mem _ wd_2_0)
  have ww8 := hts (.fieldLink RX5 40 "SafeBlocks" "drawn" "I") (List.mem_cons_of_mem _ wd_2_5)
  have ww9 := hts (.fieldLink RX5 22 "SafeBlocks" "forest" "LSafeBlocks$Forest;") (List.mem_cons_of_mem _ wd_1_20)
  have hiX5 : ∀ w ∈ u_ws RX5 TX5 6, w ∈ wAll yX5_look cX5_look 2 (some .int) := fun w h => List.mem_cons_of_mem _ (inlX5 w h)
  have hiX4 : ∀ w ∈ u_ws RX4 TX4 16, w ∈ wAll yX5_look cX5_look 2 (some .int) := fun w h => List.mem_cons_of_mem _ (inlX4 w h)
  have hiX1 : ∀ w ∈ u_ws RX1 TX1 6, w ∈ wAll yX5_look cX5_look 2 (some .int) := fun w h => List.mem_cons_of_mem _ (inlX1 w h)
  unfold SB_m_look at hf
  refine lv_iload_n hx hb dX5_look_0 rfl (lv_at hl 1 rfl) ?_
  by_cases hc0 : v1 = 0
  · rw [if_pos hc0] at hf
    refine lv_tableIn (tgt := 64) (off := 63) hx hb dX5_look_1 (by rw [hc0]; decide) (by rw [hc0]; decide) (by rw [hc0]; rfl) (by decide) ?_
    refine lv_aload_n hx hb dX5_look_64 rfl (lv_at hl 0 rfl) ?_
    refine va_get (D := (dC, dI)) (ci := 5) (v := .ref (A 1)) (C := RX5) (T := TX5) (N := 6) hx hb hts hiX5 hown hK hP 0 rfl rfl 0 (by decide) ww0 (fun _ h9 => h9) rfl dX5_look_65 ?_
    refine va_get (D := (dC, dI)) (ci := 4) (v := .int (Wb_nodes (SB_now x))) (C := RX4) (T := TX4) (N := 16) hx hb hts hiX4 hown hK hP 1 rfl rfl 10 (by decide) ww1 (fun _ h9 => h9) rfl dX5_look_68 ?_
    obtain rfl := Option.some.inj hf
    exact kg_iretR hx hb hr hlk rfl dX5_look_71
  · rw [if_neg hc0] at hf
    by_cases hc1 : v1 = 1
    · rw [if_pos hc1] at hf
      refine lv_tableIn (tgt := 72) (off := 71) hx hb dX5_look_1 (by rw [hc1]; decide) (by rw [hc1]; decide) (by rw [hc1]; rfl) (by decide) ?_
      refine lv_aload_n hx hb dX5_look_72 rfl (lv_at hl 0 rfl) ?_
      refine va_get (D := (dC, dI)) (ci := 5) (v := .ref (A 1)) (C := RX5) (T := TX5) (N := 6) hx hb hts hiX5 hown hK hP 0 rfl rfl 0 (by decide) ww0 (fun _ h9 => h9) rfl dX5_look_73 ?_
      refine va_get (D := (dC, dI)) (ci := 4) (v := .int (Wb_links (SB_now x))) (C := RX4) (T := TX4) (N := 16) hx hb hts hiX4 hown hK hP 1 rfl rfl 11 (by decide) ww2 (fun _ h9 => h9) rfl dX5_look_76 ?_
      obtain rfl := Option.some.inj hf
      exact kg_iretR hx hb hr hlk rfl dX5_look_79
    · rw [if_neg hc1] at hf
      by_cases hc2 : v1 = 2
      · rw [if_pos hc2] at hf
        refine lv_tableIn (tgt := 80) (off := 79) hx hb dX5_look_1 (by rw [hc2]; decide) (by rw [hc2]; decide) (by rw [hc2]; rfl) (by decide) ?_
        refine lv_aload_n hx hb dX5_look_80 rfl (lv_at hl 0 rfl) ?_
        refine va_get (D := (dC, dI)) (ci := 5) (v := .ref (A 1)) (C := RX5) (T := TX5) (N := 6) hx hb hts hiX5 hown hK hP 0 rfl rfl 0 (by decide) ww0 (fun _ h9 => h9) rfl dX5_look_81 ?_
        refine lv_aload_n hx hb dX5_look_84 rfl (lv_at hl 0 rfl) ?_
        refine va_get (D := (dC, dI)) (ci := 5) (v := .ref (A 1)) (C := RX5) (T := TX5) (N := 6) hx hb hts hiX5 hown hK hP 0 rfl rfl 0 (by decide) ww0 (fun _ h9 => h9) rfl dX5_look_85 ?_
        refine va_get (D := (dC, dI)) (ci := 4) (v := .int (Wb_links (SB_now x))) (C := RX4) (T := TX4) (N := 16) hx hb hts hiX4 hown hK hP 1 rfl rfl 11 (by decide) ww2 (fun _ h9 => h9) rfl dX5_look_88 ?_
        obtain ⟨g91, hc, hf⟩ := ob_bind hf
        have hPc : va_P (dC, dI) vwCl (wWb cI cJ (fun i => A (i + 1)) (SB_now x)) s.heap := hP.sub [1, 2, 3, 4, 5, 6, 7, 8, 9, 10, 11, 12, 13, 14, 15, 16, 17, 18, 19, 20, 21, 22, 23] rfl
        refine kg_retRi (va_runV (As := [.int (Wb_links (SB_now x))]) (rest := []) ⟨hx, hb, hml, hown, hts⟩ (c_X4_bridgesAmong l dC dI cI cJ (fun i => A (i + 1)) s.heap (SB_now x) (Wb_links (SB_now x)) _ hc) (cwV 1 hts (gw_V wd_40_14 wd_40_11 wd_40_12 wd_40_13 wd_1_14) rfl rfl rfl qX4_bridgesAmong ⟨Nat.le_of_ble_eq_true rfl, Nat.le_of_ble_eq_true rfl⟩) (kg_preVR (ci := 4) (q := (RX4, TX4, 16)) (q0 := 0) hPc hK hN rfl rfl) rfl rfl hl.1 rfl (lv_room (Nat.le_of_ble_eq_true rfl)) dX5_look_91 ⟨Nat.zero_le _, Nat.zero_le _⟩) ?_
        obtain rfl := Option.some.inj hf
        exact kg_iretR hx hb hr hlk rfl dX5_look_94
      · rw [if_neg hc2] at hf
        by_cases hc3 : v1 = 3
        · rw [if_pos hc3] at hf
          refine lv_tableIn (tgt := 95) (off := 94) hx hb dX5_look_1 (by rw [hc3]; decide) (by rw [hc3]; decide) (by rw [hc3]; rfl) (by decide) ?_
          refine lv_aload_n hx hb dX5_look_95 rfl (lv_at hl 0 rfl) ?_
          refine va_get (D := (dC, dI)) (ci := 5) (v := .ref (A 1)) (C := RX5) (T := TX5) (N := 6) hx hb hts hiX5 hown hK hP 0 rfl rfl 0 (by decide) ww0 (fun _ h9 => h9) rfl dX5_look_96 ?_
          refine va_get (D := (dC, dI)) (ci := 4) (v := .ref (A 9)) (C := RX4) (T := TX4) (N := 16) hx hb hts hiX4 hown hK hP 1 rfl rfl 7 (by decide) ww3 (fun _ h9 => h9) rfl dX5_look_99 ?_
          refine va_get (D := (dC, dI)) (ci := 1) (v := .int (Nm_groups (Wb_blocks (SB_now x)))) (C := RX1) (T := TX1) (N := 6) hx hb hts hiX1 hown hK hP 9 rfl rfl 5 (by decide) ww4 (fun _ h9 => h9) rfl dX5_look_102 ?_
          obtain rfl := Option.some.inj hf
          exact kg_iretR hx hb hr hlk rfl dX5_look_105
        · rw [if_neg hc3] at hf
          by_cases hc4 : v1 = 4
          · rw [if_pos hc4] at hf
            refine lv_tableIn (tgt := 106) (off := 105) hx hb dX5_look_1 (by rw [hc4]; decide) (by rw [hc4]; decide) (by rw [hc4]; rfl) (by decide) ?_
            refine lv_aload_n hx hb dX5_look_106 rfl (lv_at hl 0 rfl) ?_
            refine va_get (D := (dC, dI)) (ci := 5) (v := .ref (A 1)) (C := RX5) (T := TX5) (N := 6) hx hb hts hiX5 hown hK hP 0 rfl rfl 0 (by decide) ww0 (fun _ h9 => h9) rfl dX5_look_107 ?_
            refine va_get (D := (dC, dI)) (ci := 4) (v := .ref (A 14)) (C := RX4) (T := TX4) (N := 16) hx hb hts hiX4 hown hK hP 1 rfl rfl 8 (by decide) ww5 (fun _ h9 => h9) rfl dX5_look_110 ?_
            refine va_get (D := (dC, dI)) (ci := 1) (v := .int (Nm_groups (Wb_lands (SB_now x)))) (C := RX1) (T := TX1) (N := 6) hx hb hts hiX1 hown hK hP 14 rfl rfl 5 (by decide) ww4 (fun _ h9 => h9) rfl dX5_look_113 ?_
            obtain rfl := Option.some.inj hf
            exact kg_iretR hx hb hr hlk rfl dX5_look_116
          · rw [if_neg hc4] at hf
            by_cases hc5 : v1 = 5
            · rw [if_pos hc5] at hf
              refine lv_tableIn (tgt := 117) (off := 116) hx hb dX5_look_1 (by rw [hc5]; decide) (by rw [hc5]; decide) (by rw [hc5]; rfl) (by decide) ?_
              refine lv_aload_n hx hb dX5_look_117 rfl (lv_at hl 0 rfl) ?_
              refine va_get (D := (dC, dI)) (ci := 5) (v := .ref (A 1)) (C := RX5) (T := TX5) (N := 6) hx hb hts hiX5 hown hK hP 0 rfl rfl 0 (by decide) ww0 (fun _ h9 => h9) rfl dX5_look_118 ?_
              refine va_get (D := (dC, dI)) (ci := 4) (v := .ref (A 19)) (C := RX4) (T := TX4) (N := 16) hx hb hts hiX4 hown hK hP 1 rfl rfl 9 (by decide) ww6 (fun _ h9 => h9) rfl dX5_look_121 ?_
              refine va_get (D := (dC, dI)) (ci := 1) (v := .int (Nm_groups (Wb_parts (SB_now x)))) (C := RX1) (T := TX1) (N := 6) hx hb hts hiX1 hown hK hP 19 rfl rfl 5 (by decide) ww4 (fun _ h9 => h9) rfl dX5_look_124 ?_
              obtain rfl := Option.some.inj hf
              exact kg_iretR hx hb hr hlk rfl dX5_look_127
            · rw [if_neg hc5] at hf
              by_cases hc6 : v1 = 6
              · rw [if_pos hc6] at hf
                refine lv_tableIn (tgt := 128) (off := 127) hx hb dX5_look_1 (by rw [hc6]; decide) (by rw [hc6]; decide) (by rw [hc6]; rfl) (by decide) ?_
                refine lv_aload_n hx hb dX5_look_128 rfl (lv_at hl 0 rfl) ?_
                refine va_get (D := (dC, dI)) (ci := 5) (v := .ref (A 59)) (C := RX5) (T := TX5) (N := 6) hx hb hts hiX5 hown hK hP 0 rfl rfl 3 (by decide) ww7 (fun _ h9 => h9) rfl dX5_look_129 ?_
                obtain ⟨g132, hc, hf⟩ := ob_bind hf
                have hPc : va_P (dC, dI) vwCl (wPb cI cJ (fun i => A (i + 59)) (SB_book x)) s.heap := hP.sub [59, 60, 61, 62, 63] rfl
                refine kg_retRi (va_runV (As := []) (rest := []) ⟨hx, hb, hml, hown, hts⟩ (c_X2_allCuts l dC dI cI cJ (fun i => A (i + 59)) s.heap (SB_book x) _ hc) (cwV 0 hts (gw_V wd_43_19 wd_43_16 wd_43_17 wd_43_18 wd_1_23) rfl rfl rfl qX2_allCuts ⟨Nat.le_of_ble_eq_true rfl, Nat.le_of_ble_eq_true rfl⟩) (kg_preVR (ci := 2) (q := (RX2, TX2, 7)) (q0 := 0) hPc hK hN rfl rfl) rfl rfl hl.1 rfl (lv_room (Nat.le_of_ble_eq_true rfl)) dX5_look_132 ⟨Nat.zero_le _, Nat.zero_le _⟩) ?_
                obtain rfl := Option.some.inj hf
                exact kg_iretR hx hb hr hlk rfl dX5_look_135
              · rw [if_neg hc6] at hf
                by_cases hc7 : v1 = 7
                · rw [if_pos hc7] at hf
                  refine lv_tableIn (tgt := 136) (off := 135) hx hb dX5_look_1 (by rw [hc7]; decide) (by rw [hc7]; decide) (by rw [hc7]; rfl) (by decide) ?_
                  refine lv_aload_n hx hb dX5_look_136 rfl (lv_at hl 0 rfl) ?_
                  refine va_get (D := (dC, dI)) (ci := 5) (v := .ref (A 1)) (C := RX5) (T := TX5) (N := 6) hx hb hts hiX5 hown hK hP 0 rfl rfl 0 (by decide) ww0 (fun _ h9 => h9) rfl dX5_look_137 ?_
                  refine va_get (D := (dC, dI)) (ci := 4) (v := .ref (A 14)) (C := RX4) (T := TX4) (N := 16) hx hb hts hiX4 hown hK hP 1 rfl rfl 8 (by decide) ww5 (fun _ h9 => h9) rfl dX5_look_140 ?_
                  obtain ⟨g143, hc, hf⟩ := ob_bind hf
                  have hPc : va_P (dC, dI) vwCl (wNm cI cJ 32 (fun i => A (i + 14)) (Wb_lands (SB_now x))) s.heap := hP.sub [14, 15, 16, 17, 18] rfl
                  refine kg_retRi (va_runV (As := []) (rest := []) ⟨hx, hb, hml, hown, hts⟩ (c_X1_pairs l dC dI cI cJ (fun i => A (i + 14)) s.heap 32 (Wb_lands (SB_now x)) _ hc) (cwV 0 hts (gw_V wd_43_23 wd_43_20 wd_43_21 wd_43_22 wd_2_20) rfl rfl rfl qX1_pairs ⟨Nat.le_of_ble_eq_true rfl, Nat.le_of_ble_eq_true rfl⟩) (kg_preVR (ci := 1) (q := (RX1, TX1, 6)) (q0 := 0) hPc hK hN rfl rfl) rfl rfl hl.1 rfl (lv_room (Nat.le_of_ble_eq_true rfl)) dX5_look_143 ⟨Nat.zero_le _, Nat.zero_le _⟩) ?_
                  refine lv_aload_n hx hb dX5_look_146 rfl (lv_at hl 0 rfl) ?_
                  refine va_get (D := (dC, dI)) (ci := 5) (v := .ref (A 1)) (C := RX5) (T := TX5) (N := 6) hx hb hts hiX5 hown hK hP 0 rfl rfl 0 (by decide) ww0 (fun _ h9 => h9) rfl dX5_look_147 ?_
                  refine va_get (D := (dC, dI)) (ci := 4) (v := .ref (A 9)) (C := RX4) (T := TX4) (N := 16) hx hb hts hiX4 hown hK hP 1 rfl rfl 7 (by decide) ww3 (fun _ h9 => h9) rfl dX5_look_150 ?_
                  obtain ⟨g153, hc, hf⟩ := ob_bind hf
                  have hPc : va_P (dC, dI) vwCl (wNm cI cJ 32 (fun i => A (i + 9)) (Wb_blocks (SB_now x))) s.heap := hP.sub [9, 10, 11, 12, 13] rfl
                  refine kg_retRi (va_runV (As := []) (rest := [.int g143]) ⟨hx, hb, hml, hown, hts⟩ (c_X1_pairs l dC dI cI cJ (fun i => A (i + 9)) s.heap 32 (Wb_blocks (SB_now x)) _ hc) (cwV 0 hts (gw_V wd_43_23 wd_43_20 wd_43_21 wd_43_22 wd_2_20) rfl rfl rfl qX1_pairs ⟨Nat.le_of_ble_eq_true rfl, Nat.le_of_ble_eq_true rfl⟩) (kg_preVR (ci := 1) (q := (RX1, TX1, 6)) (q0 := 0) hPc hK hN rfl rfl) rfl rfl hl.1 rfl (lv_room (Nat.le_of_ble_eq_true rfl)) dX5_look_153 ⟨Nat.zero_le _, Nat.zero_le _⟩) ?_
                  refine lv_isub hx hb dX5_look_156 ?_
                  obtain rfl := Option.some.inj hf
                  exact kg_iretR hx hb hr hlk rfl dX5_look_157
                · rw [if_neg hc7] at hf
                  by_cases hc8 : v1 = 8
                  · rw [if_pos hc8] at hf
                    refine lv_tableIn (tgt := 158) (off := 157) hx hb dX5_look_1 (by rw [hc8]; decide) (by rw [hc8]; decide) (by rw [hc8]; rfl) (by decide) ?_
                    refine lv_aload_n hx hb dX5_look_158 rfl (lv_at hl 0 rfl) ?_
                    obtain ⟨g159, hc, hf⟩ := ob_bind hf
                    have hPc : va_P (dC, dI) vwCl (wSB cI cJ A x) s.heap := hP
                    refine kg_retRi (va_runV (As := []) (rest := []) ⟨hx, hb, hml, hown, hts⟩ (c_X5_mendOfAll l dC dI cI cJ A s.heap x _ hc) (cwV 0 hts (gw_V wd_44_4 wd_44_1 wd_44_2 wd_44_3 wd_1_2) rfl rfl rfl qX5_mendOfAll ⟨Nat.le_of_ble_eq_true rfl, Nat.le_of_ble_eq_true rfl⟩) (kg_preVR (ci := 5) (q := (RX5, TX5, 6)) (q0 := 0) hPc hK hN rfl rfl) rfl rfl hl.1 rfl (lv_room (Nat.le_of_ble_eq_true rfl)) dX5_look_159 ⟨Nat.zero_le _, Nat.zero_le _⟩) ?_
                    obtain rfl := Option.some.inj hf
                    exact kg_iretR hx hb hr hlk rfl dX5_look_162
                  · rw [if_neg hc8] at hf
                    by_cases hc9 : v1 = 9
                    · rw [if_pos hc9] at hf
                      refine lv_tableIn (tgt := 163) (off := 162) hx hb dX5_look_1 (by rw [hc9]; decide) (by rw [hc9]; decide) (by rw [hc9]; rfl) (by decide) ?_
                      refine lv_aload_n hx hb dX5_look_163 rfl (lv_at hl 0 rfl) ?_
                      refine va_get (D := (dC, dI)) (ci := 5) (v := .int (SB_drawn x)) (C := RX5) (T := TX5) (N := 6) hx hb hts hiX5 hown hK hP 0 rfl rfl 5 (by decide) ww8 (fun _ h9 => h9) rfl dX5_look_164 ?_
                      obtain rfl := Option.some.inj hf
                      exact kg_iretR hx hb hr hlk rfl dX5_look_167
                    · rw [if_neg hc9] at hf
                      by_cases hc10 : v1 = 10
                      · rw [if_pos hc10] at hf
                        refine lv_tableIn (tgt := 168) (off := 167) hx hb dX5_look_1 (by rw [hc10]; decide) (by rw [hc10]; decide) (by rw [hc10]; rfl) (by decide) ?_
                        refine lv_aload_n hx hb dX5_look_168 rfl (lv_at hl 0 rfl) ?_
                        refine va_get (D := (dC, dI)) (ci := 5) (v := .ref (A 59)) (C := RX5) (T := TX5) (N := 6) hx hb hts hiX5 hown hK hP 0 rfl rfl 3 (by decide) ww7 (fun _ h9 => h9) rfl dX5_look_169 ?_
                        obtain ⟨g172, hc, hf⟩ := ob_bind hf
                        have hPc : va_P (dC, dI) vwCl (wPb cI cJ (fun i => A (i + 59)) (SB_book x)) s.heap := hP.sub [59, 60, 61, 62, 63] rfl
                        refine kg_retRi (va_runV (As := []) (rest := []) ⟨hx, hb, hml, hown, hts⟩ (c_X2_ringPairs l dC dI cI cJ (fun i => A (i + 59)) s.heap (SB_book x) _ hc) (cwV 0 hts (gw_V wd_44_8 wd_44_5 wd_44_6 wd_44_7 wd_1_23) rfl rfl rfl qX2_ringPairs ⟨Nat.le_of_ble_eq_true rfl, Nat.le_of_ble_eq_true rfl⟩) (kg_preVR (ci := 2) (q := (RX2, TX2, 7)) (q0 := 0) hPc hK hN rfl rfl) rfl rfl hl.1 rfl (lv_room (Nat.le_of_ble_eq_true rfl)) dX5_look_172 ⟨Nat.zero_le _, Nat.zero_le _⟩) ?_
                        obtain rfl := Option.some.inj hf
                        exact kg_iretR hx hb hr hlk rfl dX5_look_175
                      · rw [if_neg hc10] at hf
                        by_cases hc11 : v1 = 11
                        · rw [if_pos hc11] at hf
                          refine lv_tableIn (tgt := 176) (off := 175) hx hb dX5_look_1 (by rw [hc11]; decide) (by rw [hc11]; decide) (by rw [hc11]; rfl) (by decide) ?_
                          refine lv_aload_n hx hb dX5_look_176 rfl (lv_at hl 0 rfl) ?_
                          refine va_get (D := (dC, dI)) (ci := 5) (v := .ref (A 47)) (C := RX5) (T := TX5) (N := 6) hx hb hts hiX5 hown hK hP 0 rfl rfl 2 (by decide) ww9 (fun _ h9 => h9) rfl dX5_look_177 ?_
                          obtain ⟨g180, hc, hf⟩ := ob_bind hf
                          have hPc : va_P (dC, dI) vwCl (wFo cI cJ (fun i => A (i + 47)) (SB_forest x)) s.heap := hP.sub [47, 48, 49, 50, 51, 52, 53, 54, 55, 56, 57, 58] rfl
                          refine kg_retRi (va_runV (As := []) (rest := []) ⟨hx, hb, hml, hown, hts⟩ (c_X0_deepest l dC dI cI cJ (fun i => A (i + 47)) s.heap (SB_forest x) _ hc) (cwV 0 hts (gw_V wd_44_13 wd_44_10 wd_44_11 wd_44_12 wd_1_19) rfl rfl rfl qX0_deepest ⟨Nat.le_of_ble_eq_true rfl, Nat.le_of_ble_eq_true rfl⟩) (kg_preVR (ci := 0) (q := (RX0, TX0, 13)) (q0 := 0) hPc hK hN rfl rfl) rfl rfl hl.1 rfl (lv_room (Nat.le_of_ble_eq_true rfl)) dX5_look_180 ⟨Nat.zero_le _, Nat.zero_le _⟩) ?_
                          obtain rfl := Option.some.inj hf
                          exact kg_iretR hx hb hr hlk rfl dX5_look_183
                        · rw [if_neg hc11] at hf
                          have ehc0 := ne_toInt hc0 (k := 0) (by decide)
                          have ehc1 := ne_toInt hc1 (k := 1) (by decide)
                          have ehc2 := ne_toInt hc2 (k := 2) (by decide)
                          have ehc3 := ne_toInt hc3 (k := 3) (by decide)
                          have ehc4 := ne_toInt hc4 (k := 4) (by decide)
                          have ehc5 := ne_toInt hc5 (k := 5) (by decide)
                          have ehc6 := ne_toInt hc6 (k := 6) (by decide)
                          have ehc7 := ne_toInt hc7 (k := 7) (by decide)
                          have ehc8 := ne_toInt hc8 (k := 8) (by decide)
                          have ehc9 := ne_toInt hc9 (k := 9) (by decide)
                          have ehc10 := ne_toInt hc10 (k := 10) (by decide)
                          have ehc11 := ne_toInt hc11 (k := 11) (by decide)
                          refine lv_tableOut (tgt := 184) hx hb dX5_look_1 (by omega) (by decide) ?_
                          refine lv_bipush (v := (-10)) hx hb dX5_look_184 (by decide) ?_
                          obtain rfl := Option.some.inj hf
                          exact kg_iretR hx hb hr hlk rfl dX5_look_186
