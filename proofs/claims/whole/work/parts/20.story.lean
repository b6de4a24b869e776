theorem wd_31_8 : (.fieldLink RX5 223 "SafeBlocks$Names" "items" "I" : Cond) ∈ wsL_law := mr_31 _ (List.mem_of_getElem? (i := 8) rfl)
theorem wd_31_9 : (.fieldLink RX5 226 "SafeBlocks$Names" "endedBy" "[I" : Cond) ∈ wsL_law := mr_31 _ (List.mem_of_getElem? (i := 9) rfl)
theorem wd_31_10 : (.fieldLink RX5 227 "SafeBlocks$Names" "into" "[I" : Cond) ∈ wsL_law := mr_31 _ (List.mem_of_getElem? (i := 10) rfl)
theorem wd_31_11 : (.methodLink RX5 219 yX5_namesOf : Cond) ∈ wsL_law := mr_31 _ (List.mem_of_getElem? (i := 11) rfl)
theorem wd_31_12 : (.instanceMethod yX5_namesOf : Cond) ∈ wsL_law := mr_31 _ (List.mem_of_getElem? (i := 12) rfl)
theorem wd_31_13 : (.selects RX5 yX5_namesOf yX5_namesOf : Cond) ∈ wsL_law := mr_31 _ (List.mem_of_getElem? (i := 13) rfl)
theorem wd_31_14 : (.code yX5_namesOf cX5_namesOf 2 (some (.object "SafeBlocks$Names")) : Cond) ∈ wsL_law := mr_31 _ (List.mem_of_getElem? (i := 14) rfl)
theorem wd_31_15 : (.methodLink RX5 230 yX1_heir : Cond) ∈ wsL_law := mr_31 _ (List.mem_of_getElem? (i := 15) rfl)
theorem wd_31_16 : (.instanceMethod yX1_heir : Cond) ∈ wsL_law := mr_31 _ (List.mem_of_getElem? (i := 16) rfl)
theorem wd_31_17 : (.selects RX1 yX1_heir yX1_heir : Cond) ∈ wsL_law := mr_31 _ (List.mem_of_getElem? (i := 17) rfl)
theorem wd_31_18 : (.code yX1_heir cX1_heir 4 (some .int) : Cond) ∈ wsL_law := mr_31 _ (List.mem_of_getElem? (i := 18) rfl)
theorem qX5_namesOf : yX5_namesOf.cls = RX5 ∧ yX5_namesOf.cls ≠ "java/lang/invoke/MethodHandle" ∧ yX5_namesOf.cls ≠ "java/lang/invoke/VarHandle" ∧ (parseMethodDescriptor yX5_namesOf.desc).map (fun d => d.parameters.length) = some 1 := by decide +kernel
def SB_m_story_0 (x : SBS) (v1 : Int32) (v2 : Int32) (v3 : Int32) : Option Int32 := if v2 < 0 then (some (-1)) else (if v2 < (Nm_items (Wb_blocks (SB_now x))) then (if v3 = 0 then ((Nm_m_lives 32 (Wb_blocks (SB_now x)) v2).bind fun g67 => if g67 = true then (some 1) else (some 0)) else if v3 = 1 then ((rd (Nm_endedBy (Wb_blocks (SB_now x))) 32 v2).bind fun g85 => some g85) else if v3 = 2 then ((rd (Nm_into (Wb_blocks (SB_now x))) 32 v2).bind fun g93 => some g93) else if v3 = 3 then ((rd (Nm_size (Wb_blocks (SB_now x))) 32 v2).bind fun g101 => some g101) else if v3 = 4 then ((Nm_m_heir 32 (Wb_blocks (SB_now x)) v2).bind fun g106 => some g106) else (some (-1))) else (some (-1)))
def SB_m_story_1 (x : SBS) (v1 : Int32) (v2 : Int32) (v3 : Int32) : Option Int32 := if v2 < 0 then (some (-1)) else (if v2 < (Nm_items (Wb_lands (SB_now x))) then (if v3 = 0 then ((Nm_m_lives 32 (Wb_lands (SB_now x)) v2).bind fun g67 => if g67 = true then (some 1) else (some 0)) else if v3 = 1 then ((rd (Nm_endedBy (Wb_lands (SB_now x))) 32 v2).bind fun g85 => some g85) else if v3 = 2 then ((rd (Nm_into (Wb_lands (SB_now x))) 32 v2).bind fun g93 => some g93) else if v3 = 3 then ((rd (Nm_size (Wb_lands (SB_now x))) 32 v2).bind fun g101 => some g101) else if v3 = 4 then ((Nm_m_heir 32 (Wb_lands (SB_now x)) v2).bind fun g106 => some g106) else (some (-1))) else (some (-1)))
def SB_m_story_2 (x : SBS) (v1 : Int32) (v2 : Int32) (v3 : Int32) : Option Int32 := if v2 < 0 then (some (-1)) else (if v2 < (Nm_items (Wb_parts (SB_now x))) then (if v3 = 0 then ((Nm_m_lives 64 (Wb_parts (SB_now x)) v2).bind fun g67 => if g67 = true then (some 1) else (some 0)) else if v3 = 1 then ((rd (Nm_endedBy (Wb_parts (SB_now x))) 64 v2).bind fun g85 => some g85) else if v3 = 2 then ((rd (Nm_into (Wb_parts (SB_now x))) 64 v2).bind fun g93 => some g93) else if v3 = 3 then ((rd (Nm_size (Wb_parts (SB_now x))) 64 v2).bind fun g101 => some g101) else if v3 = 4 then ((Nm_m_heir 64 (Wb_parts (SB_now x)) v2).bind fun g106 => some g106) else (some (-1))) else (some (-1)))
def SB_m_story (x : SBS) (v1 v2 v3 : Int32) : Option Int32 := if v1 = 0 then SB_m_story_0 x v1 v2 v3 else if v1 = 1 then SB_m_story_1 x v1 v2 v3 else if v1 = 2 then SB_m_story_2 x v1 v2 v3 else some (-1)
def nmsA (A : Nat → Nat) (v : Int32) : Option Nat := if v = 0 then some (A 9) else if v = 1 then some (A 14) else if v = 2 then some (A 19) else none
abbrev QRq (Hh : Heap) (r : Option Nat) : Array Value → State → Outcome → State → Prop := va_Qq (fun v (_ : Unit) => v = r) (fun _ t => t.heap = Hh) NoA
section KGQ
variable {p : Program} {l : Launch} {e : Env} {R : Room} {s : State} {m : MethodId} {args : Array Value} {below : List Frame} {meth : Method} {c : Code} {H : Heap} {locs : List Loc} {cells slots : Nat} {Q : State → Prop}
variable {pc : Nat} {ls : Array Slot} {rest st0 : List Value} {cc : ByteArray} {aa : Array Value}
theorem kg_retRq {r : Option Nat} (hr : va_Run p l e R s m args below meth c H locs cells slots 0 0 (F0 m pc ls st0) rest (QRq H r aa) NoA) (kk : W p l e R s m args below meth c H locs cells slots Q (F0 m (pc + 3) ls (va_rf r :: rest))) : W p l e R s m args below meth c H locs cells slots Q (F0 m pc ls st0) := by
  intro T hT X
  obtain ⟨v, st₀, t, T', L, h0, X', hL, e1, e2, ⟨⟨r2, u, hv, hw, hb⟩, -⟩, st⟩ := hr T hT X
  cases hv
  have hw : _ = _ := hw
  subst hw
  have hL0 := NoA.nil hL
  subst hL0
  rw [List.append_nil] at X'
  obtain ⟨t2, a1, b1⟩ := kk T' (e1.trans hb) X'
  exact ⟨t2, st t2 a1, b1⟩
theorem kg_aretR (hx : p.tables.exec = Jvm.exec) (hb : c.code = cc) {v : Value} {r : Option Nat} {nm : String} (hr : meth.sig.returnType = some (.object nm)) (hlocks : meth.locks = false) (hv : va_rf r = v) (hdg : decode cc pc = .ok (.areturn, 1)) : W p l e R s m args below meth c s.heap [] 0 0 (MQ below (QRq s.heap r) args s 0 0 NoA) (F0 m pc ls [v]) := by
  subst hv
  exact W.aret hx hb hr (Or.inl ⟨_, rfl⟩) (by cases r; exact Or.inl rfl; exact Or.inr ⟨_, rfl⟩) (fun t ht _ => ⟨⟨r, (), rfl, rfl, ht⟩, kg_F ht⟩) (fun q h => by cases h) hdg hlocks
end KGQ
set_option maxHeartbeats 4000000 in
set_option maxRecDepth 100000 in
theorem c_X5_namesOf (l : Launch) (dC : Nat → ClassId) (dI : Nat → Nat → Nat) (cI cJ : ClassId) (A : Nat → Nat) (hq : Heap) (x : SBS) (v1 : Int32) : Met l yX5_namesOf (wAll yX5_namesOf cX5_namesOf 2 (some (.object "SafeBlocks$Names"))) ({ frames := 1, cells := 0, slots := 0, locals := 40 } : Room) (PcR [.ref (A 0), .int v1] hq (dC, dI) (vTy cI cJ) (wSB cI cJ A x)) (QRq hq (nmsA A v1)) 0 0 NoA := by
  refine kg_metR (cc := cX5_namesOf) (maxL := 2) (ret := (some (.object "SafeBlocks$Names"))) (by decide) rfl (Nat.le_of_ble_eq_true rfl) ?_
  intro p e s m args below meth c hx hb hr hts hown hlk hml hH hP hK hN ls hl
  subst hH
  have hl : lv_has ls 2 [(0, .ref (A 0)), (1, .int v1)] := hl
  have hi5 : ∀ w ∈ u_ws RX5 TX5 6, w ∈ wAll yX5_namesOf cX5_namesOf 2 (some (.object "SafeBlocks$Names")) := fun w h => List.mem_cons_of_mem _ (inlX5 w h)
  have hi4 : ∀ w ∈ u_ws RX4 TX4 16, w ∈ wAll yX5_namesOf cX5_namesOf 2 (some (.object "SafeBlocks$Names")) := fun w h => List.mem_cons_of_mem _ (inlX4 w h)
  refine lv_iload_n hx hb dX5_namesOf_0 rfl (lv_at hl 1 rfl) ?_
  by_cases hc0 : v1 = 0
  · refine lv_tableIn (tgt := 28) (off := 27) hx hb dX5_namesOf_1 (by rw [hc0]; decide) (by rw [hc0]; decide) (by rw [hc0]; rfl) (by decide) ?_
    refine lv_aload_n hx hb dX5_namesOf_28 rfl (lv_at hl 0 rfl) ?_
    refine va_get (D := (dC, dI)) (ci := 5) (v := .ref (A 1)) (C := RX5) (T := TX5) (N := 6) hx hb hts hi5 hown hK hP 0 rfl rfl 0 (by decide) (hts _ (List.mem_cons_of_mem _ wd_1_15)) (fun _ h9 => h9) rfl dX5_namesOf_29 ?_
    refine va_get (D := (dC, dI)) (ci := 4) (v := .ref (A 9)) (C := RX4) (T := TX4) (N := 16) hx hb hts hi4 hown hK hP 1 rfl rfl 7 (by decide) (hts _ (List.mem_cons_of_mem _ wd_18_7)) (fun _ h9 => h9) rfl dX5_namesOf_32 ?_
    exact kg_aretR hx hb hr hlk (by rw [hc0]; rfl) dX5_namesOf_35
  · skip
    by_cases hc1 : v1 = 1
    · refine lv_tableIn (tgt := 36) (off := 35) hx hb dX5_namesOf_1 (by rw [hc1]; decide) (by rw [hc1]; decide) (by rw [hc1]; rfl) (by decide) ?_
      refine lv_aload_n hx hb dX5_namesOf_36 rfl (lv_at hl 0 rfl) ?_
      refine va_get (D := (dC, dI)) (ci := 5) (v := .ref (A 1)) (C := RX5) (T := TX5) (N := 6) hx hb hts hi5 hown hK hP 0 rfl rfl 0 (by decide) (hts _ (List.mem_cons_of_mem _ wd_1_15)) (fun _ h9 => h9) rfl dX5_namesOf_37 ?_
      refine va_get (D := (dC, dI)) (ci := 4) (v := .ref (A 14)) (C := RX4) (T := TX4) (N := 16) hx hb hts hi4 hown hK hP 1 rfl rfl 8 (by decide) (hts _ (List.mem_cons_of_mem _ wd_18_8)) (fun _ h9 => h9) rfl dX5_namesOf_40 ?_
      exact kg_aretR hx hb hr hlk (by rw [hc1]; rfl) dX5_namesOf_43
    · skip
      by_cases hc2 : v1 = 2
      · refine lv_tableIn (tgt := 44) (off := 43) hx hb dX5_namesOf_1 (by rw [hc2]; decide) (by rw [hc2]; decide) (by rw [hc2]; rfl) (by decide) ?_
        refine lv_aload_n hx hb dX5_namesOf_44 rfl (lv_at hl 0 rfl) ?_
        refine va_get (D := (dC, dI)) (ci := 5) (v := .ref (A 1)) (C := RX5) (T := TX5) (N := 6) hx hb hts hi5 hown hK hP 0 rfl rfl 0 (by decide) (hts _ (List.mem_cons_of_mem _ wd_1_15)) (fun _ h9 => h9) rfl dX5_namesOf_45 ?_
        refine va_get (D := (dC, dI)) (ci := 4) (v := .ref (A 19)) (C := RX4) (T := TX4) (N := 16) hx hb hts hi4 hown hK hP 1 rfl rfl 9 (by decide) (hts _ (List.mem_cons_of_mem _ wd_17_18)) (fun _ h9 => h9) rfl dX5_namesOf_48 ?_
        exact kg_aretR hx hb hr hlk (by rw [hc2]; rfl) dX5_namesOf_51
      · skip
        have e0 := ne_toInt hc0 (k := 0) (by decide)
        have e1 := ne_toInt hc1 (k := 1) (by decide)
        have e2 := ne_toInt hc2 (k := 2) (by decide)
        refine lv_tableOut (tgt := 52) hx hb dX5_namesOf_1 (by omega) (by decide) ?_
        refine lv_null hx hb dX5_namesOf_52 ?_
        exact kg_aretR hx hb hr hlk (by unfold nmsA; rw [if_neg hc0, if_neg hc1, if_neg hc2]; rfl) dX5_namesOf_53
set_option maxHeartbeats 4000000 in
set_option maxRecDepth 100000 in
theorem c_X5_story (l : Launch) (dC : Nat → ClassId) (dI : Nat → Nat → Nat) (cI cJ : ClassId) (A : Nat → Nat) (hq : Heap) (x : SBS) (v1 v2 v3 : Int32) (r0 : Int32) (hf : SB_m_story x v1 v2 v3 = some r0) : MRi l yX5_story (wAll yX5_story cX5_story 5 (some .int)) ({ frames := 3, cells := 0, slots := 0, locals := 80 } : Room) [.ref (A 0), .int v1, .int v2, .int v3] hq (dC, dI) (vTy cI cJ) (wSB cI cJ A x) r0 := by
  refine kg_metR (cc := cX5_story) (maxL := 5) (ret := (some .int)) (by decide) rfl (Nat.le_of_ble_eq_true rfl) ?_
  intro p e s m args below meth c hx hb hr hts hown hlk hml hH hP hK hN ls hl
  subst hH
  have hl : lv_has ls 5 [(0, .ref (A 0)), (1, .int v1), (2, .int v2), (3, .int v3)] := hl
  unfold SB_m_story at hf
  by_cases hkk : v1 = 0
  · rw [if_pos hkk] at hf
    unfold SB_m_story_0 at hf
    have ww0 := hts (.fieldLink RX5 223 "SafeBlocks$Names" "items" "I") (List.mem_cons_of_mem _ wd_31_8)
    have ww1 := hts (.fieldLink RX5 226 "SafeBlocks$Names" "endedBy" "[I") (List.mem_cons_of_mem _ wd_31_9)
    have ww2 := hts (.fieldLink RX5 227 "SafeBlocks$Names" "into" "[I") (List.mem_cons_of_mem _ wd_31_10)
    have ww3 := hts (.fieldLink RX5 124 "SafeBlocks$Names" "size" "[I") (List.mem_cons_of_mem _ wd_18_9)
    have hiX1 : ∀ w ∈ u_ws RX1 TX1 6, w ∈ wAll yX5_story cX5_story 5 (some .int) := fun w h => List.mem_cons_of_mem _ (inlX1 w h)
    refine lv_aload_n hx hb dX5_story_0 rfl (lv_at hl 0 rfl) ?_
    refine lv_iload_n hx hb dX5_story_1 rfl (lv_at hl 1 rfl) ?_
    refine kg_retRq (va_runV (As := [.int v1]) (rest := []) ⟨hx, hb, hml, hown, hts⟩ (c_X5_namesOf l dC dI cI cJ A s.heap x v1) (cwV 1 hts (gw_V wd_31_14 wd_31_11 wd_31_12 wd_31_13 wd_1_2) rfl rfl rfl qX5_namesOf ⟨Nat.le_of_ble_eq_true rfl, Nat.le_of_ble_eq_true rfl⟩) (kg_preVR (ci := 5) (q := (RX5, TX5, 6)) (q0 := 0) hP hK hN rfl rfl) rfl rfl hl.1 rfl (lv_room (Nat.le_of_ble_eq_true rfl)) dX5_story_2 ⟨Nat.zero_le _, Nat.zero_le _⟩) ?_
    refine W.eq (g2 := F0 m 5 ls [.ref (A 9)]) (by rw [show nmsA A v1 = some (A 9) from by rw [hkk]; rfl]; rfl) ?_
    refine lv_astore (lv' := [(4, .ref (A 9)), (0, .ref (A 0)), (1, .int v1), (2, .int v2), (3, .int v3)]) hx hb dX5_story_5 hl (by decide) rfl (fun ls hl => ?_)
    refine lv_aload hx hb dX5_story_7 (lv_at hl 0 rfl) ?_
    refine lv_ifnull hx hb dX5_story_9 ?_
    refine lv_iload_n hx hb dX5_story_12 rfl (lv_at hl 3 rfl) ?_
    refine kg_if_lt (tgt := 25) hx hb hf dX5_story_13 (by decide) (fun hc hf => ?_) (fun hc hf => ?_)
    · refine lv_iconst (v := (-1)) hx hb dX5_story_25 (by decide) ?_
      obtain rfl := Option.some.inj hf
      exact kg_iretR hx hb hr hlk rfl dX5_story_26
    · refine lv_iload_n hx hb dX5_story_16 rfl (lv_at hl 3 rfl) ?_
      refine lv_aload hx hb dX5_story_17 (lv_at hl 0 rfl) ?_
      refine va_get (D := (dC, dI)) (ci := 1) (v := .int (Nm_items (Wb_blocks (SB_now x)))) (C := RX1) (T := TX1) (N := 6) hx hb hts hiX1 hown hK hP 9 rfl rfl 4 (by decide) ww0 (fun _ h9 => h9) rfl dX5_story_19 ?_
      refine kg_icmp_lt (tgt := 27) hx hb hf dX5_story_22 (by decide) (fun hc hf => ?_) (fun hc hf => ?_)
      · refine lv_iload_n hx hb dX5_story_27 rfl (lv_at hl 4 rfl) ?_
        by_cases hc0 : v3 = 0
        · rw [if_pos hc0] at hf
          refine lv_tableIn (tgt := 64) (off := 36) hx hb dX5_story_28 (by rw [hc0]; decide) (by rw [hc0]; decide) (by rw [hc0]; rfl) (by decide) ?_
          refine lv_aload hx hb dX5_story_64 (lv_at hl 0 rfl) ?_
          refine lv_iload_n hx hb dX5_story_66 rfl (lv_at hl 3 rfl) ?_
          obtain ⟨g67, hc, hf⟩ := ob_bind hf
          have hPc : va_P (dC, dI) vwCl (wNm cI cJ 32 (fun i => A (i + 9)) (Wb_blocks (SB_now x))) s.heap := hP.sub [9, 10, 11, 12, 13] rfl
          refine kg_retRi (va_runV (As := [.int v2]) (rest := []) ⟨hx, hb, hml, hown, hts⟩ (c_X1_lives l dC dI cI cJ (fun i => A (i + 9)) s.heap 32 (Wb_blocks (SB_now x)) v2 _ hc) (cwV 1 hts (gw_V wd_6_18 wd_23_17 wd_6_16 wd_6_17 wd_2_20) rfl rfl rfl qX1_lives ⟨Nat.le_of_ble_eq_true rfl, Nat.le_of_ble_eq_true rfl⟩) (kg_preVR (ci := 1) (q := (RX1, TX1, 6)) (q0 := 0) hPc hK hN rfl rfl) rfl rfl hl.1 rfl (lv_room (Nat.le_of_ble_eq_true rfl)) dX5_story_67 ⟨Nat.zero_le _, Nat.zero_le _⟩) ?_
          refine kg_b_eq (tgt := 77) hx hb hf dX5_story_70 (by decide) (fun hc hf => ?_) (fun hc hf => ?_)
          · refine lv_iconst (v := 0) hx hb dX5_story_77 (by decide) ?_
            obtain rfl := Option.some.inj hf
            exact kg_iretR hx hb hr hlk rfl dX5_story_78
          · refine lv_iconst (v := 1) hx hb dX5_story_73 (by decide) ?_
            refine lv_goto (tgt := 78) hx hb dX5_story_74 (by decide) ?_
            obtain rfl := Option.some.inj hf
            exact kg_iretR hx hb hr hlk rfl dX5_story_78
        · rw [if_neg hc0] at hf
          by_cases hc1 : v3 = 1
          · rw [if_pos hc1] at hf
            refine lv_tableIn (tgt := 79) (off := 51) hx hb dX5_story_28 (by rw [hc1]; decide) (by rw [hc1]; decide) (by rw [hc1]; rfl) (by decide) ?_
            refine lv_aload hx hb dX5_story_79 (lv_at hl 0 rfl) ?_
            refine va_get (D := (dC, dI)) (ci := 1) (v := .ref (A 12)) (C := RX1) (T := TX1) (N := 6) hx hb hts hiX1 hown hK hP 9 rfl rfl 2 (by decide) ww1 (fun _ h9 => h9) rfl dX5_story_81 ?_
            refine lv_iload_n hx hb dX5_story_84 rfl (lv_at hl 3 rfl) ?_
            obtain ⟨g85, hv, hf⟩ := ob_bind hf
            refine kg_iald hx hb hK hP 12 0 rfl rfl hv dX5_story_85 ?_
            obtain rfl := Option.some.inj hf
            exact kg_iretR hx hb hr hlk rfl dX5_story_86
          · rw [if_neg hc1] at hf
            by_cases hc2 : v3 = 2
            · rw [if_pos hc2] at hf
              refine lv_tableIn (tgt := 87) (off := 59) hx hb dX5_story_28 (by rw [hc2]; decide) (by rw [hc2]; decide) (by rw [hc2]; rfl) (by decide) ?_
              refine lv_aload hx hb dX5_story_87 (lv_at hl 0 rfl) ?_
              refine va_get (D := (dC, dI)) (ci := 1) (v := .ref (A 13)) (C := RX1) (T := TX1) (N := 6) hx hb hts hiX1 hown hK hP 9 rfl rfl 3 (by decide) ww2 (fun _ h9 => h9) rfl dX5_story_89 ?_
              refine lv_iload_n hx hb dX5_story_92 rfl (lv_at hl 3 rfl) ?_
              obtain ⟨g93, hv, hf⟩ := ob_bind hf
              refine kg_iald hx hb hK hP 13 0 rfl rfl hv dX5_story_93 ?_
              obtain rfl := Option.some.inj hf
              exact kg_iretR hx hb hr hlk rfl dX5_story_94
            · rw [if_neg hc2] at hf
              by_cases hc3 : v3 = 3
              · rw [if_pos hc3] at hf
                refine lv_tableIn (tgt := 95) (off := 67) hx hb dX5_story_28 (by rw [hc3]; decide) (by rw [hc3]; decide) (by rw [hc3]; rfl) (by decide) ?_
                refine lv_aload hx hb dX5_story_95 (lv_at hl 0 rfl) ?_
                refine va_get (D := (dC, dI)) (ci := 1) (v := .ref (A 11)) (C := RX1) (T := TX1) (N := 6) hx hb hts hiX1 hown hK hP 9 rfl rfl 1 (by decide) ww3 (fun _ h9 => h9) rfl dX5_story_97 ?_
                refine lv_iload_n hx hb dX5_story_100 rfl (lv_at hl 3 rfl) ?_
                obtain ⟨g101, hv, hf⟩ := ob_bind hf
                refine kg_iald hx hb hK hP 11 0 rfl rfl hv dX5_story_101 ?_
                obtain rfl := Option.some.inj hf
                exact kg_iretR hx hb hr hlk rfl dX5_story_102
              · rw [if_neg hc3] at hf
                by_cases hc4 : v3 = 4
                · rw [if_pos hc4] at hf
                  refine lv_tableIn (tgt := 103) (off := 75) hx hb dX5_story_28 (by rw [hc4]; decide) (by rw [hc4]; decide) (by rw [hc4]; rfl) (by decide) ?_
                  refine lv_aload hx hb dX5_story_103 (lv_at hl 0 rfl) ?_
                  refine lv_iload_n hx hb dX5_story_105 rfl (lv_at hl 3 rfl) ?_
                  obtain ⟨g106, hc, hf⟩ := ob_bind hf
                  have hPc : va_P (dC, dI) vwCl (wNm cI cJ 32 (fun i => A (i + 9)) (Wb_blocks (SB_now x))) s.heap := hP.sub [9, 10, 11, 12, 13] rfl
                  refine kg_retRi (va_runV (As := [.int v2]) (rest := []) ⟨hx, hb, hml, hown, hts⟩ (c_X1_heir l dC dI cI cJ (fun i => A (i + 9)) s.heap 32 (Wb_blocks (SB_now x)) v2 _ hc) (cwV 1 hts (gw_V wd_31_18 wd_31_15 wd_31_16 wd_31_17 wd_2_20) rfl rfl rfl qX1_heir ⟨Nat.le_of_ble_eq_true rfl, Nat.le_of_ble_eq_true rfl⟩) (kg_preVR (ci := 1) (q := (RX1, TX1, 6)) (q0 := 0) hPc hK hN rfl rfl) rfl rfl hl.1 rfl (lv_room (Nat.le_of_ble_eq_true rfl)) dX5_story_106 ⟨Nat.zero_le _, Nat.zero_le _⟩) ?_
                  obtain rfl := Option.some.inj hf
                  exact kg_iretR hx hb hr hlk rfl dX5_story_109
                · rw [if_neg hc4] at hf
                  have ehc0 := ne_toInt hc0 (k := 0) (by decide)
                  have ehc1 := ne_toInt hc1 (k := 1) (by decide)
                  have ehc2 := ne_toInt hc2 (k := 2) (by decide)
                  have ehc3 := ne_toInt hc3 (k := 3) (by decide)
                  have ehc4 := ne_toInt hc4 (k := 4) (by decide)
                  refine lv_tableOut (tgt := 110) hx hb dX5_story_28 (by omega) (by decide) ?_
                  refine lv_iconst (v := (-1)) hx hb dX5_story_110 (by decide) ?_
                  obtain rfl := Option.some.inj hf
                  exact kg_iretR hx hb hr hlk rfl dX5_story_111
      · refine lv_iconst (v := (-1)) hx hb dX5_story_25 (by decide) ?_
        obtain rfl := Option.some.inj hf
        exact kg_iretR hx hb hr hlk rfl dX5_story_26
  · rw [if_neg hkk] at hf
    have hk0 := hkk
    by_cases hkk : v1 = 1
    · rw [if_pos hkk] at hf
      unfold SB_m_story_1 at hf
      have ww0 := hts (.fieldLink RX5 223 "SafeBlocks$Names" "items" "I") (List.mem_cons_of_mem _ wd_31_8)
      have ww1 := hts (.fieldLink RX5 226 "SafeBlocks$Names" "endedBy" "[I") (List.mem_cons_of_mem _ wd_31_9)
      have ww2 := hts (.fieldLink RX5 227 "SafeBlocks$Names" "into" "[I") (List.mem_cons_of_mem _ wd_31_10)
      have ww3 := hts (.fieldLink RX5 124 "SafeBlocks$Names" "size" "[I") (List.mem_cons_of_mem _ wd_18_9)
      have hiX1 : ∀ w ∈ u_ws RX1 TX1 6, w ∈ wAll yX5_story cX5_story 5 (some .int) := fun w h => List.mem_cons_of_mem _ (inlX1 w h)
      refine lv_aload_n hx hb dX5_story_0 rfl (lv_at hl 0 rfl) ?_
      refine lv_iload_n hx hb dX5_story_1 rfl (lv_at hl 1 rfl) ?_
      refine kg_retRq (va_runV (As := [.int v1]) (rest := []) ⟨hx, hb, hml, hown, hts⟩ (c_X5_namesOf l dC dI cI cJ A s.heap x v1) (cwV 1 hts (gw_V wd_31_14 wd_31_11 wd_31_12 wd_31_13 wd_1_2) rfl rfl rfl qX5_namesOf ⟨Nat.le_of_ble_eq_true rfl, Nat.le_of_ble_eq_true rfl⟩) (kg_preVR (ci := 5) (q := (RX5, TX5, 6)) (q0 := 0) hP hK hN rfl rfl) rfl rfl hl.1 rfl (lv_room (Nat.le_of_ble_eq_true rfl)) dX5_story_2 ⟨Nat.zero_le _, Nat.zero_le _⟩) ?_
      refine W.eq (g2 := F0 m 5 ls [.ref (A 14)]) (by rw [show nmsA A v1 = some (A 14) from by rw [hkk]; rfl]; rfl) ?_
      refine lv_astore (lv' := [(4, .ref (A 14)), (0, .ref (A 0)), (1, .int v1), (2, .int v2), (3, .int v3)]) hx hb dX5_story_5 hl (by decide) rfl (fun ls hl => ?_)
      refine lv_aload hx hb dX5_story_7 (lv_at hl 0 rfl) ?_
      refine lv_ifnull hx hb dX5_story_9 ?_
      refine lv_iload_n hx hb dX5_story_12 rfl (lv_at hl 3 rfl) ?_
      refine kg_if_lt (tgt := 25) hx hb hf dX5_story_13 (by decide) (fun hc hf => ?_) (fun hc hf => ?_)
      · refine lv_iconst (v := (-1)) hx hb dX5_story_25 (by decide) ?_
        obtain rfl := Option.some.inj hf
        exact kg_iretR hx hb hr hlk rfl dX5_story_26
      · refine lv_iload_n hx hb dX5_story_16 rfl (lv_at hl 3 rfl) ?_
        refine lv_aload hx hb dX5_story_17 (lv_at hl 0 rfl) ?_
        refine va_get (D := (dC, dI)) (ci := 1) (v := .int (Nm_items (Wb_lands (SB_now x)))) (C := RX1) (T := TX1) (N := 6) hx hb hts hiX1 hown hK hP 14 rfl rfl 4 (by decide) ww0 (fun _ h9 => h9) rfl dX5_story_19 ?_
        refine kg_icmp_lt (tgt := 27) hx hb hf dX5_story_22 (by decide) (fun hc hf => ?_) (fun hc hf => ?_)
        · refine lv_iload_n hx hb dX5_story_27 rfl (lv_at hl 4 rfl) ?_
          by_cases hc0 : v3 = 0
          · rw [if_pos hc0] at hf
            refine lv_tableIn (tgt := 64) (off := 36) hx hb dX5_story_28 (by rw [hc0]; decide) (by rw [hc0]; decide) (by rw [hc0]; rfl) (by decide) ?_
            refine lv_aload hx hb dX5_story_64 (lv_at hl 0 rfl) ?_
            refine lv_iload_n hx hb dX5_story_66 rfl (lv_at hl 3 rfl) ?_
            obtain ⟨g67, hc, hf⟩ := ob_bind hf
            have hPc : va_P (dC, dI) vwCl (wNm cI cJ 32 (fun i => A (i + 14)) (Wb_lands (SB_now x))) s.heap := hP.sub [14, 15, 16, 17, 18] rfl
            refine kg_retRi (va_runV (As := [.int v2]) (rest := []) ⟨hx, hb, hml, hown, hts⟩ (c_X1_lives l dC dI cI cJ (fun i => A (i + 14)) s.heap 32 (Wb_lands (SB_now x)) v2 _ hc) (cwV 1 hts (gw_V wd_6_18 wd_23_17 wd_6_16 wd_6_17 wd_2_20) rfl rfl rfl qX1_lives ⟨Nat.le_of_ble_eq_true rfl, Nat.le_of_ble_eq_true rfl⟩) (kg_preVR (ci := 1) (q := (RX1, TX1, 6)) (q0 := 0) hPc hK hN rfl rfl) rfl rfl hl.1 rfl (lv_room (Nat.le_of_ble_eq_true rfl)) dX5_story_67 ⟨Nat.zero_le _, Nat.zero_le _⟩) ?_
            refine kg_b_eq (tgt := 77) hx hb hf dX5_story_70 (by decide) (fun hc hf => ?_) (fun hc hf => ?_)
            · refine lv_iconst (v := 0) hx hb dX5_story_77 (by decide) ?_
              obtain rfl := Option.some.inj hf
              exact kg_iretR hx hb hr hlk rfl dX5_story_78
            · refine lv_iconst (v := 1) hx hb dX5_story_73 (by decide) ?_
              refine lv_goto (tgt := 78) hx hb dX5_story_74 (by decide) ?_
              obtain rfl := Option.some.inj hf
              exact kg_iretR hx hb hr hlk rfl dX5_story_78
          · rw [if_neg hc0] at hf
            by_cases hc1 : v3 = 1
            · rw [if_pos hc1] at hf
              refine lv_tableIn (tgt := 79) (off := 51) hx hb dX5_story_28 (by rw [hc1]; decide) (by rw [hc1]; decide) (by rw [hc1]; rfl) (by decide) ?_
              refine lv_aload hx hb dX5_story_79 (lv_at hl 0 rfl) ?_
              refine va_get (D := (dC, dI)) (ci := 1) (v := .ref (A 17)) (C := RX1) (T := TX1) (N := 6) hx hb hts hiX1 hown hK hP 14 rfl rfl 2 (by decide) ww1 (fun _ h9 => h9) rfl dX5_story_81 ?_
              refine lv_iload_n hx hb dX5_story_84 rfl (lv_at hl 3 rfl) ?_
              obtain ⟨g85, hv, hf⟩ := ob_bind hf
              refine kg_iald hx hb hK hP 17 0 rfl rfl hv dX5_story_85 ?_
              obtain rfl := Option.some.inj hf
              exact kg_iretR hx hb hr hlk rfl dX5_story_86
            · rw [if_neg hc1] at hf
              by_cases hc2 : v3 = 2
              · rw [if_pos hc2] at hf
                refine lv_tableIn (tgt := 87) (off := 59) hx hb dX5_story_28 (by rw [hc2]; decide) (by rw [hc2]; decide) (by rw [hc2]; rfl) (by decide) ?_
                refine lv_aload hx hb dX5_story_87 (lv_at hl 0 rfl) ?_
                refine va_get (D := (dC, dI)) (ci := 1) (v := .ref (A 18)) (C := RX1) (T := TX1) (N := 6) hx hb hts hiX1 hown hK hP 14 rfl rfl 3 (by decide) ww2 (fun _ h9 => h9) rfl dX5_story_89 ?_
                refine lv_iload_n hx hb dX5_story_92 rfl (lv_at hl 3 rfl) ?_
                obtain ⟨g93, hv, hf⟩ := ob_bind hf
                refine kg_iald hx hb hK hP 18 0 rfl rfl hv dX5_story_93 ?_
                obtain rfl := Option.some.inj hf
                exact kg_iretR hx hb hr hlk rfl dX5_story_94
              · rw [if_neg hc2] at hf
                by_cases hc3 : v3 = 3
                · rw [if_pos hc3] at hf
                  refine lv_tableIn (tgt := 95) (off := 67) hx hb dX5_story_28 (by rw [hc3]; decide) (by rw [hc3]; decide) (by rw [hc3]; rfl) (by decide) ?_
                  refine lv_aload hx hb dX5_story_95 (lv_at hl 0 rfl) ?_
                  refine va_get (D := (dC, dI)) (ci := 1) (v := .ref (A 16)) (C := RX1) (T := TX1) (N := 6) hx hb hts hiX1 hown hK hP 14 rfl rfl 1 (by decide) ww3 (fun _ h9 => h9) rfl dX5_story_97 ?_
                  refine lv_iload_n hx hb dX5_story_100 rfl (lv_at hl 3 rfl) ?_
                  obtain ⟨g101, hv, hf⟩ := ob_bind hf
                  refine kg_iald hx hb hK hP 16 0 rfl rfl hv dX5_story_101 ?_
                  obtain rfl := Option.some.inj hf
                  exact kg_iretR hx hb hr hlk rfl dX5_story_102
                · rw [if_neg hc3] at hf
                  by_cases hc4 : v3 = 4
                  · rw [if_pos hc4] at hf
                    refine lv_tableIn (tgt := 103) (off := 75) hx hb dX5_story_28 (by rw [hc4]; decide) (by rw [hc4]; decide) (by rw [hc4]; rfl) (by decide) ?_
                    refine lv_aload hx hb dX5_story_103 (lv_at hl 0 rfl) ?_
                    refine lv_iload_n hx hb dX5_story_105 rfl (lv_at hl 3 rfl) ?_
                    obtain ⟨g106, hc, hf⟩ := ob_bind hf
                    have hPc : va_P (dC, dI) vwCl (wNm cI cJ 32 (fun i => A (i + 14)) (Wb_lands (SB_now x))) s.heap := hP.sub [14, 15, 16, 17, 18] rfl
                    refine kg_retRi (va_runV (As := [.int v2]) (rest := []) ⟨hx, hb, hml, hown, hts⟩ (c_X1_heir l dC dI cI cJ (fun i => A (i + 14)) s.heap 32 (Wb_lands (SB_now x)) v2 _ hc) (cwV 1 hts (gw_V wd_31_18 wd_31_15 wd_31_16 wd_31_17 wd_2_20) rfl rfl rfl qX1_heir ⟨Nat.le_of_ble_eq_true rfl, Nat.le_of_ble_eq_true rfl⟩) (kg_preVR (ci := 1) (q := (RX1, TX1, 6)) (q0 := 0) hPc hK hN rfl rfl) rfl rfl hl.1 rfl (lv_room (Nat.le_of_ble_eq_true rfl)) dX5_story_106 ⟨Nat.zero_le _, Nat.zero_le _⟩) ?_
                    obtain rfl := Option.some.inj hf
                    exact kg_iretR hx hb hr hlk rfl dX5_story_109
                  · rw [if_neg hc4] at hf
                    have ehc0 := ne_toInt hc0 (k := 0) (by decide)
                    have ehc1 := ne_toInt hc1 (k := 1) (by decide)
                    have ehc2 := ne_toInt hc2 (k := 2) (by decide)
                    have ehc3 := ne_toInt hc3 (k := 3) (by decide)
                    have ehc4 := ne_toInt hc4 (k := 4) (by decide)
                    refine lv_tableOut (tgt := 110) hx hb dX5_story_28 (by omega) (by decide) ?_
                    refine lv_iconst (v := (-1)) hx hb dX5_story_110 (by decide) ?_
                    obtain rfl := Option.some.inj hf
                    exact kg_iretR hx hb hr hlk rfl dX5_story_111
        · refine lv_iconst (v := (-1)) hx hb dX5_story_25 (by decide) ?_
          obtain rfl := Option.some.inj hf
          exact kg_iretR hx hb hr hlk rfl dX5_story_26
    · rw [if_neg hkk] at hf
      have hk1 := hkk
      by_cases hkk : v1 = 2
      · rw [if_pos hkk] at hf
        unfold SB_m_story_2 at hf
        have ww0 := hts (.fieldLink RX5 223 "SafeBlocks$Names" "items" "I") (List.mem_cons_of_mem _ wd_31_8)
        have ww1 := hts (.fieldLink RX5 226 "SafeBlocks$Names" "endedBy" "[I") (List.mem_cons_of_mem _ wd_31_9)
        have ww2 := hts (.fieldLink RX5 227 "SafeBlocks$Names" "into" "[I") (List.mem_cons_of_mem _ wd_31_10)
        have ww3 := hts (.fieldLink RX5 124 "SafeBlocks$Names" "size" "[I") (List.mem_cons_of_mem _ wd_18_9)
        have hiX1 : ∀ w ∈ u_ws RX1 TX1 6, w ∈ wAll yX5_story cX5_story 5 (some .int) := fun w h => List.mem_cons_of_mem _ (inlX1 w h)
        refine lv_aload_n hx hb dX5_story_0 rfl (lv_at hl 0 rfl) ?_
        refine lv_iload_n hx hb dX5_story_1 rfl (lv_at hl 1 rfl) ?_
        refine kg_retRq (va_runV (As := [.int v1]) (rest := []) ⟨hx, hb, hml, hown, hts⟩ (c_X5_namesOf l dC dI cI cJ A s.heap x v1) (cwV 1 hts (gw_V wd_31_14 wd_31_11 wd_31_12 wd_31_13 wd_1_2) rfl rfl rfl qX5_namesOf ⟨Nat.le_of_ble_eq_true rfl, Nat.le_of_ble_eq_true rfl⟩) (kg_preVR (ci := 5) (q := (RX5, TX5, 6)) (q0 := 0) hP hK hN rfl rfl) rfl rfl hl.1 rfl (lv_room (Nat.le_of_ble_eq_true rfl)) dX5_story_2 ⟨Nat.zero_le _, Nat.zero_le _⟩) ?_
        refine W.eq (g2 := F0 m 5 ls [.ref (A 19)]) (by rw [show nmsA A v1 = some (A 19) from by rw [hkk]; rfl]; rfl) ?_
        refine lv_astore (lv' := [(4, .ref (A 19)), (0, .ref (A 0)), (1, .int v1), (2, .int v2), (3, .int v3)]) hx hb dX5_story_5 hl (by decide) rfl (fun ls hl => ?_)
        refine lv_aload hx hb dX5_story_7 (lv_at hl 0 rfl) ?_
        refine lv_ifnull hx hb dX5_story_9 ?_
        refine lv_iload_n hx hb dX5_story_12 rfl (lv_at hl 3 rfl) ?_
        refine kg_if_lt (tgt := 25) hx hb hf dX5_story_13 (by decide) (fun hc hf => ?_) (fun hc hf => ?_)
        · refine lv_iconst (v := (-1)) hx hb dX5_story_25 (by decide) ?_
          obtain rfl := Option.some.inj hf
          exact kg_iretR hx hb hr hlk rfl dX5_story_26
        · refine lv_iload_n hx hb dX5_story_16 rfl (lv_at hl 3 rfl) ?_
          refine lv_aload hx hb dX5_story_17 (lv_at hl 0 rfl) ?_
          refine va_get (D := (dC, dI)) (ci := 1) (v := .int (Nm_items (Wb_parts (SB_now x)))) (C := RX1) (T := TX1) (N := 6) hx hb hts hiX1 hown hK hP 19 rfl rfl 4 (by decide) ww0 (fun _ h9 => h9) rfl dX5_story_19 ?_
          refine kg_icmp_lt (tgt := 27) hx hb hf dX5_story_22 (by decide) (fun hc hf => ?_) (fun hc hf => ?_)
          · refine lv_iload_n hx hb dX5_story_27 rfl (lv_at hl 4 rfl) ?_
            by_cases hc0 : v3 = 0
            · rw [if_pos hc0] at hf
              refine lv_tableIn (tgt := 64) (off := 36) hx hb dX5_story_28 (by rw [hc0]; decide) (by rw [hc0]; decide) (by rw [hc0]; rfl) (by decide) ?_
              refine lv_aload hx hb dX5_story_64 (lv_at hl 0 rfl) ?_
              refine lv_iload_n hx hb dX5_story_66 rfl (lv_at hl 3 rfl) ?_
              obtain ⟨g67, hc, hf⟩ := ob_bind hf
              have hPc : va_P (dC, dI) vwCl (wNm cI cJ 64 (fun i => A (i + 19)) (Wb_parts (SB_now x))) s.heap := hP.sub [19, 20, 21, 22, 23] rfl
              refine kg_retRi (va_runV (As := [.int v2]) (rest := []) ⟨hx, hb, hml, hown, hts⟩ (c_X1_lives l dC dI cI cJ (fun i => A (i + 19)) s.heap 64 (Wb_parts (SB_now x)) v2 _ hc) (cwV 1 hts (gw_V wd_6_18 wd_23_17 wd_6_16 wd_6_17 wd_2_20) rfl rfl rfl qX1_lives ⟨Nat.le_of_ble_eq_true rfl, Nat.le_of_ble_eq_true rfl⟩) (kg_preVR (ci := 1) (q := (RX1, TX1, 6)) (q0 := 0) hPc hK hN rfl rfl) rfl rfl hl.1 rfl (lv_room (Nat.le_of_ble_eq_true rfl)) dX5_story_67 ⟨Nat.zero_le _, Nat.zero_le _⟩) ?_
              refine kg_b_eq (tgt := 77) hx hb hf dX5_story_70 (by decide) (fun hc hf => ?_) (fun hc hf => ?_)
              · refine lv_iconst (v := 0) hx hb dX5_story_77 (by decide) ?_
                obtain rfl := Option.some.inj hf
                exact kg_iretR hx hb hr hlk rfl dX5_story_78
              · refine lv_iconst (v := 1) hx hb dX5_story_73 (by decide) ?_
                refine lv_goto (tgt := 78) hx hb dX5_story_74 (by decide) ?_
                obtain rfl := Option.some.inj hf
                exact kg_iretR hx hb hr hlk rfl dX5_story_78
            · rw [if_neg hc0] at hf
              by_cases hc1 : v3 = 1
              · rw [if_pos hc1] at hf
                refine lv_tableIn (tgt := 79) (off := 51) hx hb dX5_story_28 (by rw [hc1]; decide) (by rw [hc1]; decide) (by rw [hc1]; rfl) (by decide) ?_
                refine lv_aload hx hb dX5_story_79 (lv_at hl 0 rfl) ?_
                refine va_get (D := (dC, dI)) (ci := 1) (v := .ref (A 22)) (C := RX1) (T := TX1) (N := 6) hx hb hts hiX1 hown hK hP 19 rfl rfl 2 (by decide) ww1 (fun _ h9 => h9) rfl dX5_story_81 ?_
                refine lv_iload_n hx hb dX5_story_84 rfl (lv_at hl 3 rfl) ?_
                obtain ⟨g85, hv, hf⟩ := ob_bind hf
                refine kg_iald hx hb hK hP 22 0 rfl rfl hv dX5_story_85 ?_
                obtain rfl := Option.some.inj hf
                exact kg_iretR hx hb hr hlk rfl dX5_story_86
              · rw [if_neg hc1] at hf
                by_cases hc2 : v3 = 2
                · rw [if_pos hc2] at hf
                  refine lv_tableIn (tgt := 87) (off := 59) hx hb dX5_story_28 (by rw [hc2]; decide) (by rw [hc2]; decide) (by rw [hc2]; rfl) (by decide) ?_
                  refine lv_aload hx hb dX5_story_87 (lv_at hl 0 rfl) ?_
                  refine va_get (D := (dC, dI)) (ci := 1) (v := .ref (A 23)) (C := RX1) (T := TX1) (N := 6) hx hb hts hiX1 hown hK hP 19 rfl rfl 3 (by decide) ww2 (fun _ h9 => h9) rfl dX5_story_89 ?_
                  refine lv_iload_n hx hb dX5_story_92 rfl (lv_at hl 3 rfl) ?_
                  obtain ⟨g93, hv, hf⟩ := ob_bind hf
                  refine kg_iald hx hb hK hP 23 0 rfl rfl hv dX5_story_93 ?_
                  obtain rfl := Option.some.inj hf
                  exact kg_iretR hx hb hr hlk rfl dX5_story_94
                · rw [if_neg hc2] at hf
                  by_cases hc3 : v3 = 3
                  · rw [if_pos hc3] at hf
                    refine lv_tableIn (tgt := 95) (off := 67) hx hb dX5_story_28 (by rw [hc3]; decide) (by rw [hc3]; decide) (by rw [hc3]; rfl) (by decide) ?_
                    refine lv_aload hx hb dX5_story_95 (lv_at hl 0 rfl) ?_
                    refine va_get (D := (dC, dI)) (ci := 1) (v := .ref (A 21)) (C := RX1) (T := TX1) (N := 6) hx hb hts hiX1 hown hK hP 19 rfl rfl 1 (by decide) ww3 (fun _ h9 => h9) rfl dX5_story_97 ?_
                    refine lv_iload_n hx hb dX5_story_100 rfl (lv_at hl 3 rfl) ?_
                    obtain ⟨g101, hv, hf⟩ := ob_bind hf
                    refine kg_iald hx hb hK hP 21 0 rfl rfl hv dX5_story_101 ?_
                    obtain rfl := Option.some.inj hf
                    exact kg_iretR hx hb hr hlk rfl dX5_story_102
                  · rw [if_neg hc3] at hf
                    by_cases hc4 : v3 = 4
                    · rw [if_pos hc4] at hf
                      refine lv_tableIn (tgt := 103) (off := 75) hx hb dX5_story_28 (by rw [hc4]; decide) (by rw [hc4]; decide) (by rw [hc4]; rfl) (by decide) ?_
                      refine lv_aload hx hb dX5_story_103 (lv_at hl 0 rfl) ?_
                      refine lv_iload_n hx hb dX5_story_105 rfl (lv_at hl 3 rfl) ?_
                      obtain ⟨g106, hc, hf⟩ := ob_bind hf
                      have hPc : va_P (dC, dI) vwCl (wNm cI cJ 64 (fun i => A (i + 19)) (Wb_parts (SB_now x))) s.heap := hP.sub [19, 20, 21, 22, 23] rfl
                      refine kg_retRi (va_runV (As := [.int v2]) (rest := []) ⟨hx, hb, hml, hown, hts⟩ (c_X1_heir l dC dI cI cJ (fun i => A (i + 19)) s.heap 64 (Wb_parts (SB_now x)) v2 _ hc) (cwV 1 hts (gw_V wd_31_18 wd_31_15 wd_31_16 wd_31_17 wd_2_20) rfl rfl rfl qX1_heir ⟨Nat.le_of_ble_eq_true rfl, Nat.le_of_ble_eq_true rfl⟩) (kg_preVR (ci := 1) (q := (RX1, TX1, 6)) (q0 := 0) hPc hK hN rfl rfl) rfl rfl hl.1 rfl (lv_room (Nat.le_of_ble_eq_true rfl)) dX5_story_106 ⟨Nat.zero_le _, Nat.zero_le _⟩) ?_
                      obtain rfl := Option.some.inj hf
                      exact kg_iretR hx hb hr hlk rfl dX5_story_109
                    · rw [if_neg hc4] at hf
                      have ehc0 := ne_toInt hc0 (k := 0) (by decide)
                      have ehc1 := ne_toInt hc1 (k := 1) (by decide)
                      have ehc2 := ne_toInt hc2 (k := 2) (by decide)
                      have ehc3 := ne_toInt hc3 (k := 3) (by decide)
                      have ehc4 := ne_toInt hc4 (k := 4) (by decide)
                      refine lv_tableOut (tgt := 110) hx hb dX5_story_28 (by omega) (by decide) ?_
                      refine lv_iconst (v := (-1)) hx hb dX5_story_110 (by decide) ?_
                      obtain rfl := Option.some.inj hf
                      exact kg_iretR hx hb hr hlk rfl dX5_story_111
          · refine lv_iconst (v := (-1)) hx hb dX5_story_25 (by decide) ?_
            obtain rfl := Option.some.inj hf
            exact kg_iretR hx hb hr hlk rfl dX5_story_26
      · rw [if_neg hkk] at hf
        have hk2 := hkk
        refine lv_aload_n hx hb dX5_story_0 rfl (lv_at hl 0 rfl) ?_
        refine lv_iload_n hx hb dX5_story_1 rfl (lv_at hl 1 rfl) ?_
        refine kg_retRq (va_runV (As := [.int v1]) (rest := []) ⟨hx, hb, hml, hown, hts⟩ (c_X5_namesOf l dC dI cI cJ A s.heap x v1) (cwV 1 hts (gw_V wd_31_14 wd_31_11 wd_31_12 wd_31_13 wd_1_2) rfl rfl rfl qX5_namesOf ⟨Nat.le_of_ble_eq_true rfl, Nat.le_of_ble_eq_true rfl⟩) (kg_preVR (ci := 5) (q := (RX5, TX5, 6)) (q0 := 0) hP hK hN rfl rfl) rfl rfl hl.1 rfl (lv_room (Nat.le_of_ble_eq_true rfl)) dX5_story_2 ⟨Nat.zero_le _, Nat.zero_le _⟩) ?_
        refine W.eq (g2 := F0 m 5 ls [.null]) (by rw [show nmsA A v1 = none from by unfold nmsA; rw [if_neg hk0, if_neg hk1, if_neg hk2]]; rfl) ?_
        refine lv_astoreN (lv' := [(4, .null), (0, .ref (A 0)), (1, .int v1), (2, .int v2), (3, .int v3)]) hx hb dX5_story_5 hl (by decide) rfl (fun ls hl => ?_)
        refine lv_aloadN hx hb dX5_story_7 (lv_at hl 0 rfl) ?_
        refine lv_ifnullN (tgt := 25) hx hb dX5_story_9 (by decide) ?_
        refine lv_iconst (v := (-1)) hx hb dX5_story_25 (by decide) ?_
        obtain rfl := Option.some.inj hf
        exact kg_iretR hx hb hr hlk rfl dX5_story_26
