set_option maxHeartbeats 4000000 in
set_option maxRecDepth 100000 in
theorem c_X6_begins (l : Launch) (dC : Nat → ClassId) (dI : Nat → Nat → Nat) (cI cJ : ClassId) (A : Nat → Nat) (hq : Nat) (x : MdS) (r0 : MdS) (hf : Md_m_begins x = some r0) : MWv l yX6_begins (wAll yX6_begins cX6_begins 3 none) ({ frames := 1, cells := 0, slots := 0, locals := 40 } : Room) [.ref (A 0)] hq (dC, dI) (vTy cI cJ) (wMd cI cJ A x) (wMd cI cJ A r0) := by
  refine kg_metW (Qc := fun Q => QWv (dC, dI) Q (wMd cI cJ A r0)) (cc := cX6_begins) (maxL := 3) (ret := none) (by decide) rfl (Nat.le_of_ble_eq_true rfl) ?_
  intro p e s m args below meth c Q hx hb hr hts hown hlk hml hP hK hN hD hA hS ls hl
  have hl : lv_has ls 3 [(0, .ref (A 0))] := hl
  have ww0 := hts (.fieldLink RX6 20 "SafeBlocksModel" "run" "I") (List.mem_cons_of_mem _ wd_8_2)
  have ww1 := hts (.fieldLink RX6 26 "SafeBlocksModel" "parent" "[I") (List.mem_cons_of_mem _ wd_8_4)
  have ww2 := hts (.fieldLink RX6 29 "SafeBlocksModel" "up" "[I") (List.mem_cons_of_mem _ wd_8_5)
  have ww3 := hts (.fieldLink RX6 23 "SafeBlocksModel" "nameOf" "[I") (List.mem_cons_of_mem _ wd_8_3)
  have ww4 := hts (.fieldLink RX6 32 "SafeBlocksModel" "endedBy" "[I") (List.mem_cons_of_mem _ wd_8_6)
  have ww5 := hts (.fieldLink RX6 35 "SafeBlocksModel" "into" "[I") (List.mem_cons_of_mem _ wd_8_7)
  have ww6 := hts (.fieldLink RX6 38 "SafeBlocksModel" "most" "[I") (List.mem_cons_of_mem _ wd_8_8)
  have hiX6 : ∀ w ∈ u_ws RX6 TX6 30, w ∈ wAll yX6_begins cX6_begins 3 none := fun w h => List.mem_cons_of_mem _ (inlX6 w h)
  suffices hgo : ∀ (H : Heap) (locs : List Loc), va_P (dC, dI) vwCl (wMd cI cJ A x) H → va_S Q s.heap H locs → W p l e ({ frames := 1, cells := 0, slots := 0, locals := 40 } : Room) s m args below meth c H locs 0 0 (MQ below (QWv (dC, dI) Q (wMd cI cJ A r0)) args s 0 0 Q) (F0 m 0 ls []) from hgo _ _ hP hS
  clear hP hS
  intro H locs hP hS
  unfold Md_m_begins at hf
  refine lv_aload_n hx hb dX6_begins_0 rfl (lv_at hl 0 rfl) ?_
  refine lv_iconst (v := 0) hx hb dX6_begins_1 (by decide) ?_
  refine kg_put (ci := 6) (v := .int 0) (ty := .int) (C := RX6) (T := TX6) (N := 30) (wz := (wMd cI cJ A (Md_set_run x 0))) hx hb hts hiX6 tyX6 tyX6_ok nmX6 hown hK hP hD hS 0 rfl rfl 6 (by decide) ww0 (fun _ h9 => h9) rfl (tyX6_ok 6 (by decide)) rfl rfl (Nat.le_of_ble_eq_true rfl) dX6_begins_2 (sc_Md_run _ _ _ _ _) (fun H locs hP hD hS => ?_)
  refine lv_iconst (v := 0) hx hb dX6_begins_5 (by decide) ?_
  refine lv_istore_n (lv' := [(1, .int 0), (0, .ref (A 0))]) hx hb dX6_begins_6 rfl hl (by decide) rfl (fun ls hl => ?_)
  have hlp7 : ∀ (n : Nat) (x : MdS) (v1 : Int32), iter (fun p : MdS × Int32 => Md_m_begins_s7 p.1 p.2) n (x, v1) = some r0 → ∀ (H : Heap) (locs : List Loc) (ls : Array Slot), va_P (dC, dI) vwCl (wMd cI cJ A x) H → va_D Q (wMd cI cJ A x) → va_S Q s.heap H locs → lv_has ls 3 [(0, .ref (A 0)), (1, .int v1)] → W p l e ({ frames := 1, cells := 0, slots := 0, locals := 40 } : Room) s m args below meth c H locs 0 0 (MQ below (QWv (dC, dI) Q (wMd cI cJ A r0)) args s 0 0 Q) (F0 m 7 ls []) := by
    intro  n
    induction n with
    | zero => intro x v1 hf; exact iter_zero hf
    | succ n ih1 =>
      intro x v1 hf H locs ls hP hD hS hl
      obtain ⟨q1, hf, hk1⟩ := iter_succ hf
      have hf : Md_m_begins_s7 x v1 = some q1 := hf
      unfold Md_m_begins_s7 at hf
      refine lv_iload_n hx hb dX6_begins_7 rfl (lv_at hl 1 rfl) ?_
      refine lv_bipush (v := 32) hx hb dX6_begins_8 (by decide) ?_
      refine kg_icmp_ge (tgt := 94) hx hb hf dX6_begins_10 (by decide) (fun hc hf => ?_) (fun hc hf => ?_)
      · obtain ⟨qq, hf, hqq⟩ := omap_some hf
        have hkq : qq = r0 := by rw [← hqq] at hk1; exact hk1
        rw [hkq] at hf
        clear hkq hqq
        obtain rfl := Option.some.inj hf
        exact kg_vretW hx hb hr hlk hP hD hS dX6_begins_94
      · refine lv_aload_n hx hb dX6_begins_13 rfl (lv_at hl 0 rfl) ?_
        refine va_get (D := (dC, dI)) (ci := 6) (v := .ref (A 4)) (C := RX6) (T := TX6) (N := 30) hx hb hts hiX6 hown hK hP 0 rfl rfl 8 (by decide) ww1 (fun _ h9 => h9) rfl dX6_begins_14 ?_
        refine lv_iload_n hx hb dX6_begins_17 rfl (lv_at hl 1 rfl) ?_
        refine lv_iconst (v := (-1)) hx hb dX6_begins_18 (by decide) ?_
        obtain ⟨f19, hv, hf⟩ := ob_bind hf
        refine kg_iast (wz := (wMd cI cJ A (Md_set_parent x f19))) hx hb hK hP hD hS 4 0 rfl rfl hv dX6_begins_19 (sc_Md_parent _ _ _ _ _) (fun H locs hP hD hS => ?_)
        refine lv_aload_n hx hb dX6_begins_20 rfl (lv_at hl 0 rfl) ?_
        refine va_get (D := (dC, dI)) (ci := 6) (v := .ref (A 5)) (C := RX6) (T := TX6) (N := 30) hx hb hts hiX6 hown hK hP 0 rfl rfl 9 (by decide) ww2 (fun _ h9 => h9) rfl dX6_begins_21 ?_
        refine lv_iload_n hx hb dX6_begins_24 rfl (lv_at hl 1 rfl) ?_
        refine lv_iconst (v := (-1)) hx hb dX6_begins_25 (by decide) ?_
        obtain ⟨f26, hv, hf⟩ := ob_bind hf
        refine kg_iast (wz := (wMd cI cJ A (Md_set_up (Md_set_parent x f19) f26))) hx hb hK hP hD hS 5 0 rfl rfl hv dX6_begins_26 (sc_Md_up _ _ _ _ _) (fun H locs hP hD hS => ?_)
        refine lv_iconst (v := 0) hx hb dX6_begins_27 (by decide) ?_
        refine lv_istore_n (lv' := [(2, .int 0), (0, .ref (A 0)), (1, .int v1)]) hx hb dX6_begins_28 rfl hl (by decide) rfl (fun ls hl => ?_)
        have hlp29 : ∀ (v1 : Int32), ∀ (n : Nat) (x : MdS) (v2 : Int32), iter (fun p : MdS × Int32 => Md_m_begins_s29 v1 p.1 p.2) n (x, v2) = some q1 → ∀ (H : Heap) (locs : List Loc) (ls : Array Slot), va_P (dC, dI) vwCl (wMd cI cJ A x) H → va_D Q (wMd cI cJ A x) → va_S Q s.heap H locs → lv_has ls 3 [(0, .ref (A 0)), (1, .int v1), (2, .int v2)] → W p l e ({ frames := 1, cells := 0, slots := 0, locals := 40 } : Room) s m args below meth c H locs 0 0 (MQ below (QWv (dC, dI) Q (wMd cI cJ A r0)) args s 0 0 Q) (F0 m 29 ls []) := by
          intro v1 n
          induction n with
          | zero => intro x v2 hf; exact iter_zero hf
          | succ n ih2 =>
            intro x v2 hf H locs ls hP hD hS hl
            obtain ⟨q2, hf, hk2⟩ := iter_succ hf
            have hf : Md_m_begins_s29 v1 x v2 = some q2 := hf
            unfold Md_m_begins_s29 at hf
            refine lv_iload_n hx hb dX6_begins_29 rfl (lv_at hl 2 rfl) ?_
            refine lv_iconst (v := 2) hx hb dX6_begins_30 (by decide) ?_
            refine kg_icmp_ge (tgt := 88) hx hb hf dX6_begins_31 (by decide) (fun hc hf => ?_) (fun hc hf => ?_)
            · obtain ⟨qq, hf, hqq⟩ := omap_some hf
              have hkq : qq = q1 := by rw [← hqq] at hk2; exact hk2
              rw [hkq] at hf
              clear hkq hqq
              refine lv_iinc (v := (v1 + 1)) (lv' := [(1, .int (v1 + 1)), (0, .ref (A 0)), (2, .int v2)]) hx hb dX6_begins_88 hl (k := 1) rfl rfl (by decide) rfl (fun ls hl => ?_)
              refine lv_goto (tgt := 7) hx hb dX6_begins_91 (by decide) ?_
              obtain rfl := Option.some.inj hf
              exact ih1 x (v1 + 1) hk1 _ _ _ hP hD hS (lv_sub hl [1, 0] rfl)
            · refine lv_aload_n hx hb dX6_begins_34 rfl (lv_at hl 0 rfl) ?_
              refine va_get (D := (dC, dI)) (ci := 6) (v := .ref (A 3)) (C := RX6) (T := TX6) (N := 30) hx hb hts hiX6 hown hK hP 0 rfl rfl 7 (by decide) ww3 (fun _ h9 => h9) rfl dX6_begins_35 ?_
              refine lv_bipush (v := 32) hx hb dX6_begins_38 (by decide) ?_
              refine lv_iload_n hx hb dX6_begins_40 rfl (lv_at hl 2 rfl) ?_
              refine lv_imul hx hb dX6_begins_41 ?_
              refine lv_iload_n hx hb dX6_begins_42 rfl (lv_at hl 1 rfl) ?_
              refine lv_iadd hx hb dX6_begins_43 ?_
              refine lv_iload_n hx hb dX6_begins_44 rfl (lv_at hl 1 rfl) ?_
              obtain ⟨f45, hv, hf⟩ := ob_bind hf
              refine kg_iast (wz := (wMd cI cJ A (Md_set_nameOf x f45))) hx hb hK hP hD hS 3 0 rfl rfl hv dX6_begins_45 (sc_Md_nameOf _ _ _ _ _) (fun H locs hP hD hS => ?_)
              refine lv_aload_n hx hb dX6_begins_46 rfl (lv_at hl 0 rfl) ?_
              refine va_get (D := (dC, dI)) (ci := 6) (v := .ref (A 6)) (C := RX6) (T := TX6) (N := 30) hx hb hts hiX6 hown hK hP 0 rfl rfl 10 (by decide) ww4 (fun _ h9 => h9) rfl dX6_begins_47 ?_
              refine lv_bipush (v := 32) hx hb dX6_begins_50 (by decide) ?_
              refine lv_iload_n hx hb dX6_begins_52 rfl (lv_at hl 2 rfl) ?_
              refine lv_imul hx hb dX6_begins_53 ?_
              refine lv_iload_n hx hb dX6_begins_54 rfl (lv_at hl 1 rfl) ?_
              refine lv_iadd hx hb dX6_begins_55 ?_
              refine lv_iconst (v := (-1)) hx hb dX6_begins_56 (by decide) ?_
              obtain ⟨f57, hv, hf⟩ := ob_bind hf
              refine kg_iast (wz := (wMd cI cJ A (Md_set_endedBy (Md_set_nameOf x f45) f57))) hx hb hK hP hD hS 6 0 rfl rfl hv dX6_begins_57 (sc_Md_endedBy _ _ _ _ _) (fun H locs hP hD hS => ?_)
              refine lv_aload_n hx hb dX6_begins_58 rfl (lv_at hl 0 rfl) ?_
              refine va_get (D := (dC, dI)) (ci := 6) (v := .ref (A 7)) (C := RX6) (T := TX6) (N := 30) hx hb hts hiX6 hown hK hP 0 rfl rfl 11 (by decide) ww5 (fun _ h9 => h9) rfl dX6_begins_59 ?_
              refine lv_bipush (v := 32) hx hb dX6_begins_62 (by decide) ?_
              refine lv_iload_n hx hb dX6_begins_64 rfl (lv_at hl 2 rfl) ?_
              refine lv_imul hx hb dX6_begins_65 ?_
              refine lv_iload_n hx hb dX6_begins_66 rfl (lv_at hl 1 rfl) ?_
              refine lv_iadd hx hb dX6_begins_67 ?_
              refine lv_iconst (v := (-1)) hx hb dX6_begins_68 (by decide) ?_
              obtain ⟨f69, hv, hf⟩ := ob_bind hf
              refine kg_iast (wz := (wMd cI cJ A (Md_set_into (Md_set_endedBy (Md_set_nameOf x f45) f57) f69))) hx hb hK hP hD hS 7 0 rfl rfl hv dX6_begins_69 (sc_Md_into _ _ _ _ _) (fun H locs hP hD hS => ?_)
              refine lv_aload_n hx hb dX6_begins_70 rfl (lv_at hl 0 rfl) ?_
              refine va_get (D := (dC, dI)) (ci := 6) (v := .ref (A 8)) (C := RX6) (T := TX6) (N := 30) hx hb hts hiX6 hown hK hP 0 rfl rfl 12 (by decide) ww6 (fun _ h9 => h9) rfl dX6_begins_71 ?_
              refine lv_bipush (v := 32) hx hb dX6_begins_74 (by decide) ?_
              refine lv_iload_n hx hb dX6_begins_76 rfl (lv_at hl 2 rfl) ?_
              refine lv_imul hx hb dX6_begins_77 ?_
              refine lv_iload_n hx hb dX6_begins_78 rfl (lv_at hl 1 rfl) ?_
              refine lv_iadd hx hb dX6_begins_79 ?_
              refine lv_iconst (v := 1) hx hb dX6_begins_80 (by decide) ?_
              obtain ⟨f81, hv, hf⟩ := ob_bind hf
              refine kg_iast (wz := (wMd cI cJ A (Md_set_most (Md_set_into (Md_set_endedBy (Md_set_nameOf x f45) f57) f69) f81))) hx hb hK hP hD hS 8 0 rfl rfl hv dX6_begins_81 (sc_Md_most _ _ _ _ _) (fun H locs hP hD hS => ?_)
              refine lv_iinc (v := (v2 + 1)) (lv' := [(2, .int (v2 + 1)), (0, .ref (A 0)), (1, .int v1)]) hx hb dX6_begins_82 hl (k := 2) rfl rfl (by decide) rfl (fun ls hl => ?_)
              refine lv_goto (tgt := 29) hx hb dX6_begins_85 (by decide) ?_
              obtain rfl := Option.some.inj hf
              exact ih2 (Md_set_most (Md_set_into (Md_set_endedBy (Md_set_nameOf x f45) f57) f69) f81) (v2 + 1) hk2 _ _ _ hP hD hS (lv_sub hl [1, 2, 0] rfl)
        exact hlp29 v1 FU (Md_set_up (Md_set_parent x f19) f26) 0 hf _ _ _ hP hD hS (lv_sub hl [1, 2, 0] rfl)
  exact hlp7  FU (Md_set_run x 0) 0 hf _ _ _ hP hD hS (lv_sub hl [1, 0] rfl)
set_option maxHeartbeats 4000000 in
set_option maxRecDepth 100000 in
theorem c_X6_unites (l : Launch) (dC : Nat → ClassId) (dI : Nat → Nat → Nat) (cI cJ : ClassId) (A : Nat → Nat) (hq : Nat) (x : MdS) (v1 : Int32) (v2 : Int32) (v3 : Int32) (r0 : (Int32 × MdS)) (hf : Md_m_unites x v1 v2 v3 = some r0) : MWi l yX6_unites (wAll yX6_unites cX6_unites 6 (some .int)) ({ frames := 2, cells := 0, slots := 0, locals := 64 } : Room) [.ref (A 0), .int v1, .int v2, .int v3] hq (dC, dI) (vTy cI cJ) (wMd cI cJ A x) (wMd cI cJ A r0.2) r0.1 := by
  refine kg_metW (Qc := fun Q => QWi (dC, dI) Q (wMd cI cJ A r0.2) r0.1) (cc := cX6_unites) (maxL := 6) (ret := (some .int)) (by decide) rfl (Nat.le_of_ble_eq_true rfl) ?_
  intro p e s m args below meth c Q hx hb hr hts hown hlk hml hP hK hN hD hA hS ls hl
  have hl : lv_has ls 6 [(0, .ref (A 0)), (1, .int v1), (2, .int v2), (3, .int v3)] := hl
  have ww0 := hts (.fieldLink RX6 7 "SafeBlocksModel" "n" "I") (List.mem_cons_of_mem _ wd_7_23)
  have ww1 := hts (.fieldLink RX6 38 "SafeBlocksModel" "most" "[I") (List.mem_cons_of_mem _ wd_8_8)
  have ww2 := hts (.methodLink RX6 93 Lib.Math.max.name) (List.mem_cons_of_mem _ wd_14_6)
  have ww3 := hts (.static Lib.Math.max.name) (List.mem_cons_of_mem _ wd_14_7)
  have ww4 := hts (.initialized "java/lang/Math") (List.mem_cons_of_mem _ wd_14_8)
  have ww5 := hts (.code Lib.Math.max.name Lib.Math.max.code 2 (some .int)) (List.mem_cons_of_mem _ wd_14_9)
  have ww6 := hts (.fieldLink RX6 23 "SafeBlocksModel" "nameOf" "[I") (List.mem_cons_of_mem _ wd_8_3)
  have ww7 := hts (.fieldLink RX6 32 "SafeBlocksModel" "endedBy" "[I") (List.mem_cons_of_mem _ wd_8_6)
  have ww8 := hts (.fieldLink RX6 35 "SafeBlocksModel" "into" "[I") (List.mem_cons_of_mem _ wd_8_7)
  have hiX6 : ∀ w ∈ u_ws RX6 TX6 30, w ∈ wAll yX6_unites cX6_unites 6 (some .int) := fun w h => List.mem_cons_of_mem _ (inlX6 w h)
  suffices hgo : ∀ (H : Heap) (locs : List Loc), va_P (dC, dI) vwCl (wMd cI cJ A x) H → va_S Q s.heap H locs → W p l e ({ frames := 2, cells := 0, slots := 0, locals := 64 } : Room) s m args below meth c H locs 0 0 (MQ below (QWi (dC, dI) Q (wMd cI cJ A r0.2) r0.1) args s 0 0 Q) (F0 m 0 ls []) from hgo _ _ hP hS
  clear hP hS
  intro H locs hP hS
  unfold Md_m_unites at hf
  refine lv_iconst (v := (-1)) hx hb dX6_unites_0 (by decide) ?_
  refine lv_istore (lv' := [(4, .int (-1)), (0, .ref (A 0)), (1, .int v1), (2, .int v2), (3, .int v3)]) hx hb dX6_unites_1 hl (by decide) rfl (fun ls hl => ?_)
  refine lv_iconst (v := 0) hx hb dX6_unites_3 (by decide) ?_
  refine lv_istore (lv' := [(5, .int 0), (4, .int (-1)), (0, .ref (A 0)), (1, .int v1), (2, .int v2), (3, .int v3)]) hx hb dX6_unites_4 hl (by decide) rfl (fun ls hl => ?_)
  have hlp6 : ∀ (x : MdS), ∀ (n : Nat) (v4 : Int32) (v5 : Int32), iter (fun p : Int32 × Int32 => Md_m_unites_s6 x v1 v2 v3 p.1 p.2) n (v4, v5) = some r0 → ∀ (H : Heap) (locs : List Loc) (ls : Array Slot), va_P (dC, dI) vwCl (wMd cI cJ A x) H → va_D Q (wMd cI cJ A x) → va_S Q s.heap H locs → lv_has ls 6 [(0, .ref (A 0)), (1, .int v1), (2, .int v2), (3, .int v3), (4, .int v4), (5, .int v5)] → W p l e ({ frames := 2, cells := 0, slots := 0, locals := 64 } : Room) s m args below meth c H locs 0 0 (MQ below (QWi (dC, dI) Q (wMd cI cJ A r0.2) r0.1) args s 0 0 Q) (F0 m 6 ls []) := by
    intro x n
    induction n with
    | zero => intro v4 v5 hf; exact iter_zero hf
    | succ n ih1 =>
      intro v4 v5 hf H locs ls hP hD hS hl
      obtain ⟨q1, hf, hk1⟩ := iter_succ hf
      have hf : Md_m_unites_s6 x v1 v2 v3 v4 v5 = some q1 := hf
      unfold Md_m_unites_s6 at hf
      refine lv_iload hx hb dX6_unites_6 (lv_at hl 5 rfl) ?_
      refine lv_aload_n hx hb dX6_unites_8 rfl (lv_at hl 0 rfl) ?_
      refine va_get (D := (dC, dI)) (ci := 6) (v := .int (Md_n x)) (C := RX6) (T := TX6) (N := 30) hx hb hts hiX6 hown hK hP 0 rfl rfl 1 (by decide) ww0 (fun _ h9 => h9) rfl dX6_unites_9 ?_
      refine kg_icmp_ge (tgt := 58) hx hb hf dX6_unites_12 (by decide) (fun hc hf => ?_) (fun hc hf => ?_)
      · obtain ⟨qq, hf, hqq⟩ := omap_some hf
        have hkq : qq = r0 := by rw [← hqq] at hk1; exact hk1
        rw [hkq] at hf
        clear hkq hqq
        refine lv_iconst (v := 0) hx hb dX6_unites_58 (by decide) ?_
        refine lv_istore (lv' := [(5, .int 0), (0, .ref (A 0)), (1, .int v1), (2, .int v2), (3, .int v3), (4, .int v4)]) hx hb dX6_unites_59 hl (by decide) rfl (fun ls hl => ?_)
        have hlp61 : ∀ (v4 : Int32), ∀ (n : Nat) (x : MdS) (v5 : Int32), iter (fun p : MdS × Int32 => Md_m_unites_s61 v1 v2 v3 v4 p.1 p.2) n (x, v5) = some r0 → ∀ (H : Heap) (locs : List Loc) (ls : Array Slot), va_P (dC, dI) vwCl (wMd cI cJ A x) H → va_D Q (wMd cI cJ A x) → va_S Q s.heap H locs → lv_has ls 6 [(0, .ref (A 0)), (1, .int v1), (2, .int v2), (3, .int v3), (4, .int v4), (5, .int v5)] → W p l e ({ frames := 2, cells := 0, slots := 0, locals := 64 } : Room) s m args below meth c H locs 0 0 (MQ below (QWi (dC, dI) Q (wMd cI cJ A r0.2) r0.1) args s 0 0 Q) (F0 m 61 ls []) := by
          intro v4 n
          induction n with
          | zero => intro x v5 hf; exact iter_zero hf
          | succ n ih1 =>
            intro x v5 hf H locs ls hP hD hS hl
            obtain ⟨q1, hf, hk1⟩ := iter_succ hf
            have hf : Md_m_unites_s61 v1 v2 v3 v4 x v5 = some q1 := hf
            unfold Md_m_unites_s61 at hf
            refine lv_iload hx hb dX6_unites_61 (lv_at hl 5 rfl) ?_
            refine lv_aload_n hx hb dX6_unites_63 rfl (lv_at hl 0 rfl) ?_
            refine va_get (D := (dC, dI)) (ci := 6) (v := .int (Md_n x)) (C := RX6) (T := TX6) (N := 30) hx hb hts hiX6 hown hK hP 0 rfl rfl 1 (by decide) ww0 (fun _ h9 => h9) rfl dX6_unites_64 ?_
            refine kg_icmp_ge (tgt := 123) hx hb hf dX6_unites_67 (by decide) (fun hc hf => ?_) (fun hc hf => ?_)
            · obtain ⟨qq, hf, hqq⟩ := omap_some hf
              have hkq : qq = r0 := by rw [← hqq] at hk1; exact hk1
              rw [hkq] at hf
              clear hkq hqq
              refine lv_iconst (v := 0) hx hb dX6_unites_123 (by decide) ?_
              refine lv_istore (lv' := [(5, .int 0), (0, .ref (A 0)), (1, .int v1), (2, .int v2), (3, .int v3), (4, .int v4)]) hx hb dX6_unites_124 hl (by decide) rfl (fun ls hl => ?_)
              have hlp126 : ∀ (v4 : Int32), ∀ (n : Nat) (x : MdS) (v5 : Int32), iter (fun p : MdS × Int32 => Md_m_unites_s126 v1 v2 v4 p.1 p.2) n (x, v5) = some r0 → ∀ (H : Heap) (locs : List Loc) (ls : Array Slot), va_P (dC, dI) vwCl (wMd cI cJ A x) H → va_D Q (wMd cI cJ A x) → va_S Q s.heap H locs → lv_has ls 6 [(0, .ref (A 0)), (1, .int v1), (2, .int v2), (4, .int v4), (5, .int v5)] → W p l e ({ frames := 2, cells := 0, slots := 0, locals := 64 } : Room) s m args below meth c H locs 0 0 (MQ below (QWi (dC, dI) Q (wMd cI cJ A r0.2) r0.1) args s 0 0 Q) (F0 m 126 ls []) := by
                intro v4 n
                induction n with
                | zero => intro x v5 hf; exact iter_zero hf
                | succ n ih1 =>
                  intro x v5 hf H locs ls hP hD hS hl
                  obtain ⟨q1, hf, hk1⟩ := iter_succ hf
                  have hf : Md_m_unites_s126 v1 v2 v4 x v5 = some q1 := hf
                  unfold Md_m_unites_s126 at hf
                  refine lv_iload hx hb dX6_unites_126 (lv_at hl 4 rfl) ?_
                  refine lv_aload_n hx hb dX6_unites_128 rfl (lv_at hl 0 rfl) ?_
                  refine va_get (D := (dC, dI)) (ci := 6) (v := .int (Md_n x)) (C := RX6) (T := TX6) (N := 30) hx hb hts hiX6 hown hK hP 0 rfl rfl 1 (by decide) ww0 (fun _ h9 => h9) rfl dX6_unites_129 ?_
                  refine kg_icmp_ge (tgt := 175) hx hb hf dX6_unites_132 (by decide) (fun hc hf => ?_) (fun hc hf => ?_)
                  · obtain ⟨qq, hf, hqq⟩ := omap_some hf
                    have hkq : qq = r0 := by rw [← hqq] at hk1; exact hk1
                    rw [hkq] at hf
                    clear hkq hqq
                    refine lv_aload_n hx hb dX6_unites_175 rfl (lv_at hl 0 rfl) ?_
                    refine va_get (D := (dC, dI)) (ci := 6) (v := .ref (A 8)) (C := RX6) (T := TX6) (N := 30) hx hb hts hiX6 hown hK hP 0 rfl rfl 12 (by decide) ww1 (fun _ h9 => h9) rfl dX6_unites_176 ?_
                    refine lv_bipush (v := 32) hx hb dX6_unites_179 (by decide) ?_
                    refine lv_iload_n hx hb dX6_unites_181 rfl (lv_at hl 1 rfl) ?_
                    refine lv_imul hx hb dX6_unites_182 ?_
                    refine lv_iload hx hb dX6_unites_183 (lv_at hl 3 rfl) ?_
                    refine lv_iadd hx hb dX6_unites_185 ?_
                    refine lv_aload_n hx hb dX6_unites_186 rfl (lv_at hl 0 rfl) ?_
                    refine va_get (D := (dC, dI)) (ci := 6) (v := .ref (A 8)) (C := RX6) (T := TX6) (N := 30) hx hb hts hiX6 hown hK hP 0 rfl rfl 12 (by decide) ww1 (fun _ h9 => h9) rfl dX6_unites_187 ?_
                    refine lv_bipush (v := 32) hx hb dX6_unites_190 (by decide) ?_
                    refine lv_iload_n hx hb dX6_unites_192 rfl (lv_at hl 1 rfl) ?_
                    refine lv_imul hx hb dX6_unites_193 ?_
                    refine lv_iload hx hb dX6_unites_194 (lv_at hl 3 rfl) ?_
                    refine lv_iadd hx hb dX6_unites_196 ?_
                    obtain ⟨g197, hv, hf⟩ := ob_bind hf
                    refine kg_iald hx hb hK hP 8 0 rfl rfl hv dX6_unites_197 ?_
                    refine lv_aload_n hx hb dX6_unites_198 rfl (lv_at hl 0 rfl) ?_
                    refine lv_iload_n hx hb dX6_unites_199 rfl (lv_at hl 1 rfl) ?_
                    refine lv_iload hx hb dX6_unites_200 (lv_at hl 3 rfl) ?_
                    obtain ⟨g202, hc, hf⟩ := ob_bind hf
                    have hPc : va_P (dC, dI) vwCl (wMd cI cJ A x) H := hP
                    refine kg_retRi (va_runV (As := [.int v1, .int v4]) (rest := [.int g197, .int ((32 * v1) + v4), .ref (A 8)]) ⟨hx, hb, hml, hown, hts⟩ (c_X6_sizeOf l dC dI cI cJ A H x v1 v4 _ hc) (cwV 2 hts (gw_V wd_13_21 wd_13_18 wd_13_19 wd_13_20 wd_1_5) rfl rfl rfl qX6_sizeOf ⟨Nat.le_of_ble_eq_true rfl, Nat.le_of_ble_eq_true rfl⟩) (kg_preVR (ci := 6) (q := (RX6, TX6, 30)) (q0 := 0) hPc hK hN rfl rfl) rfl rfl hl.1 rfl (lv_room (Nat.le_of_ble_eq_true rfl)) dX6_unites_202 ⟨Nat.zero_le _, Nat.zero_le _⟩) ?_
                    refine va_mmax hx hb (by rw [hml]; exact hl.1.symm) hown ww2 ww3 ww4 ww5 (Nat.le_of_ble_eq_true rfl) (Nat.le_of_ble_eq_true rfl) (Nat.zero_le _) (Nat.zero_le _) dX6_unites_205 ?_
                    obtain ⟨f208, hv, hf⟩ := ob_bind hf
                    refine kg_iast (wz := (wMd cI cJ A (Md_set_most x f208))) hx hb hK hP hD hS 8 0 rfl rfl hv dX6_unites_208 (sc_Md_most _ _ _ _ _) (fun H locs hP hD hS => ?_)
                    refine lv_iload hx hb dX6_unites_209 (lv_at hl 3 rfl) ?_
                    obtain rfl := Option.some.inj hf
                    exact kg_iretW hx hb hr hlk rfl hP hD hS dX6_unites_211
                  · refine lv_aload_n hx hb dX6_unites_135 rfl (lv_at hl 0 rfl) ?_
                    refine lv_iload_n hx hb dX6_unites_136 rfl (lv_at hl 2 rfl) ?_
                    refine lv_aload_n hx hb dX6_unites_137 rfl (lv_at hl 0 rfl) ?_
                    refine va_get (D := (dC, dI)) (ci := 6) (v := .ref (A 3)) (C := RX6) (T := TX6) (N := 30) hx hb hts hiX6 hown hK hP 0 rfl rfl 7 (by decide) ww6 (fun _ h9 => h9) rfl dX6_unites_138 ?_
                    refine lv_bipush (v := 32) hx hb dX6_unites_141 (by decide) ?_
                    refine lv_iload_n hx hb dX6_unites_143 rfl (lv_at hl 1 rfl) ?_
                    refine lv_imul hx hb dX6_unites_144 ?_
                    refine lv_iload hx hb dX6_unites_145 (lv_at hl 4 rfl) ?_
                    refine lv_iadd hx hb dX6_unites_147 ?_
                    obtain ⟨g148, hv, hf⟩ := ob_bind hf
                    refine kg_iald hx hb hK hP 3 0 rfl rfl hv dX6_unites_148 ?_
                    obtain ⟨g149, hc, hf⟩ := ob_bind hf
                    have hPc : va_P (dC, dI) vwCl (wMd cI cJ A x) H := hP
                    refine kg_retRi (va_runV (As := [.int v2, .int g148]) (rest := []) ⟨hx, hb, hml, hown, hts⟩ (c_X6_has l dC dI cI cJ A H x v2 g148 _ hc) (cwV 2 hts (gw_V wd_14_13 wd_14_10 wd_14_11 wd_14_12 wd_1_5) rfl rfl rfl qX6_has ⟨Nat.le_of_ble_eq_true rfl, Nat.le_of_ble_eq_true rfl⟩) (kg_preVR (ci := 6) (q := (RX6, TX6, 30)) (q0 := 0) hPc hK hN rfl rfl) rfl rfl hl.1 rfl (lv_room (Nat.le_of_ble_eq_true rfl)) dX6_unites_149 ⟨Nat.zero_le _, Nat.zero_le _⟩) ?_
                    refine kg_b_eq (tgt := 169) hx hb hf dX6_unites_152 (by decide) (fun hc hf => ?_) (fun hc hf => ?_)
                    · refine lv_iinc (v := (v5 + 1)) (lv' := [(5, .int (v5 + 1)), (0, .ref (A 0)), (1, .int v1), (2, .int v2), (4, .int v4)]) hx hb dX6_unites_169 hl (k := 4) rfl rfl (by decide) rfl (fun ls hl => ?_)
                      refine lv_goto (tgt := 126) hx hb dX6_unites_172 (by decide) ?_
                      obtain rfl := Option.some.inj hf
                      exact ih1 x (v5 + 1) hk1 _ _ _ hP hD hS (lv_sub hl [1, 2, 3, 4, 0] rfl)
                    · refine lv_aload_n hx hb dX6_unites_155 rfl (lv_at hl 0 rfl) ?_
                      refine va_get (D := (dC, dI)) (ci := 6) (v := .ref (A 3)) (C := RX6) (T := TX6) (N := 30) hx hb hts hiX6 hown hK hP 0 rfl rfl 7 (by decide) ww6 (fun _ h9 => h9) rfl dX6_unites_156 ?_
                      refine lv_bipush (v := 32) hx hb dX6_unites_159 (by decide) ?_
                      refine lv_iload_n hx hb dX6_unites_161 rfl (lv_at hl 1 rfl) ?_
                      refine lv_imul hx hb dX6_unites_162 ?_
                      refine lv_iload hx hb dX6_unites_163 (lv_at hl 4 rfl) ?_
                      refine lv_iadd hx hb dX6_unites_165 ?_
                      refine lv_iload hx hb dX6_unites_166 (lv_at hl 3 rfl) ?_
                      obtain ⟨f168, hv, hf⟩ := ob_bind hf
                      refine kg_iast (wz := (wMd cI cJ A (Md_set_nameOf x f168))) hx hb hK hP hD hS 3 0 rfl rfl hv dX6_unites_168 (sc_Md_nameOf _ _ _ _ _) (fun H locs hP hD hS => ?_)
                      refine lv_iinc (v := (v5 + 1)) (lv' := [(5, .int (v5 + 1)), (0, .ref (A 0)), (1, .int v1), (2, .int v2), (4, .int v4)]) hx hb dX6_unites_169 hl (k := 4) rfl rfl (by decide) rfl (fun ls hl => ?_)
                      refine lv_goto (tgt := 126) hx hb dX6_unites_172 (by decide) ?_
                      obtain rfl := Option.some.inj hf
                      exact ih1 (Md_set_nameOf x f168) (v5 + 1) hk1 _ _ _ hP hD hS (lv_sub hl [1, 2, 3, 4, 0] rfl)
              exact hlp126 v4 FU x 0 hf _ _ _ hP hD hS (lv_sub hl [1, 2, 3, 5, 0] rfl)
            · refine lv_aload_n hx hb dX6_unites_70 rfl (lv_at hl 0 rfl) ?_
              refine lv_iload_n hx hb dX6_unites_71 rfl (lv_at hl 2 rfl) ?_
              refine lv_iload hx hb dX6_unites_72 (lv_at hl 5 rfl) ?_
              obtain ⟨g74, hc, hf⟩ := ob_bind hf
              have hPc : va_P (dC, dI) vwCl (wMd cI cJ A x) H := hP
              refine kg_retRi (va_runV (As := [.int v2, .int v5]) (rest := []) ⟨hx, hb, hml, hown, hts⟩ (c_X6_has l dC dI cI cJ A H x v2 v5 _ hc) (cwV 2 hts (gw_V wd_14_13 wd_14_10 wd_14_11 wd_14_12 wd_1_5) rfl rfl rfl qX6_has ⟨Nat.le_of_ble_eq_true rfl, Nat.le_of_ble_eq_true rfl⟩) (kg_preVR (ci := 6) (q := (RX6, TX6, 30)) (q0 := 0) hPc hK hN rfl rfl) rfl rfl hl.1 rfl (lv_room (Nat.le_of_ble_eq_true rfl)) dX6_unites_74 ⟨Nat.zero_le _, Nat.zero_le _⟩) ?_
              refine kg_b_eq (tgt := 117) hx hb hf dX6_unites_77 (by decide) (fun hc hf => ?_) (fun hc hf => ?_)
              · refine lv_iinc (v := (v5 + 1)) (lv' := [(5, .int (v5 + 1)), (0, .ref (A 0)), (1, .int v1), (2, .int v2), (3, .int v3), (4, .int v4)]) hx hb dX6_unites_117 hl (k := 5) rfl rfl (by decide) rfl (fun ls hl => ?_)
                refine lv_goto (tgt := 61) hx hb dX6_unites_120 (by decide) ?_
                obtain rfl := Option.some.inj hf
                exact ih1 x (v5 + 1) hk1 _ _ _ hP hD hS (lv_sub hl [1, 2, 3, 4, 5, 0] rfl)
              · refine lv_iload hx hb dX6_unites_80 (lv_at hl 5 rfl) ?_
                refine lv_iload hx hb dX6_unites_82 (lv_at hl 4 rfl) ?_
                refine kg_icmp_ne (tgt := 90) hx hb hf dX6_unites_84 (by decide) (fun hc hf => ?_) (fun hc hf => ?_)
                · refine lv_aload_n hx hb dX6_unites_90 rfl (lv_at hl 0 rfl) ?_
                  refine va_get (D := (dC, dI)) (ci := 6) (v := .ref (A 6)) (C := RX6) (T := TX6) (N := 30) hx hb hts hiX6 hown hK hP 0 rfl rfl 10 (by decide) ww7 (fun _ h9 => h9) rfl dX6_unites_91 ?_
                  refine lv_bipush (v := 32) hx hb dX6_unites_94 (by decide) ?_
                  refine lv_iload_n hx hb dX6_unites_96 rfl (lv_at hl 1 rfl) ?_
                  refine lv_imul hx hb dX6_unites_97 ?_
                  refine lv_iload hx hb dX6_unites_98 (lv_at hl 5 rfl) ?_
                  refine lv_iadd hx hb dX6_unites_100 ?_
                  refine lv_iload_n hx hb dX6_unites_101 rfl (lv_at hl 3 rfl) ?_
                  obtain ⟨f102, hv, hf⟩ := ob_bind hf
                  refine kg_iast (wz := (wMd cI cJ A (Md_set_endedBy x f102))) hx hb hK hP hD hS 6 0 rfl rfl hv dX6_unites_102 (sc_Md_endedBy _ _ _ _ _) (fun H locs hP hD hS => ?_)
                  refine lv_aload_n hx hb dX6_unites_103 rfl (lv_at hl 0 rfl) ?_
                  refine va_get (D := (dC, dI)) (ci := 6) (v := .ref (A 7)) (C := RX6) (T := TX6) (N := 30) hx hb hts hiX6 hown hK hP 0 rfl rfl 11 (by decide) ww8 (fun _ h9 => h9) rfl dX6_unites_104 ?_
                  refine lv_bipush (v := 32) hx hb dX6_unites_107 (by decide) ?_
                  refine lv_iload_n hx hb dX6_unites_109 rfl (lv_at hl 1 rfl) ?_
                  refine lv_imul hx hb dX6_unites_110 ?_
                  refine lv_iload hx hb dX6_unites_111 (lv_at hl 5 rfl) ?_
                  refine lv_iadd hx hb dX6_unites_113 ?_
                  refine lv_iload hx hb dX6_unites_114 (lv_at hl 4 rfl) ?_
                  obtain ⟨f116, hv, hf⟩ := ob_bind hf
                  refine kg_iast (wz := (wMd cI cJ A (Md_set_into (Md_set_endedBy x f102) f116))) hx hb hK hP hD hS 7 0 rfl rfl hv dX6_unites_116 (sc_Md_into _ _ _ _ _) (fun H locs hP hD hS => ?_)
                  refine lv_iinc (v := (v5 + 1)) (lv' := [(5, .int (v5 + 1)), (0, .ref (A 0)), (1, .int v1), (2, .int v2), (3, .int v3), (4, .int v4)]) hx hb dX6_unites_117 hl (k := 5) rfl rfl (by decide) rfl (fun ls hl => ?_)
                  refine lv_goto (tgt := 61) hx hb dX6_unites_120 (by decide) ?_
                  obtain rfl := Option.some.inj hf
                  exact ih1 (Md_set_into (Md_set_endedBy x f102) f116) (v5 + 1) hk1 _ _ _ hP hD hS (lv_sub hl [1, 2, 3, 4, 5, 0] rfl)
                · refine lv_goto (tgt := 117) hx hb dX6_unites_87 (by decide) ?_
                  refine lv_iinc (v := (v5 + 1)) (lv' := [(5, .int (v5 + 1)), (0, .ref (A 0)), (1, .int v1), (2, .int v2), (3, .int v3), (4, .int v4)]) hx hb dX6_unites_117 hl (k := 5) rfl rfl (by decide) rfl (fun ls hl => ?_)
                  refine lv_goto (tgt := 61) hx hb dX6_unites_120 (by decide) ?_
                  obtain rfl := Option.some.inj hf
                  exact ih1 x (v5 + 1) hk1 _ _ _ hP hD hS (lv_sub hl [1, 2, 3, 4, 5, 0] rfl)
        exact hlp61 v4 FU x 0 hf _ _ _ hP hD hS (lv_sub hl [1, 2, 3, 4, 5, 0] rfl)
      · refine lv_aload_n hx hb dX6_unites_15 rfl (lv_at hl 0 rfl) ?_
        refine lv_iload_n hx hb dX6_unites_16 rfl (lv_at hl 2 rfl) ?_
        refine lv_iload hx hb dX6_unites_17 (lv_at hl 5 rfl) ?_
        obtain ⟨g19, hc, hf⟩ := ob_bind hf
        have hPc : va_P (dC, dI) vwCl (wMd cI cJ A x) H := hP
        refine kg_retRi (va_runV (As := [.int v2, .int v5]) (rest := []) ⟨hx, hb, hml, hown, hts⟩ (c_X6_has l dC dI cI cJ A H x v2 v5 _ hc) (cwV 2 hts (gw_V wd_14_13 wd_14_10 wd_14_11 wd_14_12 wd_1_5) rfl rfl rfl qX6_has ⟨Nat.le_of_ble_eq_true rfl, Nat.le_of_ble_eq_true rfl⟩) (kg_preVR (ci := 6) (q := (RX6, TX6, 30)) (q0 := 0) hPc hK hN rfl rfl) rfl rfl hl.1 rfl (lv_room (Nat.le_of_ble_eq_true rfl)) dX6_unites_19 ⟨Nat.zero_le _, Nat.zero_le _⟩) ?_
        refine kg_b_eq (tgt := 52) hx hb hf dX6_unites_22 (by decide) (fun hc hf => ?_) (fun hc hf => ?_)
        · refine lv_iinc (v := (v5 + 1)) (lv' := [(5, .int (v5 + 1)), (0, .ref (A 0)), (1, .int v1), (2, .int v2), (3, .int v3), (4, .int v4)]) hx hb dX6_unites_52 hl (k := 5) rfl rfl (by decide) rfl (fun ls hl => ?_)
          refine lv_goto (tgt := 6) hx hb dX6_unites_55 (by decide) ?_
          obtain rfl := Option.some.inj hf
          exact ih1 v4 (v5 + 1) hk1 _ _ _ hP hD hS (lv_sub hl [1, 2, 3, 4, 5, 0] rfl)
        · refine lv_iload hx hb dX6_unites_25 (lv_at hl 4 rfl) ?_
          refine lv_iconst (v := (-1)) hx hb dX6_unites_27 (by decide) ?_
          refine kg_icmp_eq (tgt := 48) hx hb hf dX6_unites_28 (by decide) (fun hc hf => ?_) (fun hc hf => ?_)
          · refine lv_iload hx hb dX6_unites_48 (lv_at hl 5 rfl) ?_
            refine lv_istore (lv' := [(4, .int v5), (0, .ref (A 0)), (1, .int v1), (2, .int v2), (3, .int v3), (5, .int v5)]) hx hb dX6_unites_50 hl (by decide) rfl (fun ls hl => ?_)
            refine lv_iinc (v := (v5 + 1)) (lv' := [(5, .int (v5 + 1)), (4, .int v5), (0, .ref (A 0)), (1, .int v1), (2, .int v2), (3, .int v3)]) hx hb dX6_unites_52 hl (k := 5) rfl rfl (by decide) rfl (fun ls hl => ?_)
            refine lv_goto (tgt := 6) hx hb dX6_unites_55 (by decide) ?_
            obtain rfl := Option.some.inj hf
            exact ih1 v5 (v5 + 1) hk1 _ _ _ hP hD hS (lv_sub hl [2, 3, 4, 5, 1, 0] rfl)
          · refine lv_aload_n hx hb dX6_unites_31 rfl (lv_at hl 0 rfl) ?_
            refine lv_iload_n hx hb dX6_unites_32 rfl (lv_at hl 1 rfl) ?_
            refine lv_iload hx hb dX6_unites_33 (lv_at hl 5 rfl) ?_
            obtain ⟨g35, hc, hf⟩ := ob_bind hf
            have hPc : va_P (dC, dI) vwCl (wMd cI cJ A x) H := hP
            refine kg_retRi (va_runV (As := [.int v1, .int v5]) (rest := []) ⟨hx, hb, hml, hown, hts⟩ (c_X6_sizeOf l dC dI cI cJ A H x v1 v5 _ hc) (cwV 2 hts (gw_V wd_13_21 wd_13_18 wd_13_19 wd_13_20 wd_1_5) rfl rfl rfl qX6_sizeOf ⟨Nat.le_of_ble_eq_true rfl, Nat.le_of_ble_eq_true rfl⟩) (kg_preVR (ci := 6) (q := (RX6, TX6, 30)) (q0 := 0) hPc hK hN rfl rfl) rfl rfl hl.1 rfl (lv_room (Nat.le_of_ble_eq_true rfl)) dX6_unites_35 ⟨Nat.zero_le _, Nat.zero_le _⟩) ?_
            refine lv_aload_n hx hb dX6_unites_38 rfl (lv_at hl 0 rfl) ?_
            refine lv_iload_n hx hb dX6_unites_39 rfl (lv_at hl 1 rfl) ?_
            refine lv_iload hx hb dX6_unites_40 (lv_at hl 4 rfl) ?_
            obtain ⟨g42, hc, hf⟩ := ob_bind hf
            have hPc : va_P (dC, dI) vwCl (wMd cI cJ A x) H := hP
            refine kg_retRi (va_runV (As := [.int v1, .int v4]) (rest := [.int g35]) ⟨hx, hb, hml, hown, hts⟩ (c_X6_sizeOf l dC dI cI cJ A H x v1 v4 _ hc) (cwV 2 hts (gw_V wd_13_21 wd_13_18 wd_13_19 wd_13_20 wd_1_5) rfl rfl rfl qX6_sizeOf ⟨Nat.le_of_ble_eq_true rfl, Nat.le_of_ble_eq_true rfl⟩) (kg_preVR (ci := 6) (q := (RX6, TX6, 30)) (q0 := 0) hPc hK hN rfl rfl) rfl rfl hl.1 rfl (lv_room (Nat.le_of_ble_eq_true rfl)) dX6_unites_42 ⟨Nat.zero_le _, Nat.zero_le _⟩) ?_
            refine kg_icmp_le (tgt := 52) hx hb hf dX6_unites_45 (by decide) (fun hc hf => ?_) (fun hc hf => ?_)
            · refine lv_iinc (v := (v5 + 1)) (lv' := [(5, .int (v5 + 1)), (0, .ref (A 0)), (1, .int v1), (2, .int v2), (3, .int v3), (4, .int v4)]) hx hb dX6_unites_52 hl (k := 5) rfl rfl (by decide) rfl (fun ls hl => ?_)
              refine lv_goto (tgt := 6) hx hb dX6_unites_55 (by decide) ?_
              obtain rfl := Option.some.inj hf
              exact ih1 v4 (v5 + 1) hk1 _ _ _ hP hD hS (lv_sub hl [1, 2, 3, 4, 5, 0] rfl)
            · refine lv_iload hx hb dX6_unites_48 (lv_at hl 5 rfl) ?_
              refine lv_istore (lv' := [(4, .int v5), (0, .ref (A 0)), (1, .int v1), (2, .int v2), (3, .int v3), (5, .int v5)]) hx hb dX6_unites_50 hl (by decide) rfl (fun ls hl => ?_)
              refine lv_iinc (v := (v5 + 1)) (lv' := [(5, .int (v5 + 1)), (4, .int v5), (0, .ref (A 0)), (1, .int v1), (2, .int v2), (3, .int v3)]) hx hb dX6_unites_52 hl (k := 5) rfl rfl (by decide) rfl (fun ls hl => ?_)
              refine lv_goto (tgt := 6) hx hb dX6_unites_55 (by decide) ?_
              obtain rfl := Option.some.inj hf
              exact ih1 v5 (v5 + 1) hk1 _ _ _ hP hD hS (lv_sub hl [2, 3, 4, 5, 1, 0] rfl)
  exact hlp6 x FU (-1) 0 hf _ _ _ hP hD hS (lv_sub hl [2, 3, 4, 5, 1, 0] rfl)
set_option maxHeartbeats 4000000 in
set_option maxRecDepth 100000 in
theorem c_X6_turns (l : Launch) (dC : Nat → ClassId) (dI : Nat → Nat → Nat) (cI cJ : ClassId) (A : Nat → Nat) (hq : Nat) (x : MdS) (v1 : Int32) (v2 : Int32) (v3 : Int32) (r0 : MdS) (hf : Md_m_turns x v1 v2 v3 = some r0) : MWv l yX6_turns (wAll yX6_turns cX6_turns 9 none) ({ frames := 2, cells := 0, slots := 0, locals := 61 } : Room) [.ref (A 0), .int v1, .int v2, .int v3] hq (dC, dI) (vTy cI cJ) (wMd cI cJ A x) (wMd cI cJ A r0) := by
  refine kg_metW (Qc := fun Q => QWv (dC, dI) Q (wMd cI cJ A r0)) (cc := cX6_turns) (maxL := 9) (ret := none) (by decide) rfl (Nat.le_of_ble_eq_true rfl) ?_
  intro p e s m args below meth c Q hx hb hr hts hown hlk hml hP hK hN hD hA hS ls hl
  have hl : lv_has ls 9 [(0, .ref (A 0)), (1, .int v1), (2, .int v2), (3, .int v3)] := hl
  have ww0 := hts (.fieldLink RX6 26 "SafeBlocksModel" "parent" "[I") (List.mem_cons_of_mem _ wd_8_4)
  have ww1 := hts (.fieldLink RX6 29 "SafeBlocksModel" "up" "[I") (List.mem_cons_of_mem _ wd_8_5)
  have ww2 := hts (.fieldLink RX6 102 "SafeBlocksModel" "turned" "I") (List.mem_cons_of_mem _ wd_13_6)
  have hiX6 : ∀ w ∈ u_ws RX6 TX6 30, w ∈ wAll yX6_turns cX6_turns 9 none := fun w h => List.mem_cons_of_mem _ (inlX6 w h)
  suffices hgo : ∀ (H : Heap) (locs : List Loc), va_P (dC, dI) vwCl (wMd cI cJ A x) H → va_S Q s.heap H locs → W p l e ({ frames := 2, cells := 0, slots := 0, locals := 61 } : Room) s m args below meth c H locs 0 0 (MQ below (QWv (dC, dI) Q (wMd cI cJ A r0)) args s 0 0 Q) (F0 m 0 ls []) from hgo _ _ hP hS
  clear hP hS
  intro H locs hP hS
  unfold Md_m_turns at hf
  refine lv_aload_n hx hb dX6_turns_0 rfl (lv_at hl 0 rfl) ?_
  refine lv_iload_n hx hb dX6_turns_1 rfl (lv_at hl 1 rfl) ?_
  obtain ⟨g2, hc, hf⟩ := ob_bind hf
  have hPc : va_P (dC, dI) vwCl (wMd cI cJ A x) H := hP
  refine kg_retRi (va_runV (As := [.int v1]) (rest := []) ⟨hx, hb, hml, hown, hts⟩ (c_X6_blockAt l dC dI cI cJ A H x v1 _ hc) (cwV 1 hts (gw_V wd_13_13 wd_13_10 wd_13_11 wd_13_12 wd_1_5) rfl rfl rfl qX6_blockAt ⟨Nat.le_of_ble_eq_true rfl, Nat.le_of_ble_eq_true rfl⟩) (kg_preVR (ci := 6) (q := (RX6, TX6, 30)) (q0 := 0) hPc hK hN rfl rfl) rfl rfl hl.1 rfl (lv_room (Nat.le_of_ble_eq_true rfl)) dX6_turns_2 ⟨Nat.zero_le _, Nat.zero_le _⟩) ?_
  refine lv_istore (lv' := [(4, .int g2), (0, .ref (A 0)), (1, .int v1), (2, .int v2), (3, .int v3)]) hx hb dX6_turns_5 hl (by decide) rfl (fun ls hl => ?_)
  refine lv_aload_n hx hb dX6_turns_7 rfl (lv_at hl 1 rfl) ?_
  refine lv_iload_n hx hb dX6_turns_8 rfl (lv_at hl 3 rfl) ?_
  obtain ⟨g9, hc, hf⟩ := ob_bind hf
  have hPc : va_P (dC, dI) vwCl (wMd cI cJ A x) H := hP
  refine kg_retRi (va_runV (As := [.int v2]) (rest := []) ⟨hx, hb, hml, hown, hts⟩ (c_X6_blockAt l dC dI cI cJ A H x v2 _ hc) (cwV 1 hts (gw_V wd_13_13 wd_13_10 wd_13_11 wd_13_12 wd_1_5) rfl rfl rfl qX6_blockAt ⟨Nat.le_of_ble_eq_true rfl, Nat.le_of_ble_eq_true rfl⟩) (kg_preVR (ci := 6) (q := (RX6, TX6, 30)) (q0 := 0) hPc hK hN rfl rfl) rfl rfl hl.1 rfl (lv_room (Nat.le_of_ble_eq_true rfl)) dX6_turns_9 ⟨Nat.zero_le _, Nat.zero_le _⟩) ?_
  refine lv_istore (lv' := [(5, .int g9), (4, .int g2), (0, .ref (A 0)), (1, .int v1), (2, .int v2), (3, .int v3)]) hx hb dX6_turns_12 hl (by decide) rfl (fun ls hl => ?_)
  refine lv_iload_n hx hb dX6_turns_14 rfl (lv_at hl 5 rfl) ?_
  refine lv_istore (lv' := [(6, .int v3), (5, .int g9), (4, .int g2), (0, .ref (A 0)), (1, .int v1), (2, .int v2), (3, .int v3)]) hx hb dX6_turns_15 hl (by decide) rfl (fun ls hl => ?_)
  have hlp17 : ∀ (n : Nat) (x : MdS) (v4 : Int32) (v5 : Int32) (v6 : Int32), iter (fun p : MdS × Int32 × Int32 × Int32 => Md_m_turns_s17 p.1 p.2.1 p.2.2.1 p.2.2.2) n (x, v4, v5, v6) = some r0 → ∀ (H : Heap) (locs : List Loc) (ls : Array Slot), va_P (dC, dI) vwCl (wMd cI cJ A x) H → va_D Q (wMd cI cJ A x) → va_S Q s.heap H locs → lv_has ls 9 [(0, .ref (A 0)), (4, .int v4), (5, .int v5), (6, .int v6)] → W p l e ({ frames := 2, cells := 0, slots := 0, locals := 61 } : Room) s m args below meth c H locs 0 0 (MQ below (QWv (dC, dI) Q (wMd cI cJ A r0)) args s 0 0 Q) (F0 m 17 ls []) := by
    intro  n
    induction n with
    | zero => intro x v4 v5 v6 hf; exact iter_zero hf
    | succ n ih1 =>
      intro x v4 v5 v6 hf H locs ls hP hD hS hl
      obtain ⟨q1, hf, hk1⟩ := iter_succ hf
      have hf : Md_m_turns_s17 x v4 v5 v6 = some q1 := hf
      unfold Md_m_turns_s17 at hf
      refine lv_iload hx hb dX6_turns_17 (lv_at hl 1 rfl) ?_
      refine lv_iconst (v := (-1)) hx hb dX6_turns_19 (by decide) ?_
      refine kg_icmp_eq (tgt := 84) hx hb hf dX6_turns_20 (by decide) (fun hc hf => ?_) (fun hc hf => ?_)
      · obtain ⟨qq, hf, hqq⟩ := omap_some hf
        have hkq : qq = r0 := by rw [← hqq] at hk1; exact hk1
        rw [hkq] at hf
        clear hkq hqq
        obtain rfl := Option.some.inj hf
        exact kg_vretW hx hb hr hlk hP hD hS dX6_turns_84
      · refine lv_aload_n hx hb dX6_turns_23 rfl (lv_at hl 0 rfl) ?_
        refine va_get (D := (dC, dI)) (ci := 6) (v := .ref (A 4)) (C := RX6) (T := TX6) (N := 30) hx hb hts hiX6 hown hK hP 0 rfl rfl 8 (by decide) ww0 (fun _ h9 => h9) rfl dX6_turns_24 ?_
        refine lv_iload hx hb dX6_turns_27 (lv_at hl 1 rfl) ?_
        obtain ⟨g29, hv, hf⟩ := ob_bind hf
        refine kg_iald hx hb hK hP 4 0 rfl rfl hv dX6_turns_29 ?_
        refine lv_istore (lv' := [(7, .int g29), (0, .ref (A 0)), (4, .int v4), (5, .int v5), (6, .int v6)]) hx hb dX6_turns_30 hl (by decide) rfl (fun ls hl => ?_)
        refine lv_aload_n hx hb dX6_turns_32 rfl (lv_at hl 1 rfl) ?_
        refine va_get (D := (dC, dI)) (ci := 6) (v := .ref (A 5)) (C := RX6) (T := TX6) (N := 30) hx hb hts hiX6 hown hK hP 0 rfl rfl 9 (by decide) ww1 (fun _ h9 => h9) rfl dX6_turns_33 ?_
        refine lv_iload hx hb dX6_turns_36 (lv_at hl 2 rfl) ?_
        obtain ⟨g38, hv, hf⟩ := ob_bind hf
        refine kg_iald hx hb hK hP 5 0 rfl rfl hv dX6_turns_38 ?_
        refine lv_istore (lv' := [(8, .int g38), (7, .int g29), (0, .ref (A 0)), (4, .int v4), (5, .int v5), (6, .int v6)]) hx hb dX6_turns_39 hl (by decide) rfl (fun ls hl => ?_)
        refine lv_aload_n hx hb dX6_turns_41 rfl (lv_at hl 2 rfl) ?_
        refine va_get (D := (dC, dI)) (ci := 6) (v := .ref (A 4)) (C := RX6) (T := TX6) (N := 30) hx hb hts hiX6 hown hK hP 0 rfl rfl 8 (by decide) ww0 (fun _ h9 => h9) rfl dX6_turns_42 ?_
        refine lv_iload hx hb dX6_turns_45 (lv_at hl 3 rfl) ?_
        refine lv_iload hx hb dX6_turns_47 (lv_at hl 4 rfl) ?_
        obtain ⟨f49, hv, hf⟩ := ob_bind hf
        refine kg_iast (wz := (wMd cI cJ A (Md_set_parent x f49))) hx hb hK hP hD hS 4 0 rfl rfl hv dX6_turns_49 (sc_Md_parent _ _ _ _ _) (fun H locs hP hD hS => ?_)
        refine lv_aload_n hx hb dX6_turns_50 rfl (lv_at hl 2 rfl) ?_
        refine va_get (D := (dC, dI)) (ci := 6) (v := .ref (A 5)) (C := RX6) (T := TX6) (N := 30) hx hb hts hiX6 hown hK hP 0 rfl rfl 9 (by decide) ww1 (fun _ h9 => h9) rfl dX6_turns_51 ?_
        refine lv_iload hx hb dX6_turns_54 (lv_at hl 3 rfl) ?_
        refine lv_iload hx hb dX6_turns_56 (lv_at hl 5 rfl) ?_
        obtain ⟨f58, hv, hf⟩ := ob_bind hf
        refine kg_iast (wz := (wMd cI cJ A (Md_set_up (Md_set_parent x f49) f58))) hx hb hK hP hD hS 5 0 rfl rfl hv dX6_turns_58 (sc_Md_up _ _ _ _ _) (fun H locs hP hD hS => ?_)
        refine lv_aload_n hx hb dX6_turns_59 rfl (lv_at hl 2 rfl) ?_
        refine lv_aload_n hx hb dX6_turns_60 rfl (lv_at hl 2 rfl) ?_
        refine va_get (D := (dC, dI)) (ci := 6) (v := .int (Md_turned (Md_set_up (Md_set_parent x f49) f58))) (C := RX6) (T := TX6) (N := 30) hx hb hts hiX6 hown hK hP 0 rfl rfl 14 (by decide) ww2 (fun _ h9 => h9) rfl dX6_turns_61 ?_
        refine lv_iconst (v := 1) hx hb dX6_turns_64 (by decide) ?_
        refine lv_iadd hx hb dX6_turns_65 ?_
        refine kg_put (ci := 6) (v := .int ((Md_turned (Md_set_up (Md_set_parent x f49) f58)) + 1)) (ty := .int) (C := RX6) (T := TX6) (N := 30) (wz := (wMd cI cJ A (Md_set_turned (Md_set_up (Md_set_parent x f49) f58) ((Md_turned (Md_set_up (Md_set_parent x f49) f58)) + 1)))) hx hb hts hiX6 tyX6 tyX6_ok nmX6 hown hK hP hD hS 0 rfl rfl 14 (by decide) ww2 (fun _ h9 => h9) rfl (tyX6_ok 14 (by decide)) rfl rfl (Nat.le_of_ble_eq_true rfl) dX6_turns_66 (sc_Md_turned _ _ _ _ _) (fun H locs hP hD hS => ?_)
        refine lv_iload hx hb dX6_turns_69 (lv_at hl 3 rfl) ?_
        refine lv_istore (lv' := [(5, .int v4), (8, .int g38), (7, .int g29), (0, .ref (A 0)), (4, .int v4), (6, .int v6)]) hx hb dX6_turns_71 hl (by decide) rfl (fun ls hl => ?_)
        refine lv_iload hx hb dX6_turns_73 (lv_at hl 1 rfl) ?_
        refine lv_istore (lv' := [(6, .int g38), (5, .int v4), (8, .int g38), (7, .int g29), (0, .ref (A 0)), (4, .int v4)]) hx hb dX6_turns_75 hl (by decide) rfl (fun ls hl => ?_)
        refine lv_iload hx hb dX6_turns_77 (lv_at hl 3 rfl) ?_
        refine lv_istore (lv' := [(4, .int g29), (6, .int g38), (5, .int v4), (8, .int g38), (7, .int g29), (0, .ref (A 0))]) hx hb dX6_turns_79 hl (by decide) rfl (fun ls hl => ?_)
        refine lv_goto (tgt := 17) hx hb dX6_turns_81 (by decide) ?_
        obtain rfl := Option.some.inj hf
        exact ih1 (Md_set_turned (Md_set_up (Md_set_parent x f49) f58) ((Md_turned (Md_set_up (Md_set_parent x f49) f58)) + 1)) g29 v4 g38 hk1 _ _ _ hP hD hS (lv_sub hl [5, 0, 2, 1] rfl)
  exact hlp17  FU x g2 g9 v3 hf _ _ _ hP hD hS (lv_sub hl [3, 2, 1, 0] rfl)
set_option maxHeartbeats 4000000 in
set_option maxRecDepth 100000 in
theorem c_X6_shrinks (l : Launch) (dC : Nat → ClassId) (dI : Nat → Nat → Nat) (cI cJ : ClassId) (A : Nat → Nat) (hq : Nat) (x : MdS) (v1 : Int32) (v2 : Int32) (r0 : MdS) (hf : Md_m_shrinks x v1 v2 = some r0) : MWv l yX6_shrinks (wAll yX6_shrinks cX6_shrinks 8 none) ({ frames := 3, cells := 0, slots := 0, locals := 89 } : Room) [.ref (A 0), .int v1, .int v2] hq (dC, dI) (vTy cI cJ) (wMd cI cJ A x) (wMd cI cJ A r0) := by
  refine kg_metW (Qc := fun Q => QWv (dC, dI) Q (wMd cI cJ A r0)) (cc := cX6_shrinks) (maxL := 8) (ret := none) (by decide) rfl (Nat.le_of_ble_eq_true rfl) ?_
  intro p e s m args below meth c Q hx hb hr hts hown hlk hml hP hK hN hD hA hS ls hl
  have hl : lv_has ls 8 [(0, .ref (A 0)), (1, .int v1), (2, .int v2)] := hl
  have ww0 := hts (.fieldLink RX6 7 "SafeBlocksModel" "n" "I") (List.mem_cons_of_mem _ wd_7_23)
  have ww1 := hts (.fieldLink RX6 26 "SafeBlocksModel" "parent" "[I") (List.mem_cons_of_mem _ wd_8_4)
  have ww2 := hts (.fieldLink RX6 29 "SafeBlocksModel" "up" "[I") (List.mem_cons_of_mem _ wd_8_5)
  have ww3 := hts (.fieldLink RX6 41 "SafeBlocksModel" "closedBy" "[I") (List.mem_cons_of_mem _ wd_8_9)
  have hiX6 : ∀ w ∈ u_ws RX6 TX6 30, w ∈ wAll yX6_shrinks cX6_shrinks 8 none := fun w h => List.mem_cons_of_mem _ (inlX6 w h)
  suffices hgo : ∀ (H : Heap) (locs : List Loc), va_P (dC, dI) vwCl (wMd cI cJ A x) H → va_S Q s.heap H locs → W p l e ({ frames := 3, cells := 0, slots := 0, locals := 89 } : Room) s m args below meth c H locs 0 0 (MQ below (QWv (dC, dI) Q (wMd cI cJ A r0)) args s 0 0 Q) (F0 m 0 ls []) from hgo _ _ hP hS
  clear hP hS
  intro H locs hP hS
  unfold Md_m_shrinks at hf
  refine lv_iconst (v := (-1)) hx hb dX6_shrinks_0 (by decide) ?_
  refine lv_istore_n (lv' := [(3, .int (-1)), (0, .ref (A 0)), (1, .int v1), (2, .int v2)]) hx hb dX6_shrinks_1 rfl hl (by decide) rfl (fun ls hl => ?_)
  refine lv_iconst (v := 0) hx hb dX6_shrinks_2 (by decide) ?_
  refine lv_istore (lv' := [(4, .int 0), (3, .int (-1)), (0, .ref (A 0)), (1, .int v1), (2, .int v2)]) hx hb dX6_shrinks_3 hl (by decide) rfl (fun ls hl => ?_)
  have hlp5 : ∀ (x : MdS), ∀ (n : Nat) (v3 : Int32) (v4 : Int32), iter (fun p : Int32 × Int32 => Md_m_shrinks_s5 x v1 v2 p.1 p.2) n (v3, v4) = some r0 → ∀ (H : Heap) (locs : List Loc) (ls : Array Slot), va_P (dC, dI) vwCl (wMd cI cJ A x) H → va_D Q (wMd cI cJ A x) → va_S Q s.heap H locs → lv_has ls 8 [(0, .ref (A 0)), (1, .int v1), (2, .int v2), (3, .int v3), (4, .int v4)] → W p l e ({ frames := 3, cells := 0, slots := 0, locals := 89 } : Room) s m args below meth c H locs 0 0 (MQ below (QWv (dC, dI) Q (wMd cI cJ A r0)) args s 0 0 Q) (F0 m 5 ls []) := by
    intro x n
    induction n with
    | zero => intro v3 v4 hf; exact iter_zero hf
    | succ n ih1 =>
      intro v3 v4 hf H locs ls hP hD hS hl
      obtain ⟨q1, hf, hk1⟩ := iter_succ hf
      have hf : Md_m_shrinks_s5 x v1 v2 v3 v4 = some q1 := hf
      unfold Md_m_shrinks_s5 at hf
      refine lv_iload hx hb dX6_shrinks_5 (lv_at hl 4 rfl) ?_
      refine lv_aload_n hx hb dX6_shrinks_7 rfl (lv_at hl 0 rfl) ?_
      refine va_get (D := (dC, dI)) (ci := 6) (v := .int (Md_n x)) (C := RX6) (T := TX6) (N := 30) hx hb hts hiX6 hown hK hP 0 rfl rfl 1 (by decide) ww0 (fun _ h9 => h9) rfl dX6_shrinks_8 ?_
      refine kg_icmp_ge (tgt := 52) hx hb hf dX6_shrinks_11 (by decide) (fun hc hf => ?_) (fun hc hf => ?_)
      · obtain ⟨qq, hf, hqq⟩ := omap_some hf
        have hkq : qq = r0 := by rw [← hqq] at hk1; exact hk1
        rw [hkq] at hf
        clear hkq hqq
        refine lv_iconst (v := 0) hx hb dX6_shrinks_52 (by decide) ?_
        refine lv_istore (lv' := [(4, .int 0), (0, .ref (A 0)), (1, .int v1), (2, .int v2), (3, .int v3)]) hx hb dX6_shrinks_53 hl (by decide) rfl (fun ls hl => ?_)
        have hlp55 : ∀ (v3 : Int32), ∀ (n : Nat) (x : MdS) (v4 : Int32), iter (fun p : MdS × Int32 => Md_m_shrinks_s55 v1 v2 v3 p.1 p.2) n (x, v4) = some r0 → ∀ (H : Heap) (locs : List Loc) (ls : Array Slot), va_P (dC, dI) vwCl (wMd cI cJ A x) H → va_D Q (wMd cI cJ A x) → va_S Q s.heap H locs → lv_has ls 8 [(0, .ref (A 0)), (1, .int v1), (2, .int v2), (3, .int v3), (4, .int v4)] → W p l e ({ frames := 3, cells := 0, slots := 0, locals := 89 } : Room) s m args below meth c H locs 0 0 (MQ below (QWv (dC, dI) Q (wMd cI cJ A r0)) args s 0 0 Q) (F0 m 55 ls []) := by
          intro v3 n
          induction n with
          | zero => intro x v4 hf; exact iter_zero hf
          | succ n ih1 =>
            intro x v4 hf H locs ls hP hD hS hl
            obtain ⟨q1, hf, hk1⟩ := iter_succ hf
            have hf : Md_m_shrinks_s55 v1 v2 v3 x v4 = some q1 := hf
            unfold Md_m_shrinks_s55 at hf
            refine lv_iload hx hb dX6_shrinks_55 (lv_at hl 4 rfl) ?_
            refine lv_aload_n hx hb dX6_shrinks_57 rfl (lv_at hl 0 rfl) ?_
            refine va_get (D := (dC, dI)) (ci := 6) (v := .int (Md_n x)) (C := RX6) (T := TX6) (N := 30) hx hb hts hiX6 hown hK hP 0 rfl rfl 1 (by decide) ww0 (fun _ h9 => h9) rfl dX6_shrinks_58 ?_
            refine kg_icmp_ge (tgt := 99) hx hb hf dX6_shrinks_61 (by decide) (fun hc hf => ?_) (fun hc hf => ?_)
            · obtain ⟨qq, hf, hqq⟩ := omap_some hf
              have hkq : qq = r0 := by rw [← hqq] at hk1; exact hk1
              rw [hkq] at hf
              clear hkq hqq
              refine lv_aload_n hx hb dX6_shrinks_99 rfl (lv_at hl 0 rfl) ?_
              refine va_get (D := (dC, dI)) (ci := 6) (v := .ref (A 4)) (C := RX6) (T := TX6) (N := 30) hx hb hts hiX6 hown hK hP 0 rfl rfl 8 (by decide) ww1 (fun _ h9 => h9) rfl dX6_shrinks_100 ?_
              refine lv_iload_n hx hb dX6_shrinks_103 rfl (lv_at hl 3 rfl) ?_
              obtain ⟨g104, hv, hf⟩ := ob_bind hf
              refine kg_iald hx hb hK hP 4 0 rfl rfl hv dX6_shrinks_104 ?_
              refine lv_istore (lv' := [(4, .int g104), (0, .ref (A 0)), (1, .int v1), (2, .int v2), (3, .int v3)]) hx hb dX6_shrinks_105 hl (by decide) rfl (fun ls hl => ?_)
              refine lv_aload_n hx hb dX6_shrinks_107 rfl (lv_at hl 1 rfl) ?_
              refine va_get (D := (dC, dI)) (ci := 6) (v := .ref (A 5)) (C := RX6) (T := TX6) (N := 30) hx hb hts hiX6 hown hK hP 0 rfl rfl 9 (by decide) ww2 (fun _ h9 => h9) rfl dX6_shrinks_108 ?_
              refine lv_iload_n hx hb dX6_shrinks_111 rfl (lv_at hl 4 rfl) ?_
              obtain ⟨g112, hv, hf⟩ := ob_bind hf
              refine kg_iald hx hb hK hP 5 0 rfl rfl hv dX6_shrinks_112 ?_
              refine lv_istore (lv' := [(5, .int g112), (4, .int g104), (0, .ref (A 0)), (1, .int v1), (2, .int v2), (3, .int v3)]) hx hb dX6_shrinks_113 hl (by decide) rfl (fun ls hl => ?_)
              refine lv_aload_n hx hb dX6_shrinks_115 rfl (lv_at hl 2 rfl) ?_
              refine lv_iconst (v := 0) hx hb dX6_shrinks_116 (by decide) ?_
              refine lv_iload_n hx hb dX6_shrinks_117 rfl (lv_at hl 3 rfl) ?_
              refine lv_iload_n hx hb dX6_shrinks_118 rfl (lv_at hl 4 rfl) ?_
              obtain ⟨g119, hc, hf⟩ := ob_bind hf
              have hPx := kg_eqP (kg_slf _) hP
              have hDx := kg_eqD (kg_slf _) hD
              refine kg_retWi (pre := ([] : va_W)) (wc := wMd cI cJ A x) (post := ([] : va_W)) (w1 := wMd cI cJ A g119.2) (wz := (wMd cI cJ A g119.2)) (kg_slf _).symm hPx hDx hS hA (va_runV (As := [.int 0, .int v1, .int v2]) (rest := []) ⟨hx, hb, hml, hown, hts⟩ (c_X6_unites l dC dI cI cJ A H.size x 0 v1 v2 _ hc) (cwV 3 hts (gw_V wd_14_5 wd_14_2 wd_14_3 wd_14_4 wd_1_5) rfl rfl rfl qX6_unites ⟨Nat.le_of_ble_eq_true rfl, Nat.le_of_ble_eq_true rfl⟩) (kg_preVW (ci := 6) (q := (RX6, TX6, 30)) (q0 := 0) (kg_cutP hPx) (kg_cutD hDx) hK hN rfl rfl) rfl rfl hl.1 rfl (lv_room (Nat.le_of_ble_eq_true rfl)) dX6_shrinks_119 ⟨Nat.zero_le _, Nat.zero_le _⟩) (fun H locs hP hD hS => ?_)
              refine lv_istore (lv' := [(6, .int g119.1), (5, .int g112), (4, .int g104), (0, .ref (A 0)), (1, .int v1), (2, .int v2), (3, .int v3)]) hx hb dX6_shrinks_122 hl (by decide) rfl (fun ls hl => ?_)
              refine lv_iconst (v := 0) hx hb dX6_shrinks_124 (by decide) ?_
              refine lv_istore (lv' := [(7, .int 0), (6, .int g119.1), (5, .int g112), (4, .int g104), (0, .ref (A 0)), (1, .int v1), (2, .int v2), (3, .int v3)]) hx hb dX6_shrinks_125 hl (by decide) rfl (fun ls hl => ?_)
              have hlp127 : ∀ (v4 : Int32) (v5 : Int32) (v6 : Int32), ∀ (n : Nat) (x : MdS) (v7 : Int32), iter (fun p : MdS × Int32 => Md_m_shrinks_s127 v1 v4 v5 v6 p.1 p.2) n (x, v7) = some r0 → ∀ (H : Heap) (locs : List Loc) (ls : Array Slot), va_P (dC, dI) vwCl (wMd cI cJ A x) H → va_D Q (wMd cI cJ A x) → va_S Q s.heap H locs → lv_has ls 8 [(0, .ref (A 0)), (1, .int v1), (4, .int v4), (5, .int v5), (6, .int v6), (7, .int v7)] → W p l e ({ frames := 3, cells := 0, slots := 0, locals := 89 } : Room) s m args below meth c H locs 0 0 (MQ below (QWv (dC, dI) Q (wMd cI cJ A r0)) args s 0 0 Q) (F0 m 127 ls []) := by
                intro v4 v5 v6 n
                induction n with
                | zero => intro x v7 hf; exact iter_zero hf
                | succ n ih1 =>
                  intro x v7 hf H locs ls hP hD hS hl
                  obtain ⟨q1, hf, hk1⟩ := iter_succ hf
                  have hf : Md_m_shrinks_s127 v1 v4 v5 v6 x v7 = some q1 := hf
                  unfold Md_m_shrinks_s127 at hf
                  refine lv_iload hx hb dX6_shrinks_127 (lv_at hl 5 rfl) ?_
                  refine lv_aload_n hx hb dX6_shrinks_129 rfl (lv_at hl 0 rfl) ?_
                  refine va_get (D := (dC, dI)) (ci := 6) (v := .int (Md_n x)) (C := RX6) (T := TX6) (N := 30) hx hb hts hiX6 hown hK hP 0 rfl rfl 1 (by decide) ww0 (fun _ h9 => h9) rfl dX6_shrinks_130 ?_
                  refine kg_icmp_ge (tgt := 187) hx hb hf dX6_shrinks_133 (by decide) (fun hc hf => ?_) (fun hc hf => ?_)
                  · obtain ⟨qq, hf, hqq⟩ := omap_some hf
                    have hkq : qq = r0 := by rw [← hqq] at hk1; exact hk1
                    rw [hkq] at hf
                    clear hkq hqq
                    refine lv_aload_n hx hb dX6_shrinks_187 rfl (lv_at hl 0 rfl) ?_
                    refine va_get (D := (dC, dI)) (ci := 6) (v := .ref (A 4)) (C := RX6) (T := TX6) (N := 30) hx hb hts hiX6 hown hK hP 0 rfl rfl 8 (by decide) ww1 (fun _ h9 => h9) rfl dX6_shrinks_188 ?_
                    refine lv_iload hx hb dX6_shrinks_191 (lv_at hl 4 rfl) ?_
                    refine lv_iload hx hb dX6_shrinks_193 (lv_at hl 2 rfl) ?_
                    obtain ⟨f195, hv, hf⟩ := ob_bind hf
                    refine kg_iast (wz := (wMd cI cJ A (Md_set_parent x f195))) hx hb hK hP hD hS 4 0 rfl rfl hv dX6_shrinks_195 (sc_Md_parent _ _ _ _ _) (fun H locs hP hD hS => ?_)
                    refine lv_aload_n hx hb dX6_shrinks_196 rfl (lv_at hl 0 rfl) ?_
                    refine va_get (D := (dC, dI)) (ci := 6) (v := .ref (A 5)) (C := RX6) (T := TX6) (N := 30) hx hb hts hiX6 hown hK hP 0 rfl rfl 9 (by decide) ww2 (fun _ h9 => h9) rfl dX6_shrinks_197 ?_
                    refine lv_iload hx hb dX6_shrinks_200 (lv_at hl 4 rfl) ?_
                    refine lv_iload hx hb dX6_shrinks_202 (lv_at hl 3 rfl) ?_
                    obtain ⟨f204, hv, hf⟩ := ob_bind hf
                    refine kg_iast (wz := (wMd cI cJ A (Md_set_up (Md_set_parent x f195) f204))) hx hb hK hP hD hS 5 0 rfl rfl hv dX6_shrinks_204 (sc_Md_up _ _ _ _ _) (fun H locs hP hD hS => ?_)
                    obtain rfl := Option.some.inj hf
                    exact kg_vretW hx hb hr hlk hP hD hS dX6_shrinks_205
                  · refine lv_aload_n hx hb dX6_shrinks_136 rfl (lv_at hl 0 rfl) ?_
                    refine lv_iload_n hx hb dX6_shrinks_137 rfl (lv_at hl 1 rfl) ?_
                    refine lv_iload hx hb dX6_shrinks_138 (lv_at hl 5 rfl) ?_
                    obtain ⟨g140, hc, hf⟩ := ob_bind hf
                    have hPc : va_P (dC, dI) vwCl (wMd cI cJ A x) H := hP
                    refine kg_retRi (va_runV (As := [.int v1, .int v7]) (rest := []) ⟨hx, hb, hml, hown, hts⟩ (c_X6_has l dC dI cI cJ A H x v1 v7 _ hc) (cwV 2 hts (gw_V wd_14_13 wd_14_10 wd_14_11 wd_14_12 wd_1_5) rfl rfl rfl qX6_has ⟨Nat.le_of_ble_eq_true rfl, Nat.le_of_ble_eq_true rfl⟩) (kg_preVR (ci := 6) (q := (RX6, TX6, 30)) (q0 := 0) hPc hK hN rfl rfl) rfl rfl hl.1 rfl (lv_room (Nat.le_of_ble_eq_true rfl)) dX6_shrinks_140 ⟨Nat.zero_le _, Nat.zero_le _⟩) ?_
                    refine kg_b_ne (tgt := 181) hx hb hf dX6_shrinks_143 (by decide) (fun hc hf => ?_) (fun hc hf => ?_)
                    · refine lv_iinc (v := (v7 + 1)) (lv' := [(7, .int (v7 + 1)), (0, .ref (A 0)), (1, .int v1), (4, .int v4), (5, .int v5), (6, .int v6)]) hx hb dX6_shrinks_181 hl (k := 5) rfl rfl (by decide) rfl (fun ls hl => ?_)
                      refine lv_goto (tgt := 127) hx hb dX6_shrinks_184 (by decide) ?_
                      obtain rfl := Option.some.inj hf
                      exact ih1 x (v7 + 1) hk1 _ _ _ hP hD hS (lv_sub hl [1, 2, 3, 4, 5, 0] rfl)
                    · refine lv_aload_n hx hb dX6_shrinks_146 rfl (lv_at hl 0 rfl) ?_
                      refine va_get (D := (dC, dI)) (ci := 6) (v := .ref (A 4)) (C := RX6) (T := TX6) (N := 30) hx hb hts hiX6 hown hK hP 0 rfl rfl 8 (by decide) ww1 (fun _ h9 => h9) rfl dX6_shrinks_147 ?_
                      refine lv_iload hx hb dX6_shrinks_150 (lv_at hl 5 rfl) ?_
                      obtain ⟨g152, hv, hf⟩ := ob_bind hf
                      refine kg_iald hx hb hK hP 4 0 rfl rfl hv dX6_shrinks_152 ?_
                      refine lv_iconst (v := (-1)) hx hb dX6_shrinks_153 (by decide) ?_
                      refine kg_icmp_eq (tgt := 181) hx hb hf dX6_shrinks_154 (by decide) (fun hc hf => ?_) (fun hc hf => ?_)
                      · refine lv_iinc (v := (v7 + 1)) (lv' := [(7, .int (v7 + 1)), (0, .ref (A 0)), (1, .int v1), (4, .int v4), (5, .int v5), (6, .int v6)]) hx hb dX6_shrinks_181 hl (k := 5) rfl rfl (by decide) rfl (fun ls hl => ?_)
                        refine lv_goto (tgt := 127) hx hb dX6_shrinks_184 (by decide) ?_
                        obtain rfl := Option.some.inj hf
                        exact ih1 x (v7 + 1) hk1 _ _ _ hP hD hS (lv_sub hl [1, 2, 3, 4, 5, 0] rfl)
                      · refine lv_aload_n hx hb dX6_shrinks_157 rfl (lv_at hl 0 rfl) ?_
                        refine lv_iload_n hx hb dX6_shrinks_158 rfl (lv_at hl 1 rfl) ?_
                        refine lv_aload_n hx hb dX6_shrinks_159 rfl (lv_at hl 0 rfl) ?_
                        refine va_get (D := (dC, dI)) (ci := 6) (v := .ref (A 4)) (C := RX6) (T := TX6) (N := 30) hx hb hts hiX6 hown hK hP 0 rfl rfl 8 (by decide) ww1 (fun _ h9 => h9) rfl dX6_shrinks_160 ?_
                        refine lv_iload hx hb dX6_shrinks_163 (lv_at hl 5 rfl) ?_
                        obtain ⟨g165, hv, hf⟩ := ob_bind hf
                        refine kg_iald hx hb hK hP 4 0 rfl rfl hv dX6_shrinks_165 ?_
                        obtain ⟨g166, hc, hf⟩ := ob_bind hf
                        have hPc : va_P (dC, dI) vwCl (wMd cI cJ A x) H := hP
                        refine kg_retRi (va_runV (As := [.int v1, .int g165]) (rest := []) ⟨hx, hb, hml, hown, hts⟩ (c_X6_has l dC dI cI cJ A H x v1 g165 _ hc) (cwV 2 hts (gw_V wd_14_13 wd_14_10 wd_14_11 wd_14_12 wd_1_5) rfl rfl rfl qX6_has ⟨Nat.le_of_ble_eq_true rfl, Nat.le_of_ble_eq_true rfl⟩) (kg_preVR (ci := 6) (q := (RX6, TX6, 30)) (q0 := 0) hPc hK hN rfl rfl) rfl rfl hl.1 rfl (lv_room (Nat.le_of_ble_eq_true rfl)) dX6_shrinks_166 ⟨Nat.zero_le _, Nat.zero_le _⟩) ?_
                        refine kg_b_eq (tgt := 181) hx hb hf dX6_shrinks_169 (by decide) (fun hc hf => ?_) (fun hc hf => ?_)
                        · refine lv_iinc (v := (v7 + 1)) (lv' := [(7, .int (v7 + 1)), (0, .ref (A 0)), (1, .int v1), (4, .int v4), (5, .int v5), (6, .int v6)]) hx hb dX6_shrinks_181 hl (k := 5) rfl rfl (by decide) rfl (fun ls hl => ?_)
                          refine lv_goto (tgt := 127) hx hb dX6_shrinks_184 (by decide) ?_
                          obtain rfl := Option.some.inj hf
                          exact ih1 x (v7 + 1) hk1 _ _ _ hP hD hS (lv_sub hl [1, 2, 3, 4, 5, 0] rfl)
                        · refine lv_aload_n hx hb dX6_shrinks_172 rfl (lv_at hl 0 rfl) ?_
                          refine va_get (D := (dC, dI)) (ci := 6) (v := .ref (A 4)) (C := RX6) (T := TX6) (N := 30) hx hb hts hiX6 hown hK hP 0 rfl rfl 8 (by decide) ww1 (fun _ h9 => h9) rfl dX6_shrinks_173 ?_
                          refine lv_iload hx hb dX6_shrinks_176 (lv_at hl 5 rfl) ?_
                          refine lv_iload hx hb dX6_shrinks_178 (lv_at hl 4 rfl) ?_
                          obtain ⟨f180, hv, hf⟩ := ob_bind hf
                          refine kg_iast (wz := (wMd cI cJ A (Md_set_parent x f180))) hx hb hK hP hD hS 4 0 rfl rfl hv dX6_shrinks_180 (sc_Md_parent _ _ _ _ _) (fun H locs hP hD hS => ?_)
                          refine lv_iinc (v := (v7 + 1)) (lv' := [(7, .int (v7 + 1)), (0, .ref (A 0)), (1, .int v1), (4, .int v4), (5, .int v5), (6, .int v6)]) hx hb dX6_shrinks_181 hl (k := 5) rfl rfl (by decide) rfl (fun ls hl => ?_)
                          refine lv_goto (tgt := 127) hx hb dX6_shrinks_184 (by decide) ?_
                          obtain rfl := Option.some.inj hf
                          exact ih1 (Md_set_parent x f180) (v7 + 1) hk1 _ _ _ hP hD hS (lv_sub hl [1, 2, 3, 4, 5, 0] rfl)
              exact hlp127 g104 g112 g119.1 FU g119.2 0 hf _ _ _ hP hD hS (lv_sub hl [4, 5, 3, 2, 1, 0] rfl)
            · refine lv_aload_n hx hb dX6_shrinks_64 rfl (lv_at hl 0 rfl) ?_
              refine lv_iload_n hx hb dX6_shrinks_65 rfl (lv_at hl 1 rfl) ?_
              refine lv_iload hx hb dX6_shrinks_66 (lv_at hl 4 rfl) ?_
              obtain ⟨g68, hc, hf⟩ := ob_bind hf
              have hPc : va_P (dC, dI) vwCl (wMd cI cJ A x) H := hP
              refine kg_retRi (va_runV (As := [.int v1, .int v4]) (rest := []) ⟨hx, hb, hml, hown, hts⟩ (c_X6_has l dC dI cI cJ A H x v1 v4 _ hc) (cwV 2 hts (gw_V wd_14_13 wd_14_10 wd_14_11 wd_14_12 wd_1_5) rfl rfl rfl qX6_has ⟨Nat.le_of_ble_eq_true rfl, Nat.le_of_ble_eq_true rfl⟩) (kg_preVR (ci := 6) (q := (RX6, TX6, 30)) (q0 := 0) hPc hK hN rfl rfl) rfl rfl hl.1 rfl (lv_room (Nat.le_of_ble_eq_true rfl)) dX6_shrinks_68 ⟨Nat.zero_le _, Nat.zero_le _⟩) ?_
              refine kg_b_eq (tgt := 93) hx hb hf dX6_shrinks_71 (by decide) (fun hc hf => ?_) (fun hc hf => ?_)
              · refine lv_iinc (v := (v4 + 1)) (lv' := [(4, .int (v4 + 1)), (0, .ref (A 0)), (1, .int v1), (2, .int v2), (3, .int v3)]) hx hb dX6_shrinks_93 hl (k := 4) rfl rfl (by decide) rfl (fun ls hl => ?_)
                refine lv_goto (tgt := 55) hx hb dX6_shrinks_96 (by decide) ?_
                obtain rfl := Option.some.inj hf
                exact ih1 x (v4 + 1) hk1 _ _ _ hP hD hS (lv_sub hl [1, 2, 3, 4, 0] rfl)
              · refine lv_iload hx hb dX6_shrinks_74 (lv_at hl 4 rfl) ?_
                refine lv_iload_n hx hb dX6_shrinks_76 rfl (lv_at hl 3 rfl) ?_
                refine kg_icmp_eq (tgt := 93) hx hb hf dX6_shrinks_77 (by decide) (fun hc hf => ?_) (fun hc hf => ?_)
                · refine lv_iinc (v := (v4 + 1)) (lv' := [(4, .int (v4 + 1)), (0, .ref (A 0)), (1, .int v1), (2, .int v2), (3, .int v3)]) hx hb dX6_shrinks_93 hl (k := 4) rfl rfl (by decide) rfl (fun ls hl => ?_)
                  refine lv_goto (tgt := 55) hx hb dX6_shrinks_96 (by decide) ?_
                  obtain rfl := Option.some.inj hf
                  exact ih1 x (v4 + 1) hk1 _ _ _ hP hD hS (lv_sub hl [1, 2, 3, 4, 0] rfl)
                · refine lv_aload_n hx hb dX6_shrinks_80 rfl (lv_at hl 0 rfl) ?_
                  refine va_get (D := (dC, dI)) (ci := 6) (v := .ref (A 9)) (C := RX6) (T := TX6) (N := 30) hx hb hts hiX6 hown hK hP 0 rfl rfl 13 (by decide) ww3 (fun _ h9 => h9) rfl dX6_shrinks_81 ?_
                  refine lv_aload_n hx hb dX6_shrinks_84 rfl (lv_at hl 0 rfl) ?_
                  refine va_get (D := (dC, dI)) (ci := 6) (v := .ref (A 5)) (C := RX6) (T := TX6) (N := 30) hx hb hts hiX6 hown hK hP 0 rfl rfl 9 (by decide) ww2 (fun _ h9 => h9) rfl dX6_shrinks_85 ?_
                  refine lv_iload hx hb dX6_shrinks_88 (lv_at hl 4 rfl) ?_
                  obtain ⟨g90, hv, hf⟩ := ob_bind hf
                  refine kg_iald hx hb hK hP 5 0 rfl rfl hv dX6_shrinks_90 ?_
                  refine lv_iload_n hx hb dX6_shrinks_91 rfl (lv_at hl 2 rfl) ?_
                  obtain ⟨f92, hv, hf⟩ := ob_bind hf
                  refine kg_iast (wz := (wMd cI cJ A (Md_set_closedBy x f92))) hx hb hK hP hD hS 9 0 rfl rfl hv dX6_shrinks_92 (sc_Md_closedBy _ _ _ _ _) (fun H locs hP hD hS => ?_)
                  refine lv_iinc (v := (v4 + 1)) (lv' := [(4, .int (v4 + 1)), (0, .ref (A 0)), (1, .int v1), (2, .int v2), (3, .int v3)]) hx hb dX6_shrinks_93 hl (k := 4) rfl rfl (by decide) rfl (fun ls hl => ?_)
                  refine lv_goto (tgt := 55) hx hb dX6_shrinks_96 (by decide) ?_
                  obtain rfl := Option.some.inj hf
                  exact ih1 (Md_set_closedBy x f92) (v4 + 1) hk1 _ _ _ hP hD hS (lv_sub hl [1, 2, 3, 4, 0] rfl)
        exact hlp55 v3 FU x 0 hf _ _ _ hP hD hS (lv_sub hl [1, 2, 3, 4, 0] rfl)
      · refine lv_aload_n hx hb dX6_shrinks_14 rfl (lv_at hl 0 rfl) ?_
        refine lv_iload_n hx hb dX6_shrinks_15 rfl (lv_at hl 1 rfl) ?_
        refine lv_iload hx hb dX6_shrinks_16 (lv_at hl 4 rfl) ?_
        obtain ⟨g18, hc, hf⟩ := ob_bind hf
        have hPc : va_P (dC, dI) vwCl (wMd cI cJ A x) H := hP
        refine kg_retRi (va_runV (As := [.int v1, .int v4]) (rest := []) ⟨hx, hb, hml, hown, hts⟩ (c_X6_has l dC dI cI cJ A H x v1 v4 _ hc) (cwV 2 hts (gw_V wd_14_13 wd_14_10 wd_14_11 wd_14_12 wd_1_5) rfl rfl rfl qX6_has ⟨Nat.le_of_ble_eq_true rfl, Nat.le_of_ble_eq_true rfl⟩) (kg_preVR (ci := 6) (q := (RX6, TX6, 30)) (q0 := 0) hPc hK hN rfl rfl) rfl rfl hl.1 rfl (lv_room (Nat.le_of_ble_eq_true rfl)) dX6_shrinks_18 ⟨Nat.zero_le _, Nat.zero_le _⟩) ?_
        refine kg_b_eq (tgt := 46) hx hb hf dX6_shrinks_21 (by decide) (fun hc hf => ?_) (fun hc hf => ?_)
        · refine lv_iinc (v := (v4 + 1)) (lv' := [(4, .int (v4 + 1)), (0, .ref (A 0)), (1, .int v1), (2, .int v2), (3, .int v3)]) hx hb dX6_shrinks_46 hl (k := 4) rfl rfl (by decide) rfl (fun ls hl => ?_)
          refine lv_goto (tgt := 5) hx hb dX6_shrinks_49 (by decide) ?_
          obtain rfl := Option.some.inj hf
          exact ih1 v3 (v4 + 1) hk1 _ _ _ hP hD hS (lv_sub hl [1, 2, 3, 4, 0] rfl)
        · refine lv_iload_n hx hb dX6_shrinks_24 rfl (lv_at hl 3 rfl) ?_
          refine lv_iconst (v := (-1)) hx hb dX6_shrinks_25 (by decide) ?_
          refine kg_icmp_eq (tgt := 43) hx hb hf dX6_shrinks_26 (by decide) (fun hc hf => ?_) (fun hc hf => ?_)
          · refine lv_iload hx hb dX6_shrinks_43 (lv_at hl 4 rfl) ?_
            refine lv_istore_n (lv' := [(3, .int v4), (0, .ref (A 0)), (1, .int v1), (2, .int v2), (4, .int v4)]) hx hb dX6_shrinks_45 rfl hl (by decide) rfl (fun ls hl => ?_)
            refine lv_iinc (v := (v4 + 1)) (lv' := [(4, .int (v4 + 1)), (3, .int v4), (0, .ref (A 0)), (1, .int v1), (2, .int v2)]) hx hb dX6_shrinks_46 hl (k := 4) rfl rfl (by decide) rfl (fun ls hl => ?_)
            refine lv_goto (tgt := 5) hx hb dX6_shrinks_49 (by decide) ?_
            obtain rfl := Option.some.inj hf
            exact ih1 v4 (v4 + 1) hk1 _ _ _ hP hD hS (lv_sub hl [2, 3, 4, 1, 0] rfl)
          · refine lv_aload_n hx hb dX6_shrinks_29 rfl (lv_at hl 0 rfl) ?_
            refine lv_iload hx hb dX6_shrinks_30 (lv_at hl 4 rfl) ?_
            obtain ⟨g32, hc, hf⟩ := ob_bind hf
            have hPc : va_P (dC, dI) vwCl (wMd cI cJ A x) H := hP
            refine kg_retRi (va_runV (As := [.int v4]) (rest := []) ⟨hx, hb, hml, hown, hts⟩ (c_X6_deep l dC dI cI cJ A H x v4 _ hc) (cwV 1 hts (gw_V wd_14_21 wd_14_18 wd_14_19 wd_14_20 wd_1_5) rfl rfl rfl qX6_deep ⟨Nat.le_of_ble_eq_true rfl, Nat.le_of_ble_eq_true rfl⟩) (kg_preVR (ci := 6) (q := (RX6, TX6, 30)) (q0 := 0) hPc hK hN rfl rfl) rfl rfl hl.1 rfl (lv_room (Nat.le_of_ble_eq_true rfl)) dX6_shrinks_32 ⟨Nat.zero_le _, Nat.zero_le _⟩) ?_
            refine lv_aload_n hx hb dX6_shrinks_35 rfl (lv_at hl 0 rfl) ?_
            refine lv_iload_n hx hb dX6_shrinks_36 rfl (lv_at hl 3 rfl) ?_
            obtain ⟨g37, hc, hf⟩ := ob_bind hf
            have hPc : va_P (dC, dI) vwCl (wMd cI cJ A x) H := hP
            refine kg_retRi (va_runV (As := [.int v3]) (rest := [.int g32]) ⟨hx, hb, hml, hown, hts⟩ (c_X6_deep l dC dI cI cJ A H x v3 _ hc) (cwV 1 hts (gw_V wd_14_21 wd_14_18 wd_14_19 wd_14_20 wd_1_5) rfl rfl rfl qX6_deep ⟨Nat.le_of_ble_eq_true rfl, Nat.le_of_ble_eq_true rfl⟩) (kg_preVR (ci := 6) (q := (RX6, TX6, 30)) (q0 := 0) hPc hK hN rfl rfl) rfl rfl hl.1 rfl (lv_room (Nat.le_of_ble_eq_true rfl)) dX6_shrinks_37 ⟨Nat.zero_le _, Nat.zero_le _⟩) ?_
            refine kg_icmp_ge (tgt := 46) hx hb hf dX6_shrinks_40 (by decide) (fun hc hf => ?_) (fun hc hf => ?_)
            · refine lv_iinc (v := (v4 + 1)) (lv' := [(4, .int (v4 + 1)), (0, .ref (A 0)), (1, .int v1), (2, .int v2), (3, .int v3)]) hx hb dX6_shrinks_46 hl (k := 4) rfl rfl (by decide) rfl (fun ls hl => ?_)
              refine lv_goto (tgt := 5) hx hb dX6_shrinks_49 (by decide) ?_
              obtain rfl := Option.some.inj hf
              exact ih1 v3 (v4 + 1) hk1 _ _ _ hP hD hS (lv_sub hl [1, 2, 3, 4, 0] rfl)
            · refine lv_iload hx hb dX6_shrinks_43 (lv_at hl 4 rfl) ?_
              refine lv_istore_n (lv' := [(3, .int v4), (0, .ref (A 0)), (1, .int v1), (2, .int v2), (4, .int v4)]) hx hb dX6_shrinks_45 rfl hl (by decide) rfl (fun ls hl => ?_)
              refine lv_iinc (v := (v4 + 1)) (lv' := [(4, .int (v4 + 1)), (3, .int v4), (0, .ref (A 0)), (1, .int v1), (2, .int v2)]) hx hb dX6_shrinks_46 hl (k := 4) rfl rfl (by decide) rfl (fun ls hl => ?_)
              refine lv_goto (tgt := 5) hx hb dX6_shrinks_49 (by decide) ?_
              obtain rfl := Option.some.inj hf
              exact ih1 v4 (v4 + 1) hk1 _ _ _ hP hD hS (lv_sub hl [2, 3, 4, 1, 0] rfl)
  exact hlp5 x FU (-1) 0 hf _ _ _ hP hD hS (lv_sub hl [2, 3, 4, 1, 0] rfl)
set_option maxHeartbeats 4000000 in
set_option maxRecDepth 100000 in
theorem c_X6_comes (l : Launch) (dC : Nat → ClassId) (dI : Nat → Nat → Nat) (cI cJ : ClassId) (A : Nat → Nat) (hq : Nat) (x : MdS) (v1 : Int32) (r0 : MdS) (hf : Md_m_comes x v1 = some r0) : MWv l yX6_comes (wAll yX6_comes cX6_comes 7 none) ({ frames := 4, cells := 0, slots := 0, locals := 116 } : Room) [.ref (A 0), .int v1] hq (dC, dI) (vTy cI cJ) (wMd cI cJ A x) (wMd cI cJ A r0) := by
  refine kg_metW (Qc := fun Q => QWv (dC, dI) Q (wMd cI cJ A r0)) (cc := cX6_comes) (maxL := 7) (ret := none) (by decide) rfl (Nat.le_of_ble_eq_true rfl) ?_
  intro p e s m args below meth c Q hx hb hr hts hown hlk hml hP hK hN hD hA hS ls hl
  have hl : lv_has ls 7 [(0, .ref (A 0)), (1, .int v1)] := hl
  have ww0 := hts (.fieldLink RX6 13 "SafeBlocksModel" "first" "[I") (List.mem_cons_of_mem _ wd_8_0)
  have ww1 := hts (.fieldLink RX6 17 "SafeBlocksModel" "second" "[I") (List.mem_cons_of_mem _ wd_8_1)
  have ww2 := hts (.fieldLink RX6 102 "SafeBlocksModel" "turned" "I") (List.mem_cons_of_mem _ wd_13_6)
  have ww3 := hts (.fieldLink RX6 112 "SafeBlocksModel" "became" "I") (List.mem_cons_of_mem _ wd_13_7)
  have ww4 := hts (.fieldLink RX6 115 "SafeBlocksModel" "firstName" "I") (List.mem_cons_of_mem _ wd_13_8)
  have ww5 := hts (.fieldLink RX6 118 "SafeBlocksModel" "secondName" "I") (List.mem_cons_of_mem _ wd_13_9)
  have ww6 := hts (.fieldLink RX6 41 "SafeBlocksModel" "closedBy" "[I") (List.mem_cons_of_mem _ wd_8_9)
  have hiX6 : ∀ w ∈ u_ws RX6 TX6 30, w ∈ wAll yX6_comes cX6_comes 7 none := fun w h => List.mem_cons_of_mem _ (inlX6 w h)
  suffices hgo : ∀ (H : Heap) (locs : List Loc), va_P (dC, dI) vwCl (wMd cI cJ A x) H → va_S Q s.heap H locs → W p l e ({ frames := 4, cells := 0, slots := 0, locals := 116 } : Room) s m args below meth c H locs 0 0 (MQ below (QWv (dC, dI) Q (wMd cI cJ A r0)) args s 0 0 Q) (F0 m 0 ls []) from hgo _ _ hP hS
  clear hP hS
  intro H locs hP hS
  unfold Md_m_comes at hf
  have hj149 : ∀ (x : MdS) (v2 : Int32) (v3 : Int32), Md_m_comes_j149 x v1 v2 v3 = some r0 → ∀ (H : Heap) (locs : List Loc) (ls : Array Slot), va_P (dC, dI) vwCl (wMd cI cJ A x) H → va_D Q (wMd cI cJ A x) → va_S Q s.heap H locs → lv_has ls 7 [(0, .ref (A 0)), (1, .int v1), (2, .int v2), (3, .int v3)] → W p l e ({ frames := 4, cells := 0, slots := 0, locals := 116 } : Room) s m args below meth c H locs 0 0 (MQ below (QWv (dC, dI) Q (wMd cI cJ A r0)) args s 0 0 Q) (F0 m 149 ls []) := by
    intro x v2 v3 hf H locs ls hP hD hS hl
    unfold Md_m_comes_j149 at hf
    refine lv_aload_n hx hb dX6_comes_149 rfl (lv_at hl 0 rfl) ?_
    refine lv_iconst (v := 1) hx hb dX6_comes_150 (by decide) ?_
    refine lv_iconst (v := 1) hx hb dX6_comes_151 (by decide) ?_
    refine lv_aload_n hx hb dX6_comes_152 rfl (lv_at hl 0 rfl) ?_
    refine lv_iload_n hx hb dX6_comes_153 rfl (lv_at hl 2 rfl) ?_
    obtain ⟨g154, hc, hf⟩ := ob_bind hf
    have hPc : va_P (dC, dI) vwCl (wMd cI cJ A x) H := hP
    refine kg_retRi (va_runV (As := [.int v2]) (rest := [.int 1, .int 1, .ref (A 0)]) ⟨hx, hb, hml, hown, hts⟩ (c_X6_landOf l dC dI cI cJ A H x v2 _ hc) (cwV 1 hts (gw_V wd_13_17 wd_13_14 wd_13_15 wd_13_16 wd_1_5) rfl rfl rfl qX6_landOf ⟨Nat.le_of_ble_eq_true rfl, Nat.le_of_ble_eq_true rfl⟩) (kg_preVR (ci := 6) (q := (RX6, TX6, 30)) (q0 := 0) hPc hK hN rfl rfl) rfl rfl hl.1 rfl (lv_room (Nat.le_of_ble_eq_true rfl)) dX6_comes_154 ⟨Nat.zero_le _, Nat.zero_le _⟩) ?_
    refine lv_ishl hx hb dX6_comes_157 ?_
    refine lv_iconst (v := 1) hx hb dX6_comes_158 (by decide) ?_
    refine lv_aload_n hx hb dX6_comes_159 rfl (lv_at hl 0 rfl) ?_
    refine lv_iload_n hx hb dX6_comes_160 rfl (lv_at hl 3 rfl) ?_
    obtain ⟨g161, hc, hf⟩ := ob_bind hf
    have hPc : va_P (dC, dI) vwCl (wMd cI cJ A x) H := hP
    refine kg_retRi (va_runV (As := [.int v3]) (rest := [.int 1, .int (1 <<< (g154 &&& 31)), .int 1, .ref (A 0)]) ⟨hx, hb, hml, hown, hts⟩ (c_X6_landOf l dC dI cI cJ A H x v3 _ hc) (cwV 1 hts (gw_V wd_13_17 wd_13_14 wd_13_15 wd_13_16 wd_1_5) rfl rfl rfl qX6_landOf ⟨Nat.le_of_ble_eq_true rfl, Nat.le_of_ble_eq_true rfl⟩) (kg_preVR (ci := 6) (q := (RX6, TX6, 30)) (q0 := 0) hPc hK hN rfl rfl) rfl rfl hl.1 rfl (lv_room (Nat.le_of_ble_eq_true rfl)) dX6_comes_161 ⟨Nat.zero_le _, Nat.zero_le _⟩) ?_
    refine lv_ishl hx hb dX6_comes_164 ?_
    refine lv_ior hx hb dX6_comes_165 ?_
    refine lv_iload_n hx hb dX6_comes_166 rfl (lv_at hl 1 rfl) ?_
    obtain ⟨g167, hc, hf⟩ := ob_bind hf
    have hPx := kg_eqP (kg_slf _) hP
    have hDx := kg_eqD (kg_slf _) hD
    refine kg_retWi (pre := ([] : va_W)) (wc := wMd cI cJ A x) (post := ([] : va_W)) (w1 := wMd cI cJ A g167.2) (wz := (wMd cI cJ A g167.2)) (kg_slf _).symm hPx hDx hS hA (va_runV (As := [.int 1, .int ((1 <<< (g154 &&& 31)) ||| (1 <<< (g161 &&& 31))), .int v1]) (rest := []) ⟨hx, hb, hml, hown, hts⟩ (c_X6_unites l dC dI cI cJ A H.size x 1 ((1 <<< (g154 &&& 31)) ||| (1 <<< (g161 &&& 31))) v1 _ hc) (cwV 3 hts (gw_V wd_14_5 wd_14_2 wd_14_3 wd_14_4 wd_1_5) rfl rfl rfl qX6_unites ⟨Nat.le_of_ble_eq_true rfl, Nat.le_of_ble_eq_true rfl⟩) (kg_preVW (ci := 6) (q := (RX6, TX6, 30)) (q0 := 0) (kg_cutP hPx) (kg_cutD hDx) hK hN rfl rfl) rfl rfl hl.1 rfl (lv_room (Nat.le_of_ble_eq_true rfl)) dX6_comes_167 ⟨Nat.zero_le _, Nat.zero_le _⟩) (fun H locs hP hD hS => ?_)
    refine lv_pop hx hb dX6_comes_170 rfl ?_
    refine lv_goto (tgt := 220) hx hb dX6_comes_171 (by decide) ?_
    obtain rfl := Option.some.inj hf
    exact kg_vretW hx hb hr hlk hP hD hS dX6_comes_220
  have hj125 : ∀ (x : MdS) (v2 : Int32) (v3 : Int32) (w0 : Int32), Md_m_comes_j125 x v1 v2 v3 w0 = some r0 → ∀ (H : Heap) (locs : List Loc) (ls : Array Slot), va_P (dC, dI) vwCl (wMd cI cJ A x) H → va_D Q (wMd cI cJ A x) → va_S Q s.heap H locs → lv_has ls 7 [(0, .ref (A 0)), (1, .int v1), (2, .int v2), (3, .int v3)] → W p l e ({ frames := 4, cells := 0, slots := 0, locals := 116 } : Room) s m args below meth c H locs 0 0 (MQ below (QWv (dC, dI) Q (wMd cI cJ A r0)) args s 0 0 Q) (F0 m 125 ls [.int w0]) := by
    intro x v2 v3 w0 hf H locs ls hP hD hS hl
    unfold Md_m_comes_j125 at hf
    refine lv_istore (lv' := [(6, .int w0), (0, .ref (A 0)), (1, .int v1), (2, .int v2), (3, .int v3)]) hx hb dX6_comes_125 hl (by decide) rfl (fun ls hl => ?_)
    refine lv_iload hx hb dX6_comes_127 (lv_at hl 0 rfl) ?_
    refine kg_if_eq (tgt := 142) hx hb hf dX6_comes_129 (by decide) (fun hc hf => ?_) (fun hc hf => ?_)
    · refine lv_aload_n hx hb dX6_comes_142 rfl (lv_at hl 1 rfl) ?_
      refine lv_iload_n hx hb dX6_comes_143 rfl (lv_at hl 4 rfl) ?_
      refine lv_iload_n hx hb dX6_comes_144 rfl (lv_at hl 3 rfl) ?_
      refine lv_iload_n hx hb dX6_comes_145 rfl (lv_at hl 2 rfl) ?_
      obtain ⟨g146, hc, hf⟩ := ob_bind hf
      have hPx := kg_eqP (kg_slf _) hP
      have hDx := kg_eqD (kg_slf _) hD
      refine kg_retWv (pre := ([] : va_W)) (wc := wMd cI cJ A x) (post := ([] : va_W)) (w1 := wMd cI cJ A g146) (wz := (wMd cI cJ A g146)) (kg_slf _).symm hPx hDx hS hA (va_runV (As := [.int v3, .int v2, .int v1]) (rest := []) ⟨hx, hb, hml, hown, hts⟩ (c_X6_turns l dC dI cI cJ A H.size x v3 v2 v1 _ hc) (cwV 3 hts (gw_V wd_14_1 wd_13_22 wd_13_23 wd_14_0 wd_1_5) rfl rfl rfl qX6_turns ⟨Nat.le_of_ble_eq_true rfl, Nat.le_of_ble_eq_true rfl⟩) (kg_preVW (ci := 6) (q := (RX6, TX6, 30)) (q0 := 0) (kg_cutP hPx) (kg_cutD hDx) hK hN rfl rfl) rfl rfl hl.1 rfl (lv_room (Nat.le_of_ble_eq_true rfl)) dX6_comes_146 ⟨Nat.zero_le _, Nat.zero_le _⟩) (fun H locs hP hD hS => ?_)
      exact hj149 g146 v2 v3 hf _ _ _ hP hD hS (lv_sub hl [1, 2, 3, 4] rfl)
    · refine lv_aload_n hx hb dX6_comes_132 rfl (lv_at hl 1 rfl) ?_
      refine lv_iload_n hx hb dX6_comes_133 rfl (lv_at hl 3 rfl) ?_
      refine lv_iload_n hx hb dX6_comes_134 rfl (lv_at hl 4 rfl) ?_
      refine lv_iload_n hx hb dX6_comes_135 rfl (lv_at hl 2 rfl) ?_
      obtain ⟨g136, hc, hf⟩ := ob_bind hf
      have hPx := kg_eqP (kg_slf _) hP
      have hDx := kg_eqD (kg_slf _) hD
      refine kg_retWv (pre := ([] : va_W)) (wc := wMd cI cJ A x) (post := ([] : va_W)) (w1 := wMd cI cJ A g136) (wz := (wMd cI cJ A g136)) (kg_slf _).symm hPx hDx hS hA (va_runV (As := [.int v2, .int v3, .int v1]) (rest := []) ⟨hx, hb, hml, hown, hts⟩ (c_X6_turns l dC dI cI cJ A H.size x v2 v3 v1 _ hc) (cwV 3 hts (gw_V wd_14_1 wd_13_22 wd_13_23 wd_14_0 wd_1_5) rfl rfl rfl qX6_turns ⟨Nat.le_of_ble_eq_true rfl, Nat.le_of_ble_eq_true rfl⟩) (kg_preVW (ci := 6) (q := (RX6, TX6, 30)) (q0 := 0) (kg_cutP hPx) (kg_cutD hDx) hK hN rfl rfl) rfl rfl hl.1 rfl (lv_room (Nat.le_of_ble_eq_true rfl)) dX6_comes_136 ⟨Nat.zero_le _, Nat.zero_le _⟩) (fun H locs hP hD hS => ?_)
      refine lv_goto (tgt := 149) hx hb dX6_comes_139 (by decide) ?_
      exact hj149 g136 v2 v3 hf _ _ _ hP hD hS (lv_sub hl [1, 2, 3, 4] rfl)
  refine lv_aload_n hx hb dX6_comes_0 rfl (lv_at hl 0 rfl) ?_
  refine va_get (D := (dC, dI)) (ci := 6) (v := .ref (A 1)) (C := RX6) (T := TX6) (N := 30) hx hb hts hiX6 hown hK hP 0 rfl rfl 4 (by decide) ww0 (fun _ h9 => h9) rfl dX6_comes_1 ?_
  refine lv_iload_n hx hb dX6_comes_4 rfl (lv_at hl 1 rfl) ?_
  obtain ⟨g5, hv, hf⟩ := ob_bind hf
  refine kg_iald hx hb hK hP 1 0 rfl rfl hv dX6_comes_5 ?_
  refine lv_istore_n (lv' := [(2, .int g5), (0, .ref (A 0)), (1, .int v1)]) hx hb dX6_comes_6 rfl hl (by decide) rfl (fun ls hl => ?_)
  refine lv_aload_n hx hb dX6_comes_7 rfl (lv_at hl 1 rfl) ?_
  refine va_get (D := (dC, dI)) (ci := 6) (v := .ref (A 2)) (C := RX6) (T := TX6) (N := 30) hx hb hts hiX6 hown hK hP 0 rfl rfl 5 (by decide) ww1 (fun _ h9 => h9) rfl dX6_comes_8 ?_
  refine lv_iload_n hx hb dX6_comes_11 rfl (lv_at hl 2 rfl) ?_
  obtain ⟨g12, hv, hf⟩ := ob_bind hf
  refine kg_iald hx hb hK hP 2 0 rfl rfl hv dX6_comes_12 ?_
  refine lv_istore_n (lv' := [(3, .int g12), (2, .int g5), (0, .ref (A 0)), (1, .int v1)]) hx hb dX6_comes_13 rfl hl (by decide) rfl (fun ls hl => ?_)
  refine lv_aload_n hx hb dX6_comes_14 rfl (lv_at hl 2 rfl) ?_
  refine lv_iconst (v := 0) hx hb dX6_comes_15 (by decide) ?_
  refine kg_put (ci := 6) (v := .int 0) (ty := .int) (C := RX6) (T := TX6) (N := 30) (wz := (wMd cI cJ A (Md_set_turned x 0))) hx hb hts hiX6 tyX6 tyX6_ok nmX6 hown hK hP hD hS 0 rfl rfl 14 (by decide) ww2 (fun _ h9 => h9) rfl (tyX6_ok 14 (by decide)) rfl rfl (Nat.le_of_ble_eq_true rfl) dX6_comes_16 (sc_Md_turned _ _ _ _ _) (fun H locs hP hD hS => ?_)
  refine lv_aload_n hx hb dX6_comes_19 rfl (lv_at hl 2 rfl) ?_
  refine lv_iconst (v := 1) hx hb dX6_comes_20 (by decide) ?_
  refine kg_put (ci := 6) (v := .int 1) (ty := .int) (C := RX6) (T := TX6) (N := 30) (wz := (wMd cI cJ A (Md_set_became (Md_set_turned x 0) 1))) hx hb hts hiX6 tyX6 tyX6_ok nmX6 hown hK hP hD hS 0 rfl rfl 15 (by decide) ww3 (fun _ h9 => h9) rfl (tyX6_ok 15 (by decide)) rfl rfl (Nat.le_of_ble_eq_true rfl) dX6_comes_21 (sc_Md_became _ _ _ _ _) (fun H locs hP hD hS => ?_)
  refine lv_aload_n hx hb dX6_comes_24 rfl (lv_at hl 2 rfl) ?_
  refine lv_aload_n hx hb dX6_comes_25 rfl (lv_at hl 2 rfl) ?_
  refine lv_iload_n hx hb dX6_comes_26 rfl (lv_at hl 1 rfl) ?_
  obtain ⟨g27, hc, hf⟩ := ob_bind hf
  have hPc : va_P (dC, dI) vwCl (wMd cI cJ A (Md_set_became (Md_set_turned x 0) 1)) H := hP
  refine kg_retRi (va_runV (As := [.int g5]) (rest := [.ref (A 0)]) ⟨hx, hb, hml, hown, hts⟩ (c_X6_blockAt l dC dI cI cJ A H (Md_set_became (Md_set_turned x 0) 1) g5 _ hc) (cwV 1 hts (gw_V wd_13_13 wd_13_10 wd_13_11 wd_13_12 wd_1_5) rfl rfl rfl qX6_blockAt ⟨Nat.le_of_ble_eq_true rfl, Nat.le_of_ble_eq_true rfl⟩) (kg_preVR (ci := 6) (q := (RX6, TX6, 30)) (q0 := 0) hPc hK hN rfl rfl) rfl rfl hl.1 rfl (lv_room (Nat.le_of_ble_eq_true rfl)) dX6_comes_27 ⟨Nat.zero_le _, Nat.zero_le _⟩) ?_
  refine kg_put (ci := 6) (v := .int g27) (ty := .int) (C := RX6) (T := TX6) (N := 30) (wz := (wMd cI cJ A (Md_set_firstName (Md_set_became (Md_set_turned x 0) 1) g27))) hx hb hts hiX6 tyX6 tyX6_ok nmX6 hown hK hP hD hS 0 rfl rfl 16 (by decide) ww4 (fun _ h9 => h9) rfl (tyX6_ok 16 (by decide)) rfl rfl (Nat.le_of_ble_eq_true rfl) dX6_comes_30 (sc_Md_firstName _ _ _ _ _) (fun H locs hP hD hS => ?_)
  refine lv_aload_n hx hb dX6_comes_33 rfl (lv_at hl 2 rfl) ?_
  refine lv_aload_n hx hb dX6_comes_34 rfl (lv_at hl 2 rfl) ?_
  refine lv_iload_n hx hb dX6_comes_35 rfl (lv_at hl 0 rfl) ?_
  obtain ⟨g36, hc, hf⟩ := ob_bind hf
  have hPc : va_P (dC, dI) vwCl (wMd cI cJ A (Md_set_firstName (Md_set_became (Md_set_turned x 0) 1) g27)) H := hP
  refine kg_retRi (va_runV (As := [.int g12]) (rest := [.ref (A 0)]) ⟨hx, hb, hml, hown, hts⟩ (c_X6_blockAt l dC dI cI cJ A H (Md_set_firstName (Md_set_became (Md_set_turned x 0) 1) g27) g12 _ hc) (cwV 1 hts (gw_V wd_13_13 wd_13_10 wd_13_11 wd_13_12 wd_1_5) rfl rfl rfl qX6_blockAt ⟨Nat.le_of_ble_eq_true rfl, Nat.le_of_ble_eq_true rfl⟩) (kg_preVR (ci := 6) (q := (RX6, TX6, 30)) (q0 := 0) hPc hK hN rfl rfl) rfl rfl hl.1 rfl (lv_room (Nat.le_of_ble_eq_true rfl)) dX6_comes_36 ⟨Nat.zero_le _, Nat.zero_le _⟩) ?_
  refine kg_put (ci := 6) (v := .int g36) (ty := .int) (C := RX6) (T := TX6) (N := 30) (wz := (wMd cI cJ A (Md_set_secondName (Md_set_firstName (Md_set_became (Md_set_turned x 0) 1) g27) g36))) hx hb hts hiX6 tyX6 tyX6_ok nmX6 hown hK hP hD hS 0 rfl rfl 17 (by decide) ww5 (fun _ h9 => h9) rfl (tyX6_ok 17 (by decide)) rfl rfl (Nat.le_of_ble_eq_true rfl) dX6_comes_39 (sc_Md_secondName _ _ _ _ _) (fun H locs hP hD hS => ?_)
  refine lv_aload_n hx hb dX6_comes_42 rfl (lv_at hl 2 rfl) ?_
  refine va_get (D := (dC, dI)) (ci := 6) (v := .ref (A 9)) (C := RX6) (T := TX6) (N := 30) hx hb hts hiX6 hown hK hP 0 rfl rfl 13 (by decide) ww6 (fun _ h9 => h9) rfl dX6_comes_43 ?_
  refine lv_iload_n hx hb dX6_comes_46 rfl (lv_at hl 3 rfl) ?_
  refine lv_iload_n hx hb dX6_comes_47 rfl (lv_at hl 3 rfl) ?_
  obtain ⟨f48, hv, hf⟩ := ob_bind hf
  refine kg_iast (wz := (wMd cI cJ A (Md_set_closedBy (Md_set_secondName (Md_set_firstName (Md_set_became (Md_set_turned x 0) 1) g27) g36) f48))) hx hb hK hP hD hS 9 0 rfl rfl hv dX6_comes_48 (sc_Md_closedBy _ _ _ _ _) (fun H locs hP hD hS => ?_)
  refine lv_aload_n hx hb dX6_comes_49 rfl (lv_at hl 2 rfl) ?_
  refine lv_iload_n hx hb dX6_comes_50 rfl (lv_at hl 1 rfl) ?_
  obtain ⟨g51, hc, hf⟩ := ob_bind hf
  have hPc : va_P (dC, dI) vwCl (wMd cI cJ A (Md_set_closedBy (Md_set_secondName (Md_set_firstName (Md_set_became (Md_set_turned x 0) 1) g27) g36) f48)) H := hP
  refine kg_retRi (va_runV (As := [.int g5]) (rest := []) ⟨hx, hb, hml, hown, hts⟩ (c_X6_landOf l dC dI cI cJ A H (Md_set_closedBy (Md_set_secondName (Md_set_firstName (Md_set_became (Md_set_turned x 0) 1) g27) g36) f48) g5 _ hc) (cwV 1 hts (gw_V wd_13_17 wd_13_14 wd_13_15 wd_13_16 wd_1_5) rfl rfl rfl qX6_landOf ⟨Nat.le_of_ble_eq_true rfl, Nat.le_of_ble_eq_true rfl⟩) (kg_preVR (ci := 6) (q := (RX6, TX6, 30)) (q0 := 0) hPc hK hN rfl rfl) rfl rfl hl.1 rfl (lv_room (Nat.le_of_ble_eq_true rfl)) dX6_comes_51 ⟨Nat.zero_le _, Nat.zero_le _⟩) ?_
  refine lv_aload_n hx hb dX6_comes_54 rfl (lv_at hl 2 rfl) ?_
  refine lv_iload_n hx hb dX6_comes_55 rfl (lv_at hl 0 rfl) ?_
  obtain ⟨g56, hc, hf⟩ := ob_bind hf
  have hPc : va_P (dC, dI) vwCl (wMd cI cJ A (Md_set_closedBy (Md_set_secondName (Md_set_firstName (Md_set_became (Md_set_turned x 0) 1) g27) g36) f48)) H := hP
  refine kg_retRi (va_runV (As := [.int g12]) (rest := [.int g51]) ⟨hx, hb, hml, hown, hts⟩ (c_X6_landOf l dC dI cI cJ A H (Md_set_closedBy (Md_set_secondName (Md_set_firstName (Md_set_became (Md_set_turned x 0) 1) g27) g36) f48) g12 _ hc) (cwV 1 hts (gw_V wd_13_17 wd_13_14 wd_13_15 wd_13_16 wd_1_5) rfl rfl rfl qX6_landOf ⟨Nat.le_of_ble_eq_true rfl, Nat.le_of_ble_eq_true rfl⟩) (kg_preVR (ci := 6) (q := (RX6, TX6, 30)) (q0 := 0) hPc hK hN rfl rfl) rfl rfl hl.1 rfl (lv_room (Nat.le_of_ble_eq_true rfl)) dX6_comes_56 ⟨Nat.zero_le _, Nat.zero_le _⟩) ?_
  refine kg_icmp_eq (tgt := 174) hx hb hf dX6_comes_59 (by decide) (fun hc hf => ?_) (fun hc hf => ?_)
  · refine lv_aload_n hx hb dX6_comes_174 rfl (lv_at hl 2 rfl) ?_
    refine lv_iload_n hx hb dX6_comes_175 rfl (lv_at hl 1 rfl) ?_
    obtain ⟨g176, hc, hf⟩ := ob_bind hf
    have hPc : va_P (dC, dI) vwCl (wMd cI cJ A (Md_set_closedBy (Md_set_secondName (Md_set_firstName (Md_set_became (Md_set_turned x 0) 1) g27) g36) f48)) H := hP
    refine kg_retRi (va_runV (As := [.int g5]) (rest := []) ⟨hx, hb, hml, hown, hts⟩ (c_X6_blockAt l dC dI cI cJ A H (Md_set_closedBy (Md_set_secondName (Md_set_firstName (Md_set_became (Md_set_turned x 0) 1) g27) g36) f48) g5 _ hc) (cwV 1 hts (gw_V wd_13_13 wd_13_10 wd_13_11 wd_13_12 wd_1_5) rfl rfl rfl qX6_blockAt ⟨Nat.le_of_ble_eq_true rfl, Nat.le_of_ble_eq_true rfl⟩) (kg_preVR (ci := 6) (q := (RX6, TX6, 30)) (q0 := 0) hPc hK hN rfl rfl) rfl rfl hl.1 rfl (lv_room (Nat.le_of_ble_eq_true rfl)) dX6_comes_176 ⟨Nat.zero_le _, Nat.zero_le _⟩) ?_
    refine lv_aload_n hx hb dX6_comes_179 rfl (lv_at hl 2 rfl) ?_
    refine lv_iload_n hx hb dX6_comes_180 rfl (lv_at hl 0 rfl) ?_
    obtain ⟨g181, hc, hf⟩ := ob_bind hf
    have hPc : va_P (dC, dI) vwCl (wMd cI cJ A (Md_set_closedBy (Md_set_secondName (Md_set_firstName (Md_set_became (Md_set_turned x 0) 1) g27) g36) f48)) H := hP
    refine kg_retRi (va_runV (As := [.int g12]) (rest := [.int g176]) ⟨hx, hb, hml, hown, hts⟩ (c_X6_blockAt l dC dI cI cJ A H (Md_set_closedBy (Md_set_secondName (Md_set_firstName (Md_set_became (Md_set_turned x 0) 1) g27) g36) f48) g12 _ hc) (cwV 1 hts (gw_V wd_13_13 wd_13_10 wd_13_11 wd_13_12 wd_1_5) rfl rfl rfl qX6_blockAt ⟨Nat.le_of_ble_eq_true rfl, Nat.le_of_ble_eq_true rfl⟩) (kg_preVR (ci := 6) (q := (RX6, TX6, 30)) (q0 := 0) hPc hK hN rfl rfl) rfl rfl hl.1 rfl (lv_room (Nat.le_of_ble_eq_true rfl)) dX6_comes_181 ⟨Nat.zero_le _, Nat.zero_le _⟩) ?_
    refine kg_icmp_eq (tgt := 220) hx hb hf dX6_comes_184 (by decide) (fun hc hf => ?_) (fun hc hf => ?_)
    · obtain rfl := Option.some.inj hf
      exact kg_vretW hx hb hr hlk hP hD hS dX6_comes_220
    · refine lv_aload_n hx hb dX6_comes_187 rfl (lv_at hl 2 rfl) ?_
      refine lv_aload_n hx hb dX6_comes_188 rfl (lv_at hl 2 rfl) ?_
      refine lv_iload_n hx hb dX6_comes_189 rfl (lv_at hl 1 rfl) ?_
      obtain ⟨g190, hc, hf⟩ := ob_bind hf
      have hPc : va_P (dC, dI) vwCl (wMd cI cJ A (Md_set_closedBy (Md_set_secondName (Md_set_firstName (Md_set_became (Md_set_turned x 0) 1) g27) g36) f48)) H := hP
      refine kg_retRi (va_runV (As := [.int g5]) (rest := [.ref (A 0)]) ⟨hx, hb, hml, hown, hts⟩ (c_X6_blockAt l dC dI cI cJ A H (Md_set_closedBy (Md_set_secondName (Md_set_firstName (Md_set_became (Md_set_turned x 0) 1) g27) g36) f48) g5 _ hc) (cwV 1 hts (gw_V wd_13_13 wd_13_10 wd_13_11 wd_13_12 wd_1_5) rfl rfl rfl qX6_blockAt ⟨Nat.le_of_ble_eq_true rfl, Nat.le_of_ble_eq_true rfl⟩) (kg_preVR (ci := 6) (q := (RX6, TX6, 30)) (q0 := 0) hPc hK hN rfl rfl) rfl rfl hl.1 rfl (lv_room (Nat.le_of_ble_eq_true rfl)) dX6_comes_190 ⟨Nat.zero_le _, Nat.zero_le _⟩) ?_
      refine lv_aload_n hx hb dX6_comes_193 rfl (lv_at hl 2 rfl) ?_
      refine lv_iload_n hx hb dX6_comes_194 rfl (lv_at hl 0 rfl) ?_
      obtain ⟨g195, hc, hf⟩ := ob_bind hf
      have hPc : va_P (dC, dI) vwCl (wMd cI cJ A (Md_set_closedBy (Md_set_secondName (Md_set_firstName (Md_set_became (Md_set_turned x 0) 1) g27) g36) f48)) H := hP
      refine kg_retRi (va_runV (As := [.int g12]) (rest := [.int g190, .ref (A 0)]) ⟨hx, hb, hml, hown, hts⟩ (c_X6_blockAt l dC dI cI cJ A H (Md_set_closedBy (Md_set_secondName (Md_set_firstName (Md_set_became (Md_set_turned x 0) 1) g27) g36) f48) g12 _ hc) (cwV 1 hts (gw_V wd_13_13 wd_13_10 wd_13_11 wd_13_12 wd_1_5) rfl rfl rfl qX6_blockAt ⟨Nat.le_of_ble_eq_true rfl, Nat.le_of_ble_eq_true rfl⟩) (kg_preVR (ci := 6) (q := (RX6, TX6, 30)) (q0 := 0) hPc hK hN rfl rfl) rfl rfl hl.1 rfl (lv_room (Nat.le_of_ble_eq_true rfl)) dX6_comes_195 ⟨Nat.zero_le _, Nat.zero_le _⟩) ?_
      obtain ⟨g198, hc, hf⟩ := ob_bind hf
      have hPc : va_P (dC, dI) vwCl (wMd cI cJ A (Md_set_closedBy (Md_set_secondName (Md_set_firstName (Md_set_became (Md_set_turned x 0) 1) g27) g36) f48)) H := hP
      refine kg_retRi (va_runV (As := [.int g190, .int g195]) (rest := []) ⟨hx, hb, hml, hown, hts⟩ (c_X6_onWay l dC dI cI cJ A H (Md_set_closedBy (Md_set_secondName (Md_set_firstName (Md_set_became (Md_set_turned x 0) 1) g27) g36) f48) g190 g195 _ hc) (cwV 2 hts (gw_V wd_14_17 wd_14_14 wd_14_15 wd_14_16 wd_1_5) rfl rfl rfl qX6_onWay ⟨Nat.le_of_ble_eq_true rfl, Nat.le_of_ble_eq_true rfl⟩) (kg_preVR (ci := 6) (q := (RX6, TX6, 30)) (q0 := 0) hPc hK hN rfl rfl) rfl rfl hl.1 rfl (lv_room (Nat.le_of_ble_eq_true rfl)) dX6_comes_198 ⟨Nat.zero_le _, Nat.zero_le _⟩) ?_
      refine lv_istore (lv' := [(4, .int g198), (3, .int g12), (2, .int g5), (0, .ref (A 0)), (1, .int v1)]) hx hb dX6_comes_201 hl (by decide) rfl (fun ls hl => ?_)
      refine lv_aload_n hx hb dX6_comes_203 rfl (lv_at hl 3 rfl) ?_
      refine lv_aload_n hx hb dX6_comes_204 rfl (lv_at hl 3 rfl) ?_
      refine lv_iload hx hb dX6_comes_205 (lv_at hl 0 rfl) ?_
      obtain ⟨g207, hc, hf⟩ := ob_bind hf
      have hPc : va_P (dC, dI) vwCl (wMd cI cJ A (Md_set_closedBy (Md_set_secondName (Md_set_firstName (Md_set_became (Md_set_turned x 0) 1) g27) g36) f48)) H := hP
      refine kg_retRi (va_runV (As := [.int g198]) (rest := [.ref (A 0)]) ⟨hx, hb, hml, hown, hts⟩ (c_X6_count l dC dI cI cJ A H (Md_set_closedBy (Md_set_secondName (Md_set_firstName (Md_set_became (Md_set_turned x 0) 1) g27) g36) f48) g198 _ hc) (cwV 1 hts (gw_V wd_15_1 wd_14_22 wd_14_23 wd_15_0 wd_1_5) rfl rfl rfl qX6_count ⟨Nat.le_of_ble_eq_true rfl, Nat.le_of_ble_eq_true rfl⟩) (kg_preVR (ci := 6) (q := (RX6, TX6, 30)) (q0 := 0) hPc hK hN rfl rfl) rfl rfl hl.1 rfl (lv_room (Nat.le_of_ble_eq_true rfl)) dX6_comes_207 ⟨Nat.zero_le _, Nat.zero_le _⟩) ?_
      refine kg_put (ci := 6) (v := .int g207) (ty := .int) (C := RX6) (T := TX6) (N := 30) (wz := (wMd cI cJ A (Md_set_became (Md_set_closedBy (Md_set_secondName (Md_set_firstName (Md_set_became (Md_set_turned x 0) 1) g27) g36) f48) g207))) hx hb hts hiX6 tyX6 tyX6_ok nmX6 hown hK hP hD hS 0 rfl rfl 15 (by decide) ww3 (fun _ h9 => h9) rfl (tyX6_ok 15 (by decide)) rfl rfl (Nat.le_of_ble_eq_true rfl) dX6_comes_210 (sc_Md_became _ _ _ _ _) (fun H locs hP hD hS => ?_)
      refine lv_aload_n hx hb dX6_comes_213 rfl (lv_at hl 3 rfl) ?_
      refine lv_iload hx hb dX6_comes_214 (lv_at hl 0 rfl) ?_
      refine lv_iload_n hx hb dX6_comes_216 rfl (lv_at hl 4 rfl) ?_
      obtain ⟨g217, hc, hf⟩ := ob_bind hf
      have hPx := kg_eqP (kg_slf _) hP
      have hDx := kg_eqD (kg_slf _) hD
      refine kg_retWv (pre := ([] : va_W)) (wc := wMd cI cJ A (Md_set_became (Md_set_closedBy (Md_set_secondName (Md_set_firstName (Md_set_became (Md_set_turned x 0) 1) g27) g36) f48) g207)) (post := ([] : va_W)) (w1 := wMd cI cJ A g217) (wz := (wMd cI cJ A g217)) (kg_slf _).symm hPx hDx hS hA (va_runV (As := [.int g198, .int v1]) (rest := []) ⟨hx, hb, hml, hown, hts⟩ (c_X6_shrinks l dC dI cI cJ A H.size (Md_set_became (Md_set_closedBy (Md_set_secondName (Md_set_firstName (Md_set_became (Md_set_turned x 0) 1) g27) g36) f48) g207) g198 v1 _ hc) (cwV 2 hts (gw_V wd_15_5 wd_15_2 wd_15_3 wd_15_4 wd_1_5) rfl rfl rfl qX6_shrinks ⟨Nat.le_of_ble_eq_true rfl, Nat.le_of_ble_eq_true rfl⟩) (kg_preVW (ci := 6) (q := (RX6, TX6, 30)) (q0 := 0) (kg_cutP hPx) (kg_cutD hDx) hK hN rfl rfl) rfl rfl hl.1 rfl (lv_room (Nat.le_of_ble_eq_true rfl)) dX6_comes_217 ⟨Nat.zero_le _, Nat.zero_le _⟩) (fun H locs hP hD hS => ?_)
      obtain rfl := Option.some.inj hf
      exact kg_vretW hx hb hr hlk hP hD hS dX6_comes_220
  · refine lv_aload_n hx hb dX6_comes_62 rfl (lv_at hl 2 rfl) ?_
    refine va_get (D := (dC, dI)) (ci := 6) (v := .ref (A 9)) (C := RX6) (T := TX6) (N := 30) hx hb hts hiX6 hown hK hP 0 rfl rfl 13 (by decide) ww6 (fun _ h9 => h9) rfl dX6_comes_63 ?_
    refine lv_iload_n hx hb dX6_comes_66 rfl (lv_at hl 3 rfl) ?_
    refine lv_iconst (v := (-1)) hx hb dX6_comes_67 (by decide) ?_
    obtain ⟨f68, hv, hf⟩ := ob_bind hf
    refine kg_iast (wz := (wMd cI cJ A (Md_set_closedBy (Md_set_closedBy (Md_set_secondName (Md_set_firstName (Md_set_became (Md_set_turned x 0) 1) g27) g36) f48) f68))) hx hb hK hP hD hS 9 0 rfl rfl hv dX6_comes_68 (sc_Md_closedBy _ _ _ _ _) (fun H locs hP hD hS => ?_)
    refine lv_aload_n hx hb dX6_comes_69 rfl (lv_at hl 2 rfl) ?_
    refine lv_iconst (v := 1) hx hb dX6_comes_70 (by decide) ?_
    refine lv_aload_n hx hb dX6_comes_71 rfl (lv_at hl 2 rfl) ?_
    refine lv_iload_n hx hb dX6_comes_72 rfl (lv_at hl 1 rfl) ?_
    obtain ⟨g73, hc, hf⟩ := ob_bind hf
    have hPc : va_P (dC, dI) vwCl (wMd cI cJ A (Md_set_closedBy (Md_set_closedBy (Md_set_secondName (Md_set_firstName (Md_set_became (Md_set_turned x 0) 1) g27) g36) f48) f68)) H := hP
    refine kg_retRi (va_runV (As := [.int g5]) (rest := [.int 1, .ref (A 0)]) ⟨hx, hb, hml, hown, hts⟩ (c_X6_landOf l dC dI cI cJ A H (Md_set_closedBy (Md_set_closedBy (Md_set_secondName (Md_set_firstName (Md_set_became (Md_set_turned x 0) 1) g27) g36) f48) f68) g5 _ hc) (cwV 1 hts (gw_V wd_13_17 wd_13_14 wd_13_15 wd_13_16 wd_1_5) rfl rfl rfl qX6_landOf ⟨Nat.le_of_ble_eq_true rfl, Nat.le_of_ble_eq_true rfl⟩) (kg_preVR (ci := 6) (q := (RX6, TX6, 30)) (q0 := 0) hPc hK hN rfl rfl) rfl rfl hl.1 rfl (lv_room (Nat.le_of_ble_eq_true rfl)) dX6_comes_73 ⟨Nat.zero_le _, Nat.zero_le _⟩) ?_
    obtain ⟨g76, hc, hf⟩ := ob_bind hf
    have hPc : va_P (dC, dI) vwCl (wMd cI cJ A (Md_set_closedBy (Md_set_closedBy (Md_set_secondName (Md_set_firstName (Md_set_became (Md_set_turned x 0) 1) g27) g36) f48) f68)) H := hP
    refine kg_retRi (va_runV (As := [.int 1, .int g73]) (rest := []) ⟨hx, hb, hml, hown, hts⟩ (c_X6_sizeOf l dC dI cI cJ A H (Md_set_closedBy (Md_set_closedBy (Md_set_secondName (Md_set_firstName (Md_set_became (Md_set_turned x 0) 1) g27) g36) f48) f68) 1 g73 _ hc) (cwV 2 hts (gw_V wd_13_21 wd_13_18 wd_13_19 wd_13_20 wd_1_5) rfl rfl rfl qX6_sizeOf ⟨Nat.le_of_ble_eq_true rfl, Nat.le_of_ble_eq_true rfl⟩) (kg_preVR (ci := 6) (q := (RX6, TX6, 30)) (q0 := 0) hPc hK hN rfl rfl) rfl rfl hl.1 rfl (lv_room (Nat.le_of_ble_eq_true rfl)) dX6_comes_76 ⟨Nat.zero_le _, Nat.zero_le _⟩) ?_
    refine lv_istore (lv' := [(4, .int g76), (3, .int g12), (2, .int g5), (0, .ref (A 0)), (1, .int v1)]) hx hb dX6_comes_79 hl (by decide) rfl (fun ls hl => ?_)
    refine lv_aload_n hx hb dX6_comes_81 rfl (lv_at hl 3 rfl) ?_
    refine lv_iconst (v := 1) hx hb dX6_comes_82 (by decide) ?_
    refine lv_aload_n hx hb dX6_comes_83 rfl (lv_at hl 3 rfl) ?_
    refine lv_iload_n hx hb dX6_comes_84 rfl (lv_at hl 1 rfl) ?_
    obtain ⟨g85, hc, hf⟩ := ob_bind hf
    have hPc : va_P (dC, dI) vwCl (wMd cI cJ A (Md_set_closedBy (Md_set_closedBy (Md_set_secondName (Md_set_firstName (Md_set_became (Md_set_turned x 0) 1) g27) g36) f48) f68)) H := hP
    refine kg_retRi (va_runV (As := [.int g12]) (rest := [.int 1, .ref (A 0)]) ⟨hx, hb, hml, hown, hts⟩ (c_X6_landOf l dC dI cI cJ A H (Md_set_closedBy (Md_set_closedBy (Md_set_secondName (Md_set_firstName (Md_set_became (Md_set_turned x 0) 1) g27) g36) f48) f68) g12 _ hc) (cwV 1 hts (gw_V wd_13_17 wd_13_14 wd_13_15 wd_13_16 wd_1_5) rfl rfl rfl qX6_landOf ⟨Nat.le_of_ble_eq_true rfl, Nat.le_of_ble_eq_true rfl⟩) (kg_preVR (ci := 6) (q := (RX6, TX6, 30)) (q0 := 0) hPc hK hN rfl rfl) rfl rfl hl.1 rfl (lv_room (Nat.le_of_ble_eq_true rfl)) dX6_comes_85 ⟨Nat.zero_le _, Nat.zero_le _⟩) ?_
    obtain ⟨g88, hc, hf⟩ := ob_bind hf
    have hPc : va_P (dC, dI) vwCl (wMd cI cJ A (Md_set_closedBy (Md_set_closedBy (Md_set_secondName (Md_set_firstName (Md_set_became (Md_set_turned x 0) 1) g27) g36) f48) f68)) H := hP
    refine kg_retRi (va_runV (As := [.int 1, .int g85]) (rest := []) ⟨hx, hb, hml, hown, hts⟩ (c_X6_sizeOf l dC dI cI cJ A H (Md_set_closedBy (Md_set_closedBy (Md_set_secondName (Md_set_firstName (Md_set_became (Md_set_turned x 0) 1) g27) g36) f48) f68) 1 g85 _ hc) (cwV 2 hts (gw_V wd_13_21 wd_13_18 wd_13_19 wd_13_20 wd_1_5) rfl rfl rfl qX6_sizeOf ⟨Nat.le_of_ble_eq_true rfl, Nat.le_of_ble_eq_true rfl⟩) (kg_preVR (ci := 6) (q := (RX6, TX6, 30)) (q0 := 0) hPc hK hN rfl rfl) rfl rfl hl.1 rfl (lv_room (Nat.le_of_ble_eq_true rfl)) dX6_comes_88 ⟨Nat.zero_le _, Nat.zero_le _⟩) ?_
    refine lv_istore (lv' := [(5, .int g88), (4, .int g76), (3, .int g12), (2, .int g5), (0, .ref (A 0)), (1, .int v1)]) hx hb dX6_comes_91 hl (by decide) rfl (fun ls hl => ?_)
    refine lv_iload hx hb dX6_comes_93 (lv_at hl 1 rfl) ?_
    refine lv_iload hx hb dX6_comes_95 (lv_at hl 0 rfl) ?_
    refine kg_icmp_lt (tgt := 120) hx hb hf dX6_comes_97 (by decide) (fun hc hf => ?_) (fun hc hf => ?_)
    · refine lv_iconst (v := 1) hx hb dX6_comes_120 (by decide) ?_
      refine lv_goto (tgt := 125) hx hb dX6_comes_121 (by decide) ?_
      exact hj125 (Md_set_closedBy (Md_set_closedBy (Md_set_secondName (Md_set_firstName (Md_set_became (Md_set_turned x 0) 1) g27) g36) f48) f68) g5 g12 1 hf _ _ _ hP hD hS (lv_sub hl [4, 5, 3, 2] rfl)
    · refine lv_iload hx hb dX6_comes_100 (lv_at hl 1 rfl) ?_
      refine lv_iload hx hb dX6_comes_102 (lv_at hl 0 rfl) ?_
      refine kg_icmp_ne (tgt := 124) hx hb hf dX6_comes_104 (by decide) (fun hc hf => ?_) (fun hc hf => ?_)
      · refine lv_iconst (v := 0) hx hb dX6_comes_124 (by decide) ?_
        exact hj125 (Md_set_closedBy (Md_set_closedBy (Md_set_secondName (Md_set_firstName (Md_set_became (Md_set_turned x 0) 1) g27) g36) f48) f68) g5 g12 0 hf _ _ _ hP hD hS (lv_sub hl [4, 5, 3, 2] rfl)
      · refine lv_aload_n hx hb dX6_comes_107 rfl (lv_at hl 4 rfl) ?_
        refine lv_iload_n hx hb dX6_comes_108 rfl (lv_at hl 3 rfl) ?_
        obtain ⟨g109, hc, hf⟩ := ob_bind hf
        have hPc : va_P (dC, dI) vwCl (wMd cI cJ A (Md_set_closedBy (Md_set_closedBy (Md_set_secondName (Md_set_firstName (Md_set_became (Md_set_turned x 0) 1) g27) g36) f48) f68)) H := hP
        refine kg_retRi (va_runV (As := [.int g5]) (rest := []) ⟨hx, hb, hml, hown, hts⟩ (c_X6_landOf l dC dI cI cJ A H (Md_set_closedBy (Md_set_closedBy (Md_set_secondName (Md_set_firstName (Md_set_became (Md_set_turned x 0) 1) g27) g36) f48) f68) g5 _ hc) (cwV 1 hts (gw_V wd_13_17 wd_13_14 wd_13_15 wd_13_16 wd_1_5) rfl rfl rfl qX6_landOf ⟨Nat.le_of_ble_eq_true rfl, Nat.le_of_ble_eq_true rfl⟩) (kg_preVR (ci := 6) (q := (RX6, TX6, 30)) (q0 := 0) hPc hK hN rfl rfl) rfl rfl hl.1 rfl (lv_room (Nat.le_of_ble_eq_true rfl)) dX6_comes_109 ⟨Nat.zero_le _, Nat.zero_le _⟩) ?_
        refine lv_aload_n hx hb dX6_comes_112 rfl (lv_at hl 4 rfl) ?_
        refine lv_iload_n hx hb dX6_comes_113 rfl (lv_at hl 2 rfl) ?_
        obtain ⟨g114, hc, hf⟩ := ob_bind hf
        have hPc : va_P (dC, dI) vwCl (wMd cI cJ A (Md_set_closedBy (Md_set_closedBy (Md_set_secondName (Md_set_firstName (Md_set_became (Md_set_turned x 0) 1) g27) g36) f48) f68)) H := hP
        refine kg_retRi (va_runV (As := [.int g12]) (rest := [.int g109]) ⟨hx, hb, hml, hown, hts⟩ (c_X6_landOf l dC dI cI cJ A H (Md_set_closedBy (Md_set_closedBy (Md_set_secondName (Md_set_firstName (Md_set_became (Md_set_turned x 0) 1) g27) g36) f48) f68) g12 _ hc) (cwV 1 hts (gw_V wd_13_17 wd_13_14 wd_13_15 wd_13_16 wd_1_5) rfl rfl rfl qX6_landOf ⟨Nat.le_of_ble_eq_true rfl, Nat.le_of_ble_eq_true rfl⟩) (kg_preVR (ci := 6) (q := (RX6, TX6, 30)) (q0 := 0) hPc hK hN rfl rfl) rfl rfl hl.1 rfl (lv_room (Nat.le_of_ble_eq_true rfl)) dX6_comes_114 ⟨Nat.zero_le _, Nat.zero_le _⟩) ?_
        refine kg_icmp_le (tgt := 124) hx hb hf dX6_comes_117 (by decide) (fun hc hf => ?_) (fun hc hf => ?_)
        · refine lv_iconst (v := 0) hx hb dX6_comes_124 (by decide) ?_
          exact hj125 (Md_set_closedBy (Md_set_closedBy (Md_set_secondName (Md_set_firstName (Md_set_became (Md_set_turned x 0) 1) g27) g36) f48) f68) g5 g12 0 hf _ _ _ hP hD hS (lv_sub hl [4, 5, 3, 2] rfl)
        · refine lv_iconst (v := 1) hx hb dX6_comes_120 (by decide) ?_
          refine lv_goto (tgt := 125) hx hb dX6_comes_121 (by decide) ?_
          exact hj125 (Md_set_closedBy (Md_set_closedBy (Md_set_secondName (Md_set_firstName (Md_set_became (Md_set_turned x 0) 1) g27) g36) f48) f68) g5 g12 1 hf _ _ _ hP hD hS (lv_sub hl [4, 5, 3, 2] rfl)
set_option maxHeartbeats 4000000 in
set_option maxRecDepth 100000 in
theorem c_X6_runs (l : Launch) (dC : Nat → ClassId) (dI : Nat → Nat → Nat) (cI cJ : ClassId) (A : Nat → Nat) (hq : Nat) (x : MdS) (v1 : Int32) (r0 : MdS) (hf : Md_m_runs x v1 = some r0) : MWv l yX6_runs (wAll yX6_runs cX6_runs 2 none) ({ frames := 5, cells := 0, slots := 0, locals := 142 } : Room) [.ref (A 0), .int v1] hq (dC, dI) (vTy cI cJ) (wMd cI cJ A x) (wMd cI cJ A r0) := by
  refine kg_metW (Qc := fun Q => QWv (dC, dI) Q (wMd cI cJ A r0)) (cc := cX6_runs) (maxL := 2) (ret := none) (by decide) rfl (Nat.le_of_ble_eq_true rfl) ?_
  intro p e s m args below meth c Q hx hb hr hts hown hlk hml hP hK hN hD hA hS ls hl
  have hl : lv_has ls 2 [(0, .ref (A 0)), (1, .int v1)] := hl
  have ww0 := hts (.fieldLink RX6 20 "SafeBlocksModel" "run" "I") (List.mem_cons_of_mem _ wd_8_2)
  have hiX6 : ∀ w ∈ u_ws RX6 TX6 30, w ∈ wAll yX6_runs cX6_runs 2 none := fun w h => List.mem_cons_of_mem _ (inlX6 w h)
  suffices hgo : ∀ (H : Heap) (locs : List Loc), va_P (dC, dI) vwCl (wMd cI cJ A x) H → va_S Q s.heap H locs → W p l e ({ frames := 5, cells := 0, slots := 0, locals := 142 } : Room) s m args below meth c H locs 0 0 (MQ below (QWv (dC, dI) Q (wMd cI cJ A r0)) args s 0 0 Q) (F0 m 0 ls []) from hgo _ _ hP hS
  clear hP hS
  intro H locs hP hS
  unfold Md_m_runs at hf
  have hj16 : ∀ (x : MdS), Md_m_runs_j16 x v1 = some r0 → ∀ (H : Heap) (locs : List Loc) (ls : Array Slot), va_P (dC, dI) vwCl (wMd cI cJ A x) H → va_D Q (wMd cI cJ A x) → va_S Q s.heap H locs → lv_has ls 2 [(0, .ref (A 0)), (1, .int v1)] → W p l e ({ frames := 5, cells := 0, slots := 0, locals := 142 } : Room) s m args below meth c H locs 0 0 (MQ below (QWv (dC, dI) Q (wMd cI cJ A r0)) args s 0 0 Q) (F0 m 16 ls []) := by
    intro x hf H locs ls hP hD hS hl
    unfold Md_m_runs_j16 at hf
    refine lv_aload_n hx hb dX6_runs_16 rfl (lv_at hl 0 rfl) ?_
    obtain ⟨g17, hc, hf⟩ := ob_bind hf
    have hPx := kg_eqP (kg_slf _) hP
    have hDx := kg_eqD (kg_slf _) hD
    refine kg_retWv (pre := ([] : va_W)) (wc := wMd cI cJ A x) (post := ([] : va_W)) (w1 := wMd cI cJ A g17) (wz := (wMd cI cJ A g17)) (kg_slf _).symm hPx hDx hS hA (va_runV (As := []) (rest := []) ⟨hx, hb, hml, hown, hts⟩ (c_X6_begins l dC dI cI cJ A H.size x _ hc) (cwV 0 hts (gw_V wd_13_1 wd_12_22 wd_12_23 wd_13_0 wd_1_5) rfl rfl rfl qX6_begins ⟨Nat.le_of_ble_eq_true rfl, Nat.le_of_ble_eq_true rfl⟩) (kg_preVW (ci := 6) (q := (RX6, TX6, 30)) (q0 := 0) (kg_cutP hPx) (kg_cutD hDx) hK hN rfl rfl) rfl rfl hl.1 rfl (lv_room (Nat.le_of_ble_eq_true rfl)) dX6_runs_17 ⟨Nat.zero_le _, Nat.zero_le _⟩) (fun H locs hP hD hS => ?_)
    have hlp20 : ∀ (n : Nat) (x : MdS), iter (fun p : MdS => Md_m_runs_s20 v1 p) n (x) = some r0 → ∀ (H : Heap) (locs : List Loc) (ls : Array Slot), va_P (dC, dI) vwCl (wMd cI cJ A x) H → va_D Q (wMd cI cJ A x) → va_S Q s.heap H locs → lv_has ls 2 [(0, .ref (A 0)), (1, .int v1)] → W p l e ({ frames := 5, cells := 0, slots := 0, locals := 142 } : Room) s m args below meth c H locs 0 0 (MQ below (QWv (dC, dI) Q (wMd cI cJ A r0)) args s 0 0 Q) (F0 m 20 ls []) := by
      intro  n
      induction n with
      | zero => intro x hf; exact iter_zero hf
      | succ n ih1 =>
        intro x hf H locs ls hP hD hS hl
        obtain ⟨q1, hf, hk1⟩ := iter_succ hf
        have hf : Md_m_runs_s20 v1 x = some q1 := hf
        unfold Md_m_runs_s20 at hf
        refine lv_aload_n hx hb dX6_runs_20 rfl (lv_at hl 0 rfl) ?_
        refine va_get (D := (dC, dI)) (ci := 6) (v := .int (Md_run x)) (C := RX6) (T := TX6) (N := 30) hx hb hts hiX6 hown hK hP 0 rfl rfl 6 (by decide) ww0 (fun _ h9 => h9) rfl dX6_runs_21 ?_
        refine lv_iload_n hx hb dX6_runs_24 rfl (lv_at hl 1 rfl) ?_
        refine kg_icmp_ge (tgt := 49) hx hb hf dX6_runs_25 (by decide) (fun hc hf => ?_) (fun hc hf => ?_)
        · obtain ⟨qq, hf, hqq⟩ := omap_some hf
          have hkq : qq = r0 := by rw [← hqq] at hk1; exact hk1
          rw [hkq] at hf
          clear hkq hqq
          obtain rfl := Option.some.inj hf
          exact kg_vretW hx hb hr hlk hP hD hS dX6_runs_49
        · refine lv_aload_n hx hb dX6_runs_28 rfl (lv_at hl 0 rfl) ?_
          refine lv_aload_n hx hb dX6_runs_29 rfl (lv_at hl 0 rfl) ?_
          refine va_get (D := (dC, dI)) (ci := 6) (v := .int (Md_run x)) (C := RX6) (T := TX6) (N := 30) hx hb hts hiX6 hown hK hP 0 rfl rfl 6 (by decide) ww0 (fun _ h9 => h9) rfl dX6_runs_30 ?_
          obtain ⟨g33, hc, hf⟩ := ob_bind hf
          have hPx := kg_eqP (kg_slf _) hP
          have hDx := kg_eqD (kg_slf _) hD
          refine kg_retWv (pre := ([] : va_W)) (wc := wMd cI cJ A x) (post := ([] : va_W)) (w1 := wMd cI cJ A g33) (wz := (wMd cI cJ A g33)) (kg_slf _).symm hPx hDx hS hA (va_runV (As := [.int (Md_run x)]) (rest := []) ⟨hx, hb, hml, hown, hts⟩ (c_X6_comes l dC dI cI cJ A H.size x (Md_run x) _ hc) (cwV 1 hts (gw_V wd_13_5 wd_13_2 wd_13_3 wd_13_4 wd_1_5) rfl rfl rfl qX6_comes ⟨Nat.le_of_ble_eq_true rfl, Nat.le_of_ble_eq_true rfl⟩) (kg_preVW (ci := 6) (q := (RX6, TX6, 30)) (q0 := 0) (kg_cutP hPx) (kg_cutD hDx) hK hN rfl rfl) rfl rfl hl.1 rfl (lv_room (Nat.le_of_ble_eq_true rfl)) dX6_runs_33 ⟨Nat.zero_le _, Nat.zero_le _⟩) (fun H locs hP hD hS => ?_)
          refine lv_aload_n hx hb dX6_runs_36 rfl (lv_at hl 0 rfl) ?_
          refine lv_aload_n hx hb dX6_runs_37 rfl (lv_at hl 0 rfl) ?_
          refine va_get (D := (dC, dI)) (ci := 6) (v := .int (Md_run g33)) (C := RX6) (T := TX6) (N := 30) hx hb hts hiX6 hown hK hP 0 rfl rfl 6 (by decide) ww0 (fun _ h9 => h9) rfl dX6_runs_38 ?_
          refine lv_iconst (v := 1) hx hb dX6_runs_41 (by decide) ?_
          refine lv_iadd hx hb dX6_runs_42 ?_
          refine kg_put (ci := 6) (v := .int ((Md_run g33) + 1)) (ty := .int) (C := RX6) (T := TX6) (N := 30) (wz := (wMd cI cJ A (Md_set_run g33 ((Md_run g33) + 1)))) hx hb hts hiX6 tyX6 tyX6_ok nmX6 hown hK hP hD hS 0 rfl rfl 6 (by decide) ww0 (fun _ h9 => h9) rfl (tyX6_ok 6 (by decide)) rfl rfl (Nat.le_of_ble_eq_true rfl) dX6_runs_43 (sc_Md_run _ _ _ _ _) (fun H locs hP hD hS => ?_)
          refine lv_goto (tgt := 20) hx hb dX6_runs_46 (by decide) ?_
          obtain rfl := Option.some.inj hf
          exact ih1 (Md_set_run g33 ((Md_run g33) + 1)) hk1 _ _ _ hP hD hS (lv_sub hl [0, 1] rfl)
    exact hlp20  FU g17 hf _ _ _ hP hD hS (lv_sub hl [0, 1] rfl)
  refine lv_aload_n hx hb dX6_runs_0 rfl (lv_at hl 0 rfl) ?_
  refine va_get (D := (dC, dI)) (ci := 6) (v := .int (Md_run x)) (C := RX6) (T := TX6) (N := 30) hx hb hts hiX6 hown hK hP 0 rfl rfl 6 (by decide) ww0 (fun _ h9 => h9) rfl dX6_runs_1 ?_
  refine lv_iconst (v := (-1)) hx hb dX6_runs_4 (by decide) ?_
  refine kg_icmp_eq (tgt := 16) hx hb hf dX6_runs_5 (by decide) (fun hc hf => ?_) (fun hc hf => ?_)
  · exact hj16 x hf _ _ _ hP hD hS (lv_sub hl [0, 1] rfl)
  · refine lv_aload_n hx hb dX6_runs_8 rfl (lv_at hl 0 rfl) ?_
    refine va_get (D := (dC, dI)) (ci := 6) (v := .int (Md_run x)) (C := RX6) (T := TX6) (N := 30) hx hb hts hiX6 hown hK hP 0 rfl rfl 6 (by decide) ww0 (fun _ h9 => h9) rfl dX6_runs_9 ?_
    refine lv_iload_n hx hb dX6_runs_12 rfl (lv_at hl 1 rfl) ?_
    refine kg_icmp_le (tgt := 20) hx hb hf dX6_runs_13 (by decide) (fun hc hf => ?_) (fun hc hf => ?_)
    · have hlp20 : ∀ (n : Nat) (x : MdS), iter (fun p : MdS => Md_m_runs_s20 v1 p) n (x) = some r0 → ∀ (H : Heap) (locs : List Loc) (ls : Array Slot), va_P (dC, dI) vwCl (wMd cI cJ A x) H → va_D Q (wMd cI cJ A x) → va_S Q s.heap H locs → lv_has ls 2 [(0, .ref (A 0)), (1, .int v1)] → W p l e ({ frames := 5, cells := 0, slots := 0, locals := 142 } : Room) s m args below meth c H locs 0 0 (MQ below (QWv (dC, dI) Q (wMd cI cJ A r0)) args s 0 0 Q) (F0 m 20 ls []) := by
        intro  n
        induction n with
        | zero => intro x hf; exact iter_zero hf
        | succ n ih1 =>
          intro x hf H locs ls hP hD hS hl
          obtain ⟨q1, hf, hk1⟩ := iter_succ hf
          have hf : Md_m_runs_s20 v1 x = some q1 := hf
          unfold Md_m_runs_s20 at hf
          refine lv_aload_n hx hb dX6_runs_20 rfl (lv_at hl 0 rfl) ?_
          refine va_get (D := (dC, dI)) (ci := 6) (v := .int (Md_run x)) (C := RX6) (T := TX6) (N := 30) hx hb hts hiX6 hown hK hP 0 rfl rfl 6 (by decide) ww0 (fun _ h9 => h9) rfl dX6_runs_21 ?_
          refine lv_iload_n hx hb dX6_runs_24 rfl (lv_at hl 1 rfl) ?_
          refine kg_icmp_ge (tgt := 49) hx hb hf dX6_runs_25 (by decide) (fun hc hf => ?_) (fun hc hf => ?_)
          · obtain ⟨qq, hf, hqq⟩ := omap_some hf
            have hkq : qq = r0 := by rw [← hqq] at hk1; exact hk1
            rw [hkq] at hf
            clear hkq hqq
            obtain rfl := Option.some.inj hf
            exact kg_vretW hx hb hr hlk hP hD hS dX6_runs_49
          · refine lv_aload_n hx hb dX6_runs_28 rfl (lv_at hl 0 rfl) ?_
            refine lv_aload_n hx hb dX6_runs_29 rfl (lv_at hl 0 rfl) ?_
            refine va_get (D := (dC, dI)) (ci := 6) (v := .int (Md_run x)) (C := RX6) (T := TX6) (N := 30) hx hb hts hiX6 hown hK hP 0 rfl rfl 6 (by decide) ww0 (fun _ h9 => h9) rfl dX6_runs_30 ?_
            obtain ⟨g33, hc, hf⟩ := ob_bind hf
            have hPx := kg_eqP (kg_slf _) hP
            have hDx := kg_eqD (kg_slf _) hD
            refine kg_retWv (pre := ([] : va_W)) (wc := wMd cI cJ A x) (post := ([] : va_W)) (w1 := wMd cI cJ A g33) (wz := (wMd cI cJ A g33)) (kg_slf _).symm hPx hDx hS hA (va_runV (As := [.int (Md_run x)]) (rest := []) ⟨hx, hb, hml, hown, hts⟩ (c_X6_comes l dC dI cI cJ A H.size x (Md_run x) _ hc) (cwV 1 hts (gw_V wd_13_5 wd_13_2 wd_13_3 wd_13_4 wd_1_5) rfl rfl rfl qX6_comes ⟨Nat.le_of_ble_eq_true rfl, Nat.le_of_ble_eq_true rfl⟩) (kg_preVW (ci := 6) (q := (RX6, TX6, 30)) (q0 := 0) (kg_cutP hPx) (kg_cutD hDx) hK hN rfl rfl) rfl rfl hl.1 rfl (lv_room (Nat.le_of_ble_eq_true rfl)) dX6_runs_33 ⟨Nat.zero_le _, Nat.zero_le _⟩) (fun H locs hP hD hS => ?_)
            refine lv_aload_n hx hb dX6_runs_36 rfl (lv_at hl 0 rfl) ?_
            refine lv_aload_n hx hb dX6_runs_37 rfl (lv_at hl 0 rfl) ?_
            refine va_get (D := (dC, dI)) (ci := 6) (v := .int (Md_run g33)) (C := RX6) (T := TX6) (N := 30) hx hb hts hiX6 hown hK hP 0 rfl rfl 6 (by decide) ww0 (fun _ h9 => h9) rfl dX6_runs_38 ?_
            refine lv_iconst (v := 1) hx hb dX6_runs_41 (by decide) ?_
            refine lv_iadd hx hb dX6_runs_42 ?_
            refine kg_put (ci := 6) (v := .int ((Md_run g33) + 1)) (ty := .int) (C := RX6) (T := TX6) (N := 30) (wz := (wMd cI cJ A (Md_set_run g33 ((Md_run g33) + 1)))) hx hb hts hiX6 tyX6 tyX6_ok nmX6 hown hK hP hD hS 0 rfl rfl 6 (by decide) ww0 (fun _ h9 => h9) rfl (tyX6_ok 6 (by decide)) rfl rfl (Nat.le_of_ble_eq_true rfl) dX6_runs_43 (sc_Md_run _ _ _ _ _) (fun H locs hP hD hS => ?_)
            refine lv_goto (tgt := 20) hx hb dX6_runs_46 (by decide) ?_
            obtain rfl := Option.some.inj hf
            exact ih1 (Md_set_run g33 ((Md_run g33) + 1)) hk1 _ _ _ hP hD hS (lv_sub hl [0, 1] rfl)
      exact hlp20  FU x hf _ _ _ hP hD hS (lv_sub hl [0, 1] rfl)
    · exact hj16 x hf _ _ _ hP hD hS (lv_sub hl [0, 1] rfl)
set_option maxHeartbeats 4000000 in
set_option maxRecDepth 100000 in
theorem c_X6_runsAll (l : Launch) (dC : Nat → ClassId) (dI : Nat → Nat → Nat) (cI cJ : ClassId) (A : Nat → Nat) (hq : Nat) (x : MdS) (r0 : MdS) (hf : Md_m_runsAll x = some r0) : MWv l yX6_runsAll (wAll yX6_runsAll cX6_runsAll 1 none) ({ frames := 6, cells := 0, slots := 0, locals := 163 } : Room) [.ref (A 0)] hq (dC, dI) (vTy cI cJ) (wMd cI cJ A x) (wMd cI cJ A r0) := by
  refine kg_metW (Qc := fun Q => QWv (dC, dI) Q (wMd cI cJ A r0)) (cc := cX6_runsAll) (maxL := 1) (ret := none) (by decide) rfl (Nat.le_of_ble_eq_true rfl) ?_
  intro p e s m args below meth c Q hx hb hr hts hown hlk hml hP hK hN hD hA hS ls hl
  have hl : lv_has ls 1 [(0, .ref (A 0))] := hl
  have ww0 := hts (.fieldLink RX6 78 "SafeBlocksModel" "m" "I") (List.mem_cons_of_mem _ wd_9_6)
  have hiX6 : ∀ w ∈ u_ws RX6 TX6 30, w ∈ wAll yX6_runsAll cX6_runsAll 1 none := fun w h => List.mem_cons_of_mem _ (inlX6 w h)
  suffices hgo : ∀ (H : Heap) (locs : List Loc), va_P (dC, dI) vwCl (wMd cI cJ A x) H → va_S Q s.heap H locs → W p l e ({ frames := 6, cells := 0, slots := 0, locals := 163 } : Room) s m args below meth c H locs 0 0 (MQ below (QWv (dC, dI) Q (wMd cI cJ A r0)) args s 0 0 Q) (F0 m 0 ls []) from hgo _ _ hP hS
  clear hP hS
  intro H locs hP hS
  unfold Md_m_runsAll at hf
  refine lv_aload_n hx hb dX6_runsAll_0 rfl (lv_at hl 0 rfl) ?_
  refine lv_aload_n hx hb dX6_runsAll_1 rfl (lv_at hl 0 rfl) ?_
  refine va_get (D := (dC, dI)) (ci := 6) (v := .int (Md_m x)) (C := RX6) (T := TX6) (N := 30) hx hb hts hiX6 hown hK hP 0 rfl rfl 2 (by decide) ww0 (fun _ h9 => h9) rfl dX6_runsAll_2 ?_
  obtain ⟨g5, hc, hf⟩ := ob_bind hf
  have hPx := kg_eqP (kg_slf _) hP
  have hDx := kg_eqD (kg_slf _) hD
  refine kg_retWv (pre := ([] : va_W)) (wc := wMd cI cJ A x) (post := ([] : va_W)) (w1 := wMd cI cJ A g5) (wz := (wMd cI cJ A g5)) (kg_slf _).symm hPx hDx hS hA (va_runV (As := [.int (Md_m x)]) (rest := []) ⟨hx, hb, hml, hown, hts⟩ (c_X6_runs l dC dI cI cJ A H.size x (Md_m x) _ hc) (cwV 1 hts (gw_V wd_12_21 wd_12_18 wd_12_19 wd_12_20 wd_1_5) rfl rfl rfl qX6_runs ⟨Nat.le_of_ble_eq_true rfl, Nat.le_of_ble_eq_true rfl⟩) (kg_preVW (ci := 6) (q := (RX6, TX6, 30)) (q0 := 0) (kg_cutP hPx) (kg_cutD hDx) hK hN rfl rfl) rfl rfl hl.1 rfl (lv_room (Nat.le_of_ble_eq_true rfl)) dX6_runsAll_5 ⟨Nat.zero_le _, Nat.zero_le _⟩) (fun H locs hP hD hS => ?_)
  obtain rfl := Option.some.inj hf
  exact kg_vretW hx hb hr hlk hP hD hS dX6_runsAll_8
set_option maxHeartbeats 4000000 in
set_option maxRecDepth 100000 in
theorem c_X6_nodes (l : Launch) (dC : Nat → ClassId) (dI : Nat → Nat → Nat) (cI cJ : ClassId) (A : Nat → Nat) (hq : Nat) (x : MdS) (v1 : Int32) (r0 : (Bool × MdS)) (hf : Md_m_nodes x v1 = some r0) : MWi l yX6_nodes (wAll yX6_nodes cX6_nodes 2 (some .boolean)) ({ frames := 2, cells := 0, slots := 0, locals := 66 } : Room) [.ref (A 0), .int v1] hq (dC, dI) (vTy cI cJ) (wMd cI cJ A x) (wMd cI cJ A r0.2) (b2i r0.1) := by
  refine kg_metW (Qc := fun Q => QWi (dC, dI) Q (wMd cI cJ A r0.2) (b2i r0.1)) (cc := cX6_nodes) (maxL := 2) (ret := (some .boolean)) (by decide) rfl (Nat.le_of_ble_eq_true rfl) ?_
  intro p e s m args below meth c Q hx hb hr hts hown hlk hml hP hK hN hD hA hS ls hl
  have hl : lv_has ls 2 [(0, .ref (A 0)), (1, .int v1)] := hl
  have ww0 := hts (.fieldLink RX6 71 "SafeBlocksModel" "told" "I") (List.mem_cons_of_mem _ wd_9_3)
  have ww1 := hts (.constantLong RX6 148 (2)) (List.mem_cons_of_mem _ wd_9_4)
  have ww2 := hts (.constantLong RX6 150 (32)) (List.mem_cons_of_mem _ wd_9_5)
  have ww3 := hts (.fieldLink RX6 7 "SafeBlocksModel" "n" "I") (List.mem_cons_of_mem _ wd_7_23)
  have ww4 := hts (.fieldLink RX6 78 "SafeBlocksModel" "m" "I") (List.mem_cons_of_mem _ wd_9_6)
  have ww5 := hts (.fieldLink RX6 20 "SafeBlocksModel" "run" "I") (List.mem_cons_of_mem _ wd_8_2)
  have ww6 := hts (.fieldLink RX6 47 "SafeBlocksModel" "partRun" "I") (List.mem_cons_of_mem _ wd_8_11)
  have hiX6 : ∀ w ∈ u_ws RX6 TX6 30, w ∈ wAll yX6_nodes cX6_nodes 2 (some .boolean) := fun w h => List.mem_cons_of_mem _ (inlX6 w h)
  suffices hgo : ∀ (H : Heap) (locs : List Loc), va_P (dC, dI) vwCl (wMd cI cJ A x) H → va_S Q s.heap H locs → W p l e ({ frames := 2, cells := 0, slots := 0, locals := 66 } : Room) s m args below meth c H locs 0 0 (MQ below (QWi (dC, dI) Q (wMd cI cJ A r0.2) (b2i r0.1)) args s 0 0 Q) (F0 m 0 ls []) from hgo _ _ hP hS
  clear hP hS
  intro H locs hP hS
  unfold Md_m_nodes at hf
  refine lv_aload_n hx hb dX6_nodes_0 rfl (lv_at hl 0 rfl) ?_
  refine lv_iconst (v := 0) hx hb dX6_nodes_1 (by decide) ?_
  refine kg_put (ci := 6) (v := .int 0) (ty := .int) (C := RX6) (T := TX6) (N := 30) (wz := (wMd cI cJ A (Md_set_told x 0))) hx hb hts hiX6 tyX6 tyX6_ok nmX6 hown hK hP hD hS 0 rfl rfl 0 (by decide) ww0 (fun _ h9 => h9) rfl (tyX6_ok 0 (by decide)) rfl rfl (Nat.le_of_ble_eq_true rfl) dX6_nodes_2 (sc_Md_told _ _ _ _ _) (fun H locs hP hD hS => ?_)
  refine lv_aload_n hx hb dX6_nodes_5 rfl (lv_at hl 0 rfl) ?_
  refine lv_iload_n hx hb dX6_nodes_6 rfl (lv_at hl 1 rfl) ?_
  refine lv_i2l hx hb dX6_nodes_7 rfl ?_
  refine lv_ldc2 (v := 2) hx hb hown ww1 dX6_nodes_8 ?_
  refine lv_ldc2 (v := 32) hx hb hown ww2 dX6_nodes_11 ?_
  obtain ⟨g14, hc, hf⟩ := ob_bind hf
  have hPc : va_P (dC, dI) vwCl (wMd cI cJ A (Md_set_told x 0)) H := hP
  refine kg_retRi (va_runV (As := [.long ((v1 : Int32).toInt64), .long 2, .long 32]) (rest := []) ⟨hx, hb, hml, hown, hts⟩ (c_X6_isIn l dC dI cI cJ A H (Md_set_told x 0) ((v1 : Int32).toInt64) 2 32 _ hc) (cwV 3 hts (gw_V wd_9_10 wd_9_7 wd_9_8 wd_9_9 wd_1_5) rfl rfl rfl qX6_isIn ⟨Nat.le_of_ble_eq_true rfl, Nat.le_of_ble_eq_true rfl⟩) (kg_preVR (ci := 6) (q := (RX6, TX6, 30)) (q0 := 0) hPc hK hN rfl rfl) rfl rfl hl.1 rfl (lv_room (Nat.le_of_ble_eq_true rfl)) dX6_nodes_14 ⟨Nat.zero_le _, Nat.zero_le _⟩) ?_
  refine kg_b_ne (tgt := 22) hx hb hf dX6_nodes_17 (by decide) (fun hc hf => ?_) (fun hc hf => ?_)
  · refine lv_aload_n hx hb dX6_nodes_22 rfl (lv_at hl 0 rfl) ?_
    refine lv_iload_n hx hb dX6_nodes_23 rfl (lv_at hl 1 rfl) ?_
    refine kg_put (ci := 6) (v := .int v1) (ty := .int) (C := RX6) (T := TX6) (N := 30) (wz := (wMd cI cJ A (Md_set_n (Md_set_told x 0) v1))) hx hb hts hiX6 tyX6 tyX6_ok nmX6 hown hK hP hD hS 0 rfl rfl 1 (by decide) ww3 (fun _ h9 => h9) rfl (tyX6_ok 1 (by decide)) rfl rfl (Nat.le_of_ble_eq_true rfl) dX6_nodes_24 (sc_Md_n _ _ _ _ _) (fun H locs hP hD hS => ?_)
    refine lv_aload_n hx hb dX6_nodes_27 rfl (lv_at hl 0 rfl) ?_
    refine lv_iconst (v := 0) hx hb dX6_nodes_28 (by decide) ?_
    refine kg_put (ci := 6) (v := .int 0) (ty := .int) (C := RX6) (T := TX6) (N := 30) (wz := (wMd cI cJ A (Md_set_m (Md_set_n (Md_set_told x 0) v1) 0))) hx hb hts hiX6 tyX6 tyX6_ok nmX6 hown hK hP hD hS 0 rfl rfl 2 (by decide) ww4 (fun _ h9 => h9) rfl (tyX6_ok 2 (by decide)) rfl rfl (Nat.le_of_ble_eq_true rfl) dX6_nodes_29 (sc_Md_m _ _ _ _ _) (fun H locs hP hD hS => ?_)
    refine lv_aload_n hx hb dX6_nodes_32 rfl (lv_at hl 0 rfl) ?_
    refine lv_iconst (v := (-1)) hx hb dX6_nodes_33 (by decide) ?_
    refine kg_put (ci := 6) (v := .int (-1)) (ty := .int) (C := RX6) (T := TX6) (N := 30) (wz := (wMd cI cJ A (Md_set_run (Md_set_m (Md_set_n (Md_set_told x 0) v1) 0) (-1)))) hx hb hts hiX6 tyX6 tyX6_ok nmX6 hown hK hP hD hS 0 rfl rfl 6 (by decide) ww5 (fun _ h9 => h9) rfl (tyX6_ok 6 (by decide)) rfl rfl (Nat.le_of_ble_eq_true rfl) dX6_nodes_34 (sc_Md_run _ _ _ _ _) (fun H locs hP hD hS => ?_)
    refine lv_aload_n hx hb dX6_nodes_37 rfl (lv_at hl 0 rfl) ?_
    refine lv_iconst (v := (-1)) hx hb dX6_nodes_38 (by decide) ?_
    refine kg_put (ci := 6) (v := .int (-1)) (ty := .int) (C := RX6) (T := TX6) (N := 30) (wz := (wMd cI cJ A (Md_set_partRun (Md_set_run (Md_set_m (Md_set_n (Md_set_told x 0) v1) 0) (-1)) (-1)))) hx hb hts hiX6 tyX6 tyX6_ok nmX6 hown hK hP hD hS 0 rfl rfl 20 (by decide) ww6 (fun _ h9 => h9) rfl (tyX6_ok 20 (by decide)) rfl rfl (Nat.le_of_ble_eq_true rfl) dX6_nodes_39 (sc_Md_partRun _ _ _ _ _) (fun H locs hP hD hS => ?_)
    refine lv_iconst (v := 1) hx hb dX6_nodes_42 (by decide) ?_
    obtain rfl := Option.some.inj hf
    exact kg_zretW (b := true) hx hb hr hlk rfl rfl hP hD hS dX6_nodes_43
  · refine lv_iconst (v := 0) hx hb dX6_nodes_20 (by decide) ?_
    obtain rfl := Option.some.inj hf
    exact kg_zretW (b := false) hx hb hr hlk rfl rfl hP hD hS dX6_nodes_21
set_option maxHeartbeats 4000000 in
set_option maxRecDepth 100000 in
theorem c_X6_lays (l : Launch) (dC : Nat → ClassId) (dI : Nat → Nat → Nat) (cI cJ : ClassId) (A : Nat → Nat) (hq : Nat) (x : MdS) (v1 : Int32) (v2 : Int32) (r0 : MdS) (hf : Md_m_lays x v1 v2 = some r0) : MWv l yX6_lays (wAll yX6_lays cX6_lays 3 none) ({ frames := 1, cells := 0, slots := 0, locals := 40 } : Room) [.ref (A 0), .int v1, .int v2] hq (dC, dI) (vTy cI cJ) (wMd cI cJ A x) (wMd cI cJ A r0) := by
  refine kg_metW (Qc := fun Q => QWv (dC, dI) Q (wMd cI cJ A r0)) (cc := cX6_lays) (maxL := 3) (ret := none) (by decide) rfl (Nat.le_of_ble_eq_true rfl) ?_
  intro p e s m args below meth c Q hx hb hr hts hown hlk hml hP hK hN hD hA hS ls hl
  have hl : lv_has ls 3 [(0, .ref (A 0)), (1, .int v1), (2, .int v2)] := hl
  have ww0 := hts (.fieldLink RX6 13 "SafeBlocksModel" "first" "[I") (List.mem_cons_of_mem _ wd_8_0)
  have ww1 := hts (.fieldLink RX6 78 "SafeBlocksModel" "m" "I") (List.mem_cons_of_mem _ wd_9_6)
  have ww2 := hts (.fieldLink RX6 17 "SafeBlocksModel" "second" "[I") (List.mem_cons_of_mem _ wd_8_1)
  have hiX6 : ∀ w ∈ u_ws RX6 TX6 30, w ∈ wAll yX6_lays cX6_lays 3 none := fun w h => List.mem_cons_of_mem _ (inlX6 w h)
  suffices hgo : ∀ (H : Heap) (locs : List Loc), va_P (dC, dI) vwCl (wMd cI cJ A x) H → va_S Q s.heap H locs → W p l e ({ frames := 1, cells := 0, slots := 0, locals := 40 } : Room) s m args below meth c H locs 0 0 (MQ below (QWv (dC, dI) Q (wMd cI cJ A r0)) args s 0 0 Q) (F0 m 0 ls []) from hgo _ _ hP hS
  clear hP hS
  intro H locs hP hS
  unfold Md_m_lays at hf
  refine lv_aload_n hx hb dX6_lays_0 rfl (lv_at hl 0 rfl) ?_
  refine va_get (D := (dC, dI)) (ci := 6) (v := .ref (A 1)) (C := RX6) (T := TX6) (N := 30) hx hb hts hiX6 hown hK hP 0 rfl rfl 4 (by decide) ww0 (fun _ h9 => h9) rfl dX6_lays_1 ?_
  refine lv_aload_n hx hb dX6_lays_4 rfl (lv_at hl 0 rfl) ?_
  refine va_get (D := (dC, dI)) (ci := 6) (v := .int (Md_m x)) (C := RX6) (T := TX6) (N := 30) hx hb hts hiX6 hown hK hP 0 rfl rfl 2 (by decide) ww1 (fun _ h9 => h9) rfl dX6_lays_5 ?_
  refine lv_iload_n hx hb dX6_lays_8 rfl (lv_at hl 1 rfl) ?_
  obtain ⟨f9, hv, hf⟩ := ob_bind hf
  refine kg_iast (wz := (wMd cI cJ A (Md_set_first x f9))) hx hb hK hP hD hS 1 0 rfl rfl hv dX6_lays_9 (sc_Md_first _ _ _ _ _) (fun H locs hP hD hS => ?_)
  refine lv_aload_n hx hb dX6_lays_10 rfl (lv_at hl 0 rfl) ?_
  refine va_get (D := (dC, dI)) (ci := 6) (v := .ref (A 2)) (C := RX6) (T := TX6) (N := 30) hx hb hts hiX6 hown hK hP 0 rfl rfl 5 (by decide) ww2 (fun _ h9 => h9) rfl dX6_lays_11 ?_
  refine lv_aload_n hx hb dX6_lays_14 rfl (lv_at hl 0 rfl) ?_
  refine va_get (D := (dC, dI)) (ci := 6) (v := .int (Md_m (Md_set_first x f9))) (C := RX6) (T := TX6) (N := 30) hx hb hts hiX6 hown hK hP 0 rfl rfl 2 (by decide) ww1 (fun _ h9 => h9) rfl dX6_lays_15 ?_
  refine lv_iload_n hx hb dX6_lays_18 rfl (lv_at hl 2 rfl) ?_
  obtain ⟨f19, hv, hf⟩ := ob_bind hf
  refine kg_iast (wz := (wMd cI cJ A (Md_set_second (Md_set_first x f9) f19))) hx hb hK hP hD hS 2 0 rfl rfl hv dX6_lays_19 (sc_Md_second _ _ _ _ _) (fun H locs hP hD hS => ?_)
  refine lv_aload_n hx hb dX6_lays_20 rfl (lv_at hl 0 rfl) ?_
  refine lv_aload_n hx hb dX6_lays_21 rfl (lv_at hl 0 rfl) ?_
  refine va_get (D := (dC, dI)) (ci := 6) (v := .int (Md_m (Md_set_second (Md_set_first x f9) f19))) (C := RX6) (T := TX6) (N := 30) hx hb hts hiX6 hown hK hP 0 rfl rfl 2 (by decide) ww1 (fun _ h9 => h9) rfl dX6_lays_22 ?_
  refine lv_iconst (v := 1) hx hb dX6_lays_25 (by decide) ?_
  refine lv_iadd hx hb dX6_lays_26 ?_
  refine kg_put (ci := 6) (v := .int ((Md_m (Md_set_second (Md_set_first x f9) f19)) + 1)) (ty := .int) (C := RX6) (T := TX6) (N := 30) (wz := (wMd cI cJ A (Md_set_m (Md_set_second (Md_set_first x f9) f19) ((Md_m (Md_set_second (Md_set_first x f9) f19)) + 1)))) hx hb hts hiX6 tyX6 tyX6_ok nmX6 hown hK hP hD hS 0 rfl rfl 2 (by decide) ww1 (fun _ h9 => h9) rfl (tyX6_ok 2 (by decide)) rfl rfl (Nat.le_of_ble_eq_true rfl) dX6_lays_27 (sc_Md_m _ _ _ _ _) (fun H locs hP hD hS => ?_)
  obtain rfl := Option.some.inj hf
  exact kg_vretW hx hb hr hlk hP hD hS dX6_lays_30
set_option maxHeartbeats 4000000 in
set_option maxRecDepth 100000 in
theorem c_X6_link (l : Launch) (dC : Nat → ClassId) (dI : Nat → Nat → Nat) (cI cJ : ClassId) (A : Nat → Nat) (hq : Nat) (x : MdS) (v1 : Int32) (v2 : Int32) (r0 : (Int32 × MdS)) (hf : Md_m_link x v1 v2 = some r0) : MWi l yX6_link (wAll yX6_link cX6_link 4 (some .int)) ({ frames := 7, cells := 0, slots := 0, locals := 183 } : Room) [.ref (A 0), .int v1, .int v2] hq (dC, dI) (vTy cI cJ) (wMd cI cJ A x) (wMd cI cJ A r0.2) r0.1 := by
  refine kg_metW (Qc := fun Q => QWi (dC, dI) Q (wMd cI cJ A r0.2) r0.1) (cc := cX6_link) (maxL := 4) (ret := (some .int)) (by decide) rfl (Nat.le_of_ble_eq_true rfl) ?_
  intro p e s m args below meth c Q hx hb hr hts hown hlk hml hP hK hN hD hA hS ls hl
  have hl : lv_has ls 4 [(0, .ref (A 0)), (1, .int v1), (2, .int v2)] := hl
  have ww0 := hts (.fieldLink RX6 71 "SafeBlocksModel" "told" "I") (List.mem_cons_of_mem _ wd_9_3)
  have ww1 := hts (.fieldLink RX6 78 "SafeBlocksModel" "m" "I") (List.mem_cons_of_mem _ wd_9_6)
  have hiX6 : ∀ w ∈ u_ws RX6 TX6 30, w ∈ wAll yX6_link cX6_link 4 (some .int) := fun w h => List.mem_cons_of_mem _ (inlX6 w h)
  suffices hgo : ∀ (H : Heap) (locs : List Loc), va_P (dC, dI) vwCl (wMd cI cJ A x) H → va_S Q s.heap H locs → W p l e ({ frames := 7, cells := 0, slots := 0, locals := 183 } : Room) s m args below meth c H locs 0 0 (MQ below (QWi (dC, dI) Q (wMd cI cJ A r0.2) r0.1) args s 0 0 Q) (F0 m 0 ls []) from hgo _ _ hP hS
  clear hP hS
  intro H locs hP hS
  unfold Md_m_link at hf
  refine lv_aload_n hx hb dX6_link_0 rfl (lv_at hl 0 rfl) ?_
  refine lv_iconst (v := 0) hx hb dX6_link_1 (by decide) ?_
  refine kg_put (ci := 6) (v := .int 0) (ty := .int) (C := RX6) (T := TX6) (N := 30) (wz := (wMd cI cJ A (Md_set_told x 0))) hx hb hts hiX6 tyX6 tyX6_ok nmX6 hown hK hP hD hS 0 rfl rfl 0 (by decide) ww0 (fun _ h9 => h9) rfl (tyX6_ok 0 (by decide)) rfl rfl (Nat.le_of_ble_eq_true rfl) dX6_link_2 (sc_Md_told _ _ _ _ _) (fun H locs hP hD hS => ?_)
  refine lv_aload_n hx hb dX6_link_5 rfl (lv_at hl 0 rfl) ?_
  refine lv_iload_n hx hb dX6_link_6 rfl (lv_at hl 1 rfl) ?_
  refine lv_iload_n hx hb dX6_link_7 rfl (lv_at hl 2 rfl) ?_
  obtain ⟨g8, hc, hf⟩ := ob_bind hf
  have hPc : va_P (dC, dI) vwCl (wMd cI cJ A (Md_set_told x 0)) H := hP
  refine kg_retRi (va_runV (As := [.int v1, .int v2]) (rest := []) ⟨hx, hb, hml, hown, hts⟩ (c_X6_areTwo l dC dI cI cJ A H (Md_set_told x 0) v1 v2 _ hc) (cwV 2 hts (gw_V wd_12_9 wd_12_6 wd_12_7 wd_12_8 wd_1_5) rfl rfl rfl qX6_areTwo ⟨Nat.le_of_ble_eq_true rfl, Nat.le_of_ble_eq_true rfl⟩) (kg_preVR (ci := 6) (q := (RX6, TX6, 30)) (q0 := 0) hPc hK hN rfl rfl) rfl rfl hl.1 rfl (lv_room (Nat.le_of_ble_eq_true rfl)) dX6_link_8 ⟨Nat.zero_le _, Nat.zero_le _⟩) ?_
  refine kg_b_eq (tgt := 23) hx hb hf dX6_link_11 (by decide) (fun hc hf => ?_) (fun hc hf => ?_)
  · refine lv_iconst (v := (-1)) hx hb dX6_link_23 (by decide) ?_
    obtain rfl := Option.some.inj hf
    exact kg_iretW hx hb hr hlk rfl hP hD hS dX6_link_24
  · refine lv_aload_n hx hb dX6_link_14 rfl (lv_at hl 0 rfl) ?_
    refine va_get (D := (dC, dI)) (ci := 6) (v := .int (Md_m (Md_set_told x 0))) (C := RX6) (T := TX6) (N := 30) hx hb hts hiX6 hown hK hP 0 rfl rfl 2 (by decide) ww1 (fun _ h9 => h9) rfl dX6_link_15 ?_
    refine lv_bipush (v := 64) hx hb dX6_link_18 (by decide) ?_
    refine kg_icmp_ne (tgt := 25) hx hb hf dX6_link_20 (by decide) (fun hc hf => ?_) (fun hc hf => ?_)
    · refine lv_aload_n hx hb dX6_link_25 rfl (lv_at hl 0 rfl) ?_
      obtain ⟨g26, hc, hf⟩ := ob_bind hf
      have hPx := kg_eqP (kg_slf _) hP
      have hDx := kg_eqD (kg_slf _) hD
      refine kg_retWv (pre := ([] : va_W)) (wc := wMd cI cJ A (Md_set_told x 0)) (post := ([] : va_W)) (w1 := wMd cI cJ A g26) (wz := (wMd cI cJ A g26)) (kg_slf _).symm hPx hDx hS hA (va_runV (As := []) (rest := []) ⟨hx, hb, hml, hown, hts⟩ (c_X6_runsAll l dC dI cI cJ A H.size (Md_set_told x 0) _ hc) (cwV 0 hts (gw_V wd_12_17 wd_12_14 wd_12_15 wd_12_16 wd_1_5) rfl rfl rfl qX6_runsAll ⟨Nat.le_of_ble_eq_true rfl, Nat.le_of_ble_eq_true rfl⟩) (kg_preVW (ci := 6) (q := (RX6, TX6, 30)) (q0 := 0) (kg_cutP hPx) (kg_cutD hDx) hK hN rfl rfl) rfl rfl hl.1 rfl (lv_room (Nat.le_of_ble_eq_true rfl)) dX6_link_26 ⟨Nat.zero_le _, Nat.zero_le _⟩) (fun H locs hP hD hS => ?_)
      refine lv_aload_n hx hb dX6_link_29 rfl (lv_at hl 0 rfl) ?_
      obtain ⟨g30, hc, hf⟩ := ob_bind hf
      have hPc : va_P (dC, dI) vwCl (wMd cI cJ A g26) H := hP
      refine kg_retRi (va_runV (As := []) (rest := []) ⟨hx, hb, hml, hown, hts⟩ (c_X6_bridges l dC dI cI cJ A H g26 _ hc) (cwV 0 hts (gw_V wd_15_9 wd_15_6 wd_15_7 wd_15_8 wd_1_5) rfl rfl rfl qX6_bridges ⟨Nat.le_of_ble_eq_true rfl, Nat.le_of_ble_eq_true rfl⟩) (kg_preVR (ci := 6) (q := (RX6, TX6, 30)) (q0 := 0) hPc hK hN rfl rfl) rfl rfl hl.1 rfl (lv_room (Nat.le_of_ble_eq_true rfl)) dX6_link_30 ⟨Nat.zero_le _, Nat.zero_le _⟩) ?_
      refine lv_istore_n (lv' := [(3, .int g30), (0, .ref (A 0)), (1, .int v1), (2, .int v2)]) hx hb dX6_link_33 rfl hl (by decide) rfl (fun ls hl => ?_)
      refine lv_aload_n hx hb dX6_link_34 rfl (lv_at hl 1 rfl) ?_
      refine lv_iload_n hx hb dX6_link_35 rfl (lv_at hl 2 rfl) ?_
      refine lv_iload_n hx hb dX6_link_36 rfl (lv_at hl 3 rfl) ?_
      obtain ⟨g37, hc, hf⟩ := ob_bind hf
      have hPx := kg_eqP (kg_slf _) hP
      have hDx := kg_eqD (kg_slf _) hD
      refine kg_retWv (pre := ([] : va_W)) (wc := wMd cI cJ A g26) (post := ([] : va_W)) (w1 := wMd cI cJ A g37) (wz := (wMd cI cJ A g37)) (kg_slf _).symm hPx hDx hS hA (va_runV (As := [.int v1, .int v2]) (rest := []) ⟨hx, hb, hml, hown, hts⟩ (c_X6_lays l dC dI cI cJ A H.size g26 v1 v2 _ hc) (cwV 2 hts (gw_V wd_15_13 wd_15_10 wd_15_11 wd_15_12 wd_1_5) rfl rfl rfl qX6_lays ⟨Nat.le_of_ble_eq_true rfl, Nat.le_of_ble_eq_true rfl⟩) (kg_preVW (ci := 6) (q := (RX6, TX6, 30)) (q0 := 0) (kg_cutP hPx) (kg_cutD hDx) hK hN rfl rfl) rfl rfl hl.1 rfl (lv_room (Nat.le_of_ble_eq_true rfl)) dX6_link_37 ⟨Nat.zero_le _, Nat.zero_le _⟩) (fun H locs hP hD hS => ?_)
      refine lv_aload_n hx hb dX6_link_40 rfl (lv_at hl 1 rfl) ?_
      obtain ⟨g41, hc, hf⟩ := ob_bind hf
      have hPx := kg_eqP (kg_slf _) hP
      have hDx := kg_eqD (kg_slf _) hD
      refine kg_retWv (pre := ([] : va_W)) (wc := wMd cI cJ A g37) (post := ([] : va_W)) (w1 := wMd cI cJ A g41) (wz := (wMd cI cJ A g41)) (kg_slf _).symm hPx hDx hS hA (va_runV (As := []) (rest := []) ⟨hx, hb, hml, hown, hts⟩ (c_X6_runsAll l dC dI cI cJ A H.size g37 _ hc) (cwV 0 hts (gw_V wd_12_17 wd_12_14 wd_12_15 wd_12_16 wd_1_5) rfl rfl rfl qX6_runsAll ⟨Nat.le_of_ble_eq_true rfl, Nat.le_of_ble_eq_true rfl⟩) (kg_preVW (ci := 6) (q := (RX6, TX6, 30)) (q0 := 0) (kg_cutP hPx) (kg_cutD hDx) hK hN rfl rfl) rfl rfl hl.1 rfl (lv_room (Nat.le_of_ble_eq_true rfl)) dX6_link_41 ⟨Nat.zero_le _, Nat.zero_le _⟩) (fun H locs hP hD hS => ?_)
      refine lv_aload_n hx hb dX6_link_44 rfl (lv_at hl 1 rfl) ?_
      obtain ⟨g45, hc, hf⟩ := ob_bind hf
      have hPc : va_P (dC, dI) vwCl (wMd cI cJ A g41) H := hP
      refine kg_retRi (va_runV (As := []) (rest := []) ⟨hx, hb, hml, hown, hts⟩ (c_X6_bridges l dC dI cI cJ A H g41 _ hc) (cwV 0 hts (gw_V wd_15_9 wd_15_6 wd_15_7 wd_15_8 wd_1_5) rfl rfl rfl qX6_bridges ⟨Nat.le_of_ble_eq_true rfl, Nat.le_of_ble_eq_true rfl⟩) (kg_preVR (ci := 6) (q := (RX6, TX6, 30)) (q0 := 0) hPc hK hN rfl rfl) rfl rfl hl.1 rfl (lv_room (Nat.le_of_ble_eq_true rfl)) dX6_link_45 ⟨Nat.zero_le _, Nat.zero_le _⟩) ?_
      refine lv_iload_n hx hb dX6_link_48 rfl (lv_at hl 0 rfl) ?_
      refine kg_icmp_le (tgt := 57) hx hb hf dX6_link_49 (by decide) (fun hc hf => ?_) (fun hc hf => ?_)
      · refine lv_iload_n hx hb dX6_link_57 rfl (lv_at hl 0 rfl) ?_
        refine lv_aload_n hx hb dX6_link_58 rfl (lv_at hl 1 rfl) ?_
        obtain ⟨g59, hc, hf⟩ := ob_bind hf
        have hPc : va_P (dC, dI) vwCl (wMd cI cJ A g41) H := hP
        refine kg_retRi (va_runV (As := []) (rest := [.int g30]) ⟨hx, hb, hml, hown, hts⟩ (c_X6_bridges l dC dI cI cJ A H g41 _ hc) (cwV 0 hts (gw_V wd_15_9 wd_15_6 wd_15_7 wd_15_8 wd_1_5) rfl rfl rfl qX6_bridges ⟨Nat.le_of_ble_eq_true rfl, Nat.le_of_ble_eq_true rfl⟩) (kg_preVR (ci := 6) (q := (RX6, TX6, 30)) (q0 := 0) hPc hK hN rfl rfl) rfl rfl hl.1 rfl (lv_room (Nat.le_of_ble_eq_true rfl)) dX6_link_59 ⟨Nat.zero_le _, Nat.zero_le _⟩) ?_
        refine lv_isub hx hb dX6_link_62 ?_
        obtain rfl := Option.some.inj hf
        exact kg_iretW hx hb hr hlk rfl hP hD hS dX6_link_63
      · refine lv_bipush (v := (-2)) hx hb dX6_link_52 (by decide) ?_
        refine lv_goto (tgt := 63) hx hb dX6_link_54 (by decide) ?_
        obtain rfl := Option.some.inj hf
        exact kg_iretW hx hb hr hlk rfl hP hD hS dX6_link_63
    · refine lv_iconst (v := (-1)) hx hb dX6_link_23 (by decide) ?_
      obtain rfl := Option.some.inj hf
      exact kg_iretW hx hb hr hlk rfl hP hD hS dX6_link_24
set_option maxHeartbeats 4000000 in
set_option maxRecDepth 100000 in
theorem c_X6_undo (l : Launch) (dC : Nat → ClassId) (dI : Nat → Nat → Nat) (cI cJ : ClassId) (A : Nat → Nat) (hq : Nat) (x : MdS) (v1 : Int32) (r0 : (Int32 × MdS)) (hf : Md_m_undo x v1 = some r0) : MWi l yX6_undo (wAll yX6_undo cX6_undo 2 (some .int)) ({ frames := 2, cells := 0, slots := 0, locals := 66 } : Room) [.ref (A 0), .int v1] hq (dC, dI) (vTy cI cJ) (wMd cI cJ A x) (wMd cI cJ A r0.2) r0.1 := by
  refine kg_metW (Qc := fun Q => QWi (dC, dI) Q (wMd cI cJ A r0.2) r0.1) (cc := cX6_undo) (maxL := 2) (ret := (some .int)) (by decide) rfl (Nat.le_of_ble_eq_true rfl) ?_
  intro p e s m args below meth c Q hx hb hr hts hown hlk hml hP hK hN hD hA hS ls hl
  have hl : lv_has ls 2 [(0, .ref (A 0)), (1, .int v1)] := hl
  have ww0 := hts (.fieldLink RX6 71 "SafeBlocksModel" "told" "I") (List.mem_cons_of_mem _ wd_9_3)
  have ww1 := hts (.fieldLink RX6 78 "SafeBlocksModel" "m" "I") (List.mem_cons_of_mem _ wd_9_6)
  have ww2 := hts (.fieldLink RX6 20 "SafeBlocksModel" "run" "I") (List.mem_cons_of_mem _ wd_8_2)
  have ww3 := hts (.fieldLink RX6 47 "SafeBlocksModel" "partRun" "I") (List.mem_cons_of_mem _ wd_8_11)
  have hiX6 : ∀ w ∈ u_ws RX6 TX6 30, w ∈ wAll yX6_undo cX6_undo 2 (some .int) := fun w h => List.mem_cons_of_mem _ (inlX6 w h)
  suffices hgo : ∀ (H : Heap) (locs : List Loc), va_P (dC, dI) vwCl (wMd cI cJ A x) H → va_S Q s.heap H locs → W p l e ({ frames := 2, cells := 0, slots := 0, locals := 66 } : Room) s m args below meth c H locs 0 0 (MQ below (QWi (dC, dI) Q (wMd cI cJ A r0.2) r0.1) args s 0 0 Q) (F0 m 0 ls []) from hgo _ _ hP hS
  clear hP hS
  intro H locs hP hS
  unfold Md_m_undo at hf
  refine lv_aload_n hx hb dX6_undo_0 rfl (lv_at hl 0 rfl) ?_
  refine lv_iconst (v := 0) hx hb dX6_undo_1 (by decide) ?_
  refine kg_put (ci := 6) (v := .int 0) (ty := .int) (C := RX6) (T := TX6) (N := 30) (wz := (wMd cI cJ A (Md_set_told x 0))) hx hb hts hiX6 tyX6 tyX6_ok nmX6 hown hK hP hD hS 0 rfl rfl 0 (by decide) ww0 (fun _ h9 => h9) rfl (tyX6_ok 0 (by decide)) rfl rfl (Nat.le_of_ble_eq_true rfl) dX6_undo_2 (sc_Md_told _ _ _ _ _) (fun H locs hP hD hS => ?_)
  refine lv_aload_n hx hb dX6_undo_5 rfl (lv_at hl 0 rfl) ?_
  refine lv_iload_n hx hb dX6_undo_6 rfl (lv_at hl 1 rfl) ?_
  refine lv_i2l hx hb dX6_undo_7 rfl ?_
  refine lv_lconst (v := 0) hx hb dX6_undo_8 (by decide) ?_
  refine lv_aload_n hx hb dX6_undo_9 rfl (lv_at hl 0 rfl) ?_
  refine va_get (D := (dC, dI)) (ci := 6) (v := .int (Md_m (Md_set_told x 0))) (C := RX6) (T := TX6) (N := 30) hx hb hts hiX6 hown hK hP 0 rfl rfl 2 (by decide) ww1 (fun _ h9 => h9) rfl dX6_undo_10 ?_
  refine lv_i2l hx hb dX6_undo_13 rfl ?_
  obtain ⟨g14, hc, hf⟩ := ob_bind hf
  have hPc : va_P (dC, dI) vwCl (wMd cI cJ A (Md_set_told x 0)) H := hP
  refine kg_retRi (va_runV (As := [.long ((v1 : Int32).toInt64), .long 0, .long (((Md_m (Md_set_told x 0)) : Int32).toInt64)]) (rest := []) ⟨hx, hb, hml, hown, hts⟩ (c_X6_isIn l dC dI cI cJ A H (Md_set_told x 0) ((v1 : Int32).toInt64) 0 (((Md_m (Md_set_told x 0)) : Int32).toInt64) _ hc) (cwV 3 hts (gw_V wd_9_10 wd_9_7 wd_9_8 wd_9_9 wd_1_5) rfl rfl rfl qX6_isIn ⟨Nat.le_of_ble_eq_true rfl, Nat.le_of_ble_eq_true rfl⟩) (kg_preVR (ci := 6) (q := (RX6, TX6, 30)) (q0 := 0) hPc hK hN rfl rfl) rfl rfl hl.1 rfl (lv_room (Nat.le_of_ble_eq_true rfl)) dX6_undo_14 ⟨Nat.zero_le _, Nat.zero_le _⟩) ?_
  refine kg_b_ne (tgt := 22) hx hb hf dX6_undo_17 (by decide) (fun hc hf => ?_) (fun hc hf => ?_)
  · refine lv_aload_n hx hb dX6_undo_22 rfl (lv_at hl 0 rfl) ?_
    refine lv_aload_n hx hb dX6_undo_23 rfl (lv_at hl 0 rfl) ?_
    refine va_get (D := (dC, dI)) (ci := 6) (v := .int (Md_m (Md_set_told x 0))) (C := RX6) (T := TX6) (N := 30) hx hb hts hiX6 hown hK hP 0 rfl rfl 2 (by decide) ww1 (fun _ h9 => h9) rfl dX6_undo_24 ?_
    refine lv_iload_n hx hb dX6_undo_27 rfl (lv_at hl 1 rfl) ?_
    refine lv_isub hx hb dX6_undo_28 ?_
    refine kg_put (ci := 6) (v := .int ((Md_m (Md_set_told x 0)) - v1)) (ty := .int) (C := RX6) (T := TX6) (N := 30) (wz := (wMd cI cJ A (Md_set_m (Md_set_told x 0) ((Md_m (Md_set_told x 0)) - v1)))) hx hb hts hiX6 tyX6 tyX6_ok nmX6 hown hK hP hD hS 0 rfl rfl 2 (by decide) ww1 (fun _ h9 => h9) rfl (tyX6_ok 2 (by decide)) rfl rfl (Nat.le_of_ble_eq_true rfl) dX6_undo_29 (sc_Md_m _ _ _ _ _) (fun H locs hP hD hS => ?_)
    refine lv_aload_n hx hb dX6_undo_32 rfl (lv_at hl 0 rfl) ?_
    refine lv_iconst (v := (-1)) hx hb dX6_undo_33 (by decide) ?_
    refine kg_put (ci := 6) (v := .int (-1)) (ty := .int) (C := RX6) (T := TX6) (N := 30) (wz := (wMd cI cJ A (Md_set_run (Md_set_m (Md_set_told x 0) ((Md_m (Md_set_told x 0)) - v1)) (-1)))) hx hb hts hiX6 tyX6 tyX6_ok nmX6 hown hK hP hD hS 0 rfl rfl 6 (by decide) ww2 (fun _ h9 => h9) rfl (tyX6_ok 6 (by decide)) rfl rfl (Nat.le_of_ble_eq_true rfl) dX6_undo_34 (sc_Md_run _ _ _ _ _) (fun H locs hP hD hS => ?_)
    refine lv_aload_n hx hb dX6_undo_37 rfl (lv_at hl 0 rfl) ?_
    refine lv_iconst (v := (-1)) hx hb dX6_undo_38 (by decide) ?_
    refine kg_put (ci := 6) (v := .int (-1)) (ty := .int) (C := RX6) (T := TX6) (N := 30) (wz := (wMd cI cJ A (Md_set_partRun (Md_set_run (Md_set_m (Md_set_told x 0) ((Md_m (Md_set_told x 0)) - v1)) (-1)) (-1)))) hx hb hts hiX6 tyX6 tyX6_ok nmX6 hown hK hP hD hS 0 rfl rfl 20 (by decide) ww3 (fun _ h9 => h9) rfl (tyX6_ok 20 (by decide)) rfl rfl (Nat.le_of_ble_eq_true rfl) dX6_undo_39 (sc_Md_partRun _ _ _ _ _) (fun H locs hP hD hS => ?_)
    refine lv_aload_n hx hb dX6_undo_42 rfl (lv_at hl 0 rfl) ?_
    refine va_get (D := (dC, dI)) (ci := 6) (v := .int (Md_m (Md_set_partRun (Md_set_run (Md_set_m (Md_set_told x 0) ((Md_m (Md_set_told x 0)) - v1)) (-1)) (-1)))) (C := RX6) (T := TX6) (N := 30) hx hb hts hiX6 hown hK hP 0 rfl rfl 2 (by decide) ww1 (fun _ h9 => h9) rfl dX6_undo_43 ?_
    obtain rfl := Option.some.inj hf
    exact kg_iretW hx hb hr hlk rfl hP hD hS dX6_undo_46
  · refine lv_iconst (v := (-1)) hx hb dX6_undo_20 (by decide) ?_
    obtain rfl := Option.some.inj hf
    exact kg_iretW hx hb hr hlk rfl hP hD hS dX6_undo_21
set_option maxHeartbeats 4000000 in
set_option maxRecDepth 100000 in
theorem c_X6_draw (l : Launch) (dC : Nat → ClassId) (dI : Nat → Nat → Nat) (cI cJ : ClassId) (A : Nat → Nat) (hq : Nat) (x : MdS) (v1 : Int32) (r0 : (Int32 × MdS)) (hf : Md_m_draw x v1 = some r0) : MWi l yX6_draw (wAll yX6_draw cX6_draw 2 (some .int)) ({ frames := 1, cells := 0, slots := 0, locals := 40 } : Room) [.ref (A 0), .int v1] hq (dC, dI) (vTy cI cJ) (wMd cI cJ A x) (wMd cI cJ A r0.2) r0.1 := by
  refine kg_metW (Qc := fun Q => QWi (dC, dI) Q (wMd cI cJ A r0.2) r0.1) (cc := cX6_draw) (maxL := 2) (ret := (some .int)) (by decide) rfl (Nat.le_of_ble_eq_true rfl) ?_
  intro p e s m args below meth c Q hx hb hr hts hown hlk hml hP hK hN hD hA hS ls hl
  have hl : lv_has ls 2 [(0, .ref (A 0)), (1, .int v1)] := hl
  have ww0 := hts (.constant RX6 165 (1664525)) (List.mem_cons_of_mem _ wd_16_23)
  have ww1 := hts (.fieldLink RX6 166 "SafeBlocksModel" "state" "I") (List.mem_cons_of_mem _ wd_17_0)
  have ww2 := hts (.constant RX6 169 (1013904223)) (List.mem_cons_of_mem _ wd_17_1)
  have hiX6 : ∀ w ∈ u_ws RX6 TX6 30, w ∈ wAll yX6_draw cX6_draw 2 (some .int) := fun w h => List.mem_cons_of_mem _ (inlX6 w h)
  suffices hgo : ∀ (H : Heap) (locs : List Loc), va_P (dC, dI) vwCl (wMd cI cJ A x) H → va_S Q s.heap H locs → W p l e ({ frames := 1, cells := 0, slots := 0, locals := 40 } : Room) s m args below meth c H locs 0 0 (MQ below (QWi (dC, dI) Q (wMd cI cJ A r0.2) r0.1) args s 0 0 Q) (F0 m 0 ls []) from hgo _ _ hP hS
  clear hP hS
  intro H locs hP hS
  unfold Md_m_draw at hf
  refine lv_aload_n hx hb dX6_draw_0 rfl (lv_at hl 0 rfl) ?_
  refine lv_ldc (v := 1664525) hx hb hown ww0 dX6_draw_1 ?_
  refine lv_aload_n hx hb dX6_draw_3 rfl (lv_at hl 0 rfl) ?_
  refine va_get (D := (dC, dI)) (ci := 6) (v := .int (Md_state x)) (C := RX6) (T := TX6) (N := 30) hx hb hts hiX6 hown hK hP 0 rfl rfl 3 (by decide) ww1 (fun _ h9 => h9) rfl dX6_draw_4 ?_
  refine lv_imul hx hb dX6_draw_7 ?_
  refine lv_ldc (v := 1013904223) hx hb hown ww2 dX6_draw_8 ?_
  refine lv_iadd hx hb dX6_draw_10 ?_
  refine kg_put (ci := 6) (v := .int ((1664525 * (Md_state x)) + 1013904223)) (ty := .int) (C := RX6) (T := TX6) (N := 30) (wz := (wMd cI cJ A (Md_set_state x ((1664525 * (Md_state x)) + 1013904223)))) hx hb hts hiX6 tyX6 tyX6_ok nmX6 hown hK hP hD hS 0 rfl rfl 3 (by decide) ww1 (fun _ h9 => h9) rfl (tyX6_ok 3 (by decide)) rfl rfl (Nat.le_of_ble_eq_true rfl) dX6_draw_11 (sc_Md_state _ _ _ _ _) (fun H locs hP hD hS => ?_)
  refine lv_aload_n hx hb dX6_draw_14 rfl (lv_at hl 0 rfl) ?_
  refine va_get (D := (dC, dI)) (ci := 6) (v := .int (Md_state (Md_set_state x ((1664525 * (Md_state x)) + 1013904223)))) (C := RX6) (T := TX6) (N := 30) hx hb hts hiX6 hown hK hP 0 rfl rfl 3 (by decide) ww1 (fun _ h9 => h9) rfl dX6_draw_15 ?_
  refine lv_bipush (v := 8) hx hb dX6_draw_18 (by decide) ?_
  refine lv_iushr hx hb dX6_draw_20 rfl ?_
  refine lv_iload_n hx hb dX6_draw_21 rfl (lv_at hl 1 rfl) ?_
  obtain ⟨g22, hv, hf⟩ := ob_bind hf
  refine kg_irem hx hb hv dX6_draw_22 ?_
  obtain rfl := Option.some.inj hf
  exact kg_iretW hx hb hr hlk rfl hP hD hS dX6_draw_23
set_option maxHeartbeats 4000000 in
set_option maxRecDepth 100000 in
theorem c_X6_rain (l : Launch) (dC : Nat → ClassId) (dI : Nat → Nat → Nat) (cI cJ : ClassId) (A : Nat → Nat) (hq : Nat) (x : MdS) (v1 : Int32) (r0 : (Int32 × MdS)) (hf : Md_m_rain x v1 = some r0) : MWi l yX6_rain (wAll yX6_rain cX6_rain 5 (some .int)) ({ frames := 2, cells := 0, slots := 0, locals := 66 } : Room) [.ref (A 0), .int v1] hq (dC, dI) (vTy cI cJ) (wMd cI cJ A x) (wMd cI cJ A r0.2) r0.1 := by
  refine kg_metW (Qc := fun Q => QWi (dC, dI) Q (wMd cI cJ A r0.2) r0.1) (cc := cX6_rain) (maxL := 5) (ret := (some .int)) (by decide) rfl (Nat.le_of_ble_eq_true rfl) ?_
  intro p e s m args below meth c Q hx hb hr hts hown hlk hml hP hK hN hD hA hS ls hl
  have hl : lv_has ls 5 [(0, .ref (A 0)), (1, .int v1)] := hl
  have ww0 := hts (.fieldLink RX6 71 "SafeBlocksModel" "told" "I") (List.mem_cons_of_mem _ wd_9_3)
  have ww1 := hts (.constantLong RX6 170 (64)) (List.mem_cons_of_mem _ wd_16_18)
  have ww2 := hts (.fieldLink RX6 78 "SafeBlocksModel" "m" "I") (List.mem_cons_of_mem _ wd_9_6)
  have ww3 := hts (.fieldLink RX6 7 "SafeBlocksModel" "n" "I") (List.mem_cons_of_mem _ wd_7_23)
  have hiX6 : ∀ w ∈ u_ws RX6 TX6 30, w ∈ wAll yX6_rain cX6_rain 5 (some .int) := fun w h => List.mem_cons_of_mem _ (inlX6 w h)
  suffices hgo : ∀ (H : Heap) (locs : List Loc), va_P (dC, dI) vwCl (wMd cI cJ A x) H → va_S Q s.heap H locs → W p l e ({ frames := 2, cells := 0, slots := 0, locals := 66 } : Room) s m args below meth c H locs 0 0 (MQ below (QWi (dC, dI) Q (wMd cI cJ A r0.2) r0.1) args s 0 0 Q) (F0 m 0 ls []) from hgo _ _ hP hS
  clear hP hS
  intro H locs hP hS
  unfold Md_m_rain at hf
  refine lv_aload_n hx hb dX6_rain_0 rfl (lv_at hl 0 rfl) ?_
  refine lv_iconst (v := 0) hx hb dX6_rain_1 (by decide) ?_
  refine kg_put (ci := 6) (v := .int 0) (ty := .int) (C := RX6) (T := TX6) (N := 30) (wz := (wMd cI cJ A (Md_set_told x 0))) hx hb hts hiX6 tyX6 tyX6_ok nmX6 hown hK hP hD hS 0 rfl rfl 0 (by decide) ww0 (fun _ h9 => h9) rfl (tyX6_ok 0 (by decide)) rfl rfl (Nat.le_of_ble_eq_true rfl) dX6_rain_2 (sc_Md_told _ _ _ _ _) (fun H locs hP hD hS => ?_)
  refine lv_aload_n hx hb dX6_rain_5 rfl (lv_at hl 0 rfl) ?_
  refine lv_iload_n hx hb dX6_rain_6 rfl (lv_at hl 1 rfl) ?_
  refine lv_i2l hx hb dX6_rain_7 rfl ?_
  refine lv_lconst (v := 1) hx hb dX6_rain_8 (by decide) ?_
  refine lv_ldc2 (v := 64) hx hb hown ww1 dX6_rain_9 ?_
  obtain ⟨g12, hc, hf⟩ := ob_bind hf
  have hPc : va_P (dC, dI) vwCl (wMd cI cJ A (Md_set_told x 0)) H := hP
  refine kg_retRi (va_runV (As := [.long ((v1 : Int32).toInt64), .long 1, .long 64]) (rest := []) ⟨hx, hb, hml, hown, hts⟩ (c_X6_isIn l dC dI cI cJ A H (Md_set_told x 0) ((v1 : Int32).toInt64) 1 64 _ hc) (cwV 3 hts (gw_V wd_9_10 wd_9_7 wd_9_8 wd_9_9 wd_1_5) rfl rfl rfl qX6_isIn ⟨Nat.le_of_ble_eq_true rfl, Nat.le_of_ble_eq_true rfl⟩) (kg_preVR (ci := 6) (q := (RX6, TX6, 30)) (q0 := 0) hPc hK hN rfl rfl) rfl rfl hl.1 rfl (lv_room (Nat.le_of_ble_eq_true rfl)) dX6_rain_12 ⟨Nat.zero_le _, Nat.zero_le _⟩) ?_
  refine kg_b_eq (tgt := 29) hx hb hf dX6_rain_15 (by decide) (fun hc hf => ?_) (fun hc hf => ?_)
  · refine lv_iconst (v := (-1)) hx hb dX6_rain_29 (by decide) ?_
    obtain rfl := Option.some.inj hf
    exact kg_iretW hx hb hr hlk rfl hP hD hS dX6_rain_30
  · refine lv_aload_n hx hb dX6_rain_18 rfl (lv_at hl 0 rfl) ?_
    refine va_get (D := (dC, dI)) (ci := 6) (v := .int (Md_m (Md_set_told x 0))) (C := RX6) (T := TX6) (N := 30) hx hb hts hiX6 hown hK hP 0 rfl rfl 2 (by decide) ww2 (fun _ h9 => h9) rfl dX6_rain_19 ?_
    refine lv_iload_n hx hb dX6_rain_22 rfl (lv_at hl 1 rfl) ?_
    refine lv_iadd hx hb dX6_rain_23 ?_
    refine lv_bipush (v := 64) hx hb dX6_rain_24 (by decide) ?_
    refine kg_icmp_le (tgt := 31) hx hb hf dX6_rain_26 (by decide) (fun hc hf => ?_) (fun hc hf => ?_)
    · refine lv_iconst (v := 0) hx hb dX6_rain_31 (by decide) ?_
      refine lv_istore_n (lv' := [(2, .int 0), (0, .ref (A 0)), (1, .int v1)]) hx hb dX6_rain_32 rfl hl (by decide) rfl (fun ls hl => ?_)
      have hlp33 : ∀ (n : Nat) (x : MdS) (v2 : Int32), iter (fun p : MdS × Int32 => Md_m_rain_s33 v1 p.1 p.2) n (x, v2) = some r0 → ∀ (H : Heap) (locs : List Loc) (ls : Array Slot), va_P (dC, dI) vwCl (wMd cI cJ A x) H → va_D Q (wMd cI cJ A x) → va_S Q s.heap H locs → lv_has ls 5 [(0, .ref (A 0)), (1, .int v1), (2, .int v2)] → W p l e ({ frames := 2, cells := 0, slots := 0, locals := 66 } : Room) s m args below meth c H locs 0 0 (MQ below (QWi (dC, dI) Q (wMd cI cJ A r0.2) r0.1) args s 0 0 Q) (F0 m 33 ls []) := by
        intro  n
        induction n with
        | zero => intro x v2 hf; exact iter_zero hf
        | succ n ih1 =>
          intro x v2 hf H locs ls hP hD hS hl
          obtain ⟨q1, hf, hk1⟩ := iter_succ hf
          have hf : Md_m_rain_s33 v1 x v2 = some q1 := hf
          unfold Md_m_rain_s33 at hf
          have hj76 : ∀ (x : MdS) (v2 : Int32) (w1 : Int32) (w2 : Int32), Md_m_rain_j76 x v1 v2 w1 w2 = some q1 → ∀ (H : Heap) (locs : List Loc) (ls : Array Slot), va_P (dC, dI) vwCl (wMd cI cJ A x) H → va_D Q (wMd cI cJ A x) → va_S Q s.heap H locs → lv_has ls 5 [(0, .ref (A 0)), (1, .int v1), (2, .int v2)] → W p l e ({ frames := 2, cells := 0, slots := 0, locals := 66 } : Room) s m args below meth c H locs 0 0 (MQ below (QWi (dC, dI) Q (wMd cI cJ A r0.2) r0.1) args s 0 0 Q) (F0 m 76 ls [.int w2, .int w1, .ref (A 0)]) := by
            intro x v2 w1 w2 hf H locs ls hP hD hS hl
            unfold Md_m_rain_j76 at hf
            obtain ⟨g76, hc, hf⟩ := ob_bind hf
            have hPx := kg_eqP (kg_slf _) hP
            have hDx := kg_eqD (kg_slf _) hD
            refine kg_retWv (pre := ([] : va_W)) (wc := wMd cI cJ A x) (post := ([] : va_W)) (w1 := wMd cI cJ A g76) (wz := (wMd cI cJ A g76)) (kg_slf _).symm hPx hDx hS hA (va_runV (As := [.int w1, .int w2]) (rest := []) ⟨hx, hb, hml, hown, hts⟩ (c_X6_lays l dC dI cI cJ A H.size x w1 w2 _ hc) (cwV 2 hts (gw_V wd_15_13 wd_15_10 wd_15_11 wd_15_12 wd_1_5) rfl rfl rfl qX6_lays ⟨Nat.le_of_ble_eq_true rfl, Nat.le_of_ble_eq_true rfl⟩) (kg_preVW (ci := 6) (q := (RX6, TX6, 30)) (q0 := 0) (kg_cutP hPx) (kg_cutD hDx) hK hN rfl rfl) rfl rfl hl.1 rfl (lv_room (Nat.le_of_ble_eq_true rfl)) dX6_rain_76 ⟨Nat.zero_le _, Nat.zero_le _⟩) (fun H locs hP hD hS => ?_)
            refine lv_iinc (v := (v2 + 1)) (lv' := [(2, .int (v2 + 1)), (0, .ref (A 0)), (1, .int v1)]) hx hb dX6_rain_79 hl (k := 2) rfl rfl (by decide) rfl (fun ls hl => ?_)
            refine lv_goto (tgt := 33) hx hb dX6_rain_82 (by decide) ?_
            obtain rfl := Option.some.inj hf
            exact ih1 g76 (v2 + 1) hk1 _ _ _ hP hD hS (lv_sub hl [1, 2, 0] rfl)
          refine lv_iload_n hx hb dX6_rain_33 rfl (lv_at hl 2 rfl) ?_
          refine lv_iload_n hx hb dX6_rain_34 rfl (lv_at hl 1 rfl) ?_
          refine kg_icmp_ge (tgt := 85) hx hb hf dX6_rain_35 (by decide) (fun hc hf => ?_) (fun hc hf => ?_)
          · obtain ⟨qq, hf, hqq⟩ := omap_some hf
            have hkq : qq = r0 := by rw [← hqq] at hk1; exact hk1
            rw [hkq] at hf
            clear hkq hqq
            refine lv_aload_n hx hb dX6_rain_85 rfl (lv_at hl 0 rfl) ?_
            refine va_get (D := (dC, dI)) (ci := 6) (v := .int (Md_m x)) (C := RX6) (T := TX6) (N := 30) hx hb hts hiX6 hown hK hP 0 rfl rfl 2 (by decide) ww2 (fun _ h9 => h9) rfl dX6_rain_86 ?_
            obtain rfl := Option.some.inj hf
            exact kg_iretW hx hb hr hlk rfl hP hD hS dX6_rain_89
          · refine lv_aload_n hx hb dX6_rain_38 rfl (lv_at hl 0 rfl) ?_
            refine lv_aload_n hx hb dX6_rain_39 rfl (lv_at hl 0 rfl) ?_
            refine va_get (D := (dC, dI)) (ci := 6) (v := .int (Md_n x)) (C := RX6) (T := TX6) (N := 30) hx hb hts hiX6 hown hK hP 0 rfl rfl 1 (by decide) ww3 (fun _ h9 => h9) rfl dX6_rain_40 ?_
            obtain ⟨g43, hc, hf⟩ := ob_bind hf
            have hPx := kg_eqP (kg_slf _) hP
            have hDx := kg_eqD (kg_slf _) hD
            refine kg_retWi (pre := ([] : va_W)) (wc := wMd cI cJ A x) (post := ([] : va_W)) (w1 := wMd cI cJ A g43.2) (wz := (wMd cI cJ A g43.2)) (kg_slf _).symm hPx hDx hS hA (va_runV (As := [.int (Md_n x)]) (rest := []) ⟨hx, hb, hml, hown, hts⟩ (c_X6_draw l dC dI cI cJ A H.size x (Md_n x) _ hc) (cwV 1 hts (gw_V wd_16_22 wd_16_19 wd_16_20 wd_16_21 wd_1_5) rfl rfl rfl qX6_draw ⟨Nat.le_of_ble_eq_true rfl, Nat.le_of_ble_eq_true rfl⟩) (kg_preVW (ci := 6) (q := (RX6, TX6, 30)) (q0 := 0) (kg_cutP hPx) (kg_cutD hDx) hK hN rfl rfl) rfl rfl hl.1 rfl (lv_room (Nat.le_of_ble_eq_true rfl)) dX6_rain_43 ⟨Nat.zero_le _, Nat.zero_le _⟩) (fun H locs hP hD hS => ?_)
            refine lv_istore_n (lv' := [(3, .int g43.1), (0, .ref (A 0)), (1, .int v1), (2, .int v2)]) hx hb dX6_rain_46 rfl hl (by decide) rfl (fun ls hl => ?_)
            refine lv_aload_n hx hb dX6_rain_47 rfl (lv_at hl 1 rfl) ?_
            refine lv_aload_n hx hb dX6_rain_48 rfl (lv_at hl 1 rfl) ?_
            refine va_get (D := (dC, dI)) (ci := 6) (v := .int (Md_n g43.2)) (C := RX6) (T := TX6) (N := 30) hx hb hts hiX6 hown hK hP 0 rfl rfl 1 (by decide) ww3 (fun _ h9 => h9) rfl dX6_rain_49 ?_
            refine lv_iconst (v := 1) hx hb dX6_rain_52 (by decide) ?_
            refine lv_isub hx hb dX6_rain_53 ?_
            obtain ⟨g54, hc, hf⟩ := ob_bind hf
            have hPx := kg_eqP (kg_slf _) hP
            have hDx := kg_eqD (kg_slf _) hD
            refine kg_retWi (pre := ([] : va_W)) (wc := wMd cI cJ A g43.2) (post := ([] : va_W)) (w1 := wMd cI cJ A g54.2) (wz := (wMd cI cJ A g54.2)) (kg_slf _).symm hPx hDx hS hA (va_runV (As := [.int ((Md_n g43.2) - 1)]) (rest := []) ⟨hx, hb, hml, hown, hts⟩ (c_X6_draw l dC dI cI cJ A H.size g43.2 ((Md_n g43.2) - 1) _ hc) (cwV 1 hts (gw_V wd_16_22 wd_16_19 wd_16_20 wd_16_21 wd_1_5) rfl rfl rfl qX6_draw ⟨Nat.le_of_ble_eq_true rfl, Nat.le_of_ble_eq_true rfl⟩) (kg_preVW (ci := 6) (q := (RX6, TX6, 30)) (q0 := 0) (kg_cutP hPx) (kg_cutD hDx) hK hN rfl rfl) rfl rfl hl.1 rfl (lv_room (Nat.le_of_ble_eq_true rfl)) dX6_rain_54 ⟨Nat.zero_le _, Nat.zero_le _⟩) (fun H locs hP hD hS => ?_)
            refine lv_istore (lv' := [(4, .int g54.1), (3, .int g43.1), (0, .ref (A 0)), (1, .int v1), (2, .int v2)]) hx hb dX6_rain_57 hl (by decide) rfl (fun ls hl => ?_)
            refine lv_aload_n hx hb dX6_rain_59 rfl (lv_at hl 2 rfl) ?_
            refine lv_iload_n hx hb dX6_rain_60 rfl (lv_at hl 1 rfl) ?_
            refine lv_iload hx hb dX6_rain_61 (lv_at hl 0 rfl) ?_
            refine lv_iload_n hx hb dX6_rain_63 rfl (lv_at hl 1 rfl) ?_
            refine kg_icmp_ge (tgt := 72) hx hb hf dX6_rain_64 (by decide) (fun hc hf => ?_) (fun hc hf => ?_)
            · refine lv_iload hx hb dX6_rain_72 (lv_at hl 0 rfl) ?_
              refine lv_iconst (v := 1) hx hb dX6_rain_74 (by decide) ?_
              refine lv_iadd hx hb dX6_rain_75 ?_
              exact hj76 g54.2 v2 g43.1 (g54.1 + 1) hf _ _ _ hP hD hS (lv_sub hl [2, 3, 4] rfl)
            · refine lv_iload hx hb dX6_rain_67 (lv_at hl 0 rfl) ?_
              refine lv_goto (tgt := 76) hx hb dX6_rain_69 (by decide) ?_
              exact hj76 g54.2 v2 g43.1 g54.1 hf _ _ _ hP hD hS (lv_sub hl [2, 3, 4] rfl)
      exact hlp33  FU (Md_set_told x 0) 0 hf _ _ _ hP hD hS (lv_sub hl [1, 2, 0] rfl)
    · refine lv_iconst (v := (-1)) hx hb dX6_rain_29 (by decide) ?_
      obtain rfl := Option.some.inj hf
      exact kg_iretW hx hb hr hlk rfl hP hD hS dX6_rain_30
set_option maxHeartbeats 4000000 in
set_option maxRecDepth 100000 in
theorem c_X6_state (l : Launch) (dC : Nat → ClassId) (dI : Nat → Nat → Nat) (cI cJ : ClassId) (A : Nat → Nat) (hq : Nat) (x : MdS) (v1 : Int32) (r0 : (Int32 × MdS)) (hf : Md_m_state x v1 = some r0) : MWi l yX6_state (wAll yX6_state cX6_state 3 (some .int)) ({ frames := 1, cells := 0, slots := 0, locals := 40 } : Room) [.ref (A 0), .int v1] hq (dC, dI) (vTy cI cJ) (wMd cI cJ A x) (wMd cI cJ A r0.2) r0.1 := by
  refine kg_metW (Qc := fun Q => QWi (dC, dI) Q (wMd cI cJ A r0.2) r0.1) (cc := cX6_state) (maxL := 3) (ret := (some .int)) (by decide) rfl (Nat.le_of_ble_eq_true rfl) ?_
  intro p e s m args below meth c Q hx hb hr hts hown hlk hml hP hK hN hD hA hS ls hl
  have hl : lv_has ls 3 [(0, .ref (A 0)), (1, .int v1)] := hl
  have ww0 := hts (.fieldLink RX6 71 "SafeBlocksModel" "told" "I") (List.mem_cons_of_mem _ wd_9_3)
  have ww1 := hts (.fieldLink RX6 166 "SafeBlocksModel" "state" "I") (List.mem_cons_of_mem _ wd_17_0)
  have hiX6 : ∀ w ∈ u_ws RX6 TX6 30, w ∈ wAll yX6_state cX6_state 3 (some .int) := fun w h => List.mem_cons_of_mem _ (inlX6 w h)
  suffices hgo : ∀ (H : Heap) (locs : List Loc), va_P (dC, dI) vwCl (wMd cI cJ A x) H → va_S Q s.heap H locs → W p l e ({ frames := 1, cells := 0, slots := 0, locals := 40 } : Room) s m args below meth c H locs 0 0 (MQ below (QWi (dC, dI) Q (wMd cI cJ A r0.2) r0.1) args s 0 0 Q) (F0 m 0 ls []) from hgo _ _ hP hS
  clear hP hS
  intro H locs hP hS
  unfold Md_m_state at hf
  refine lv_aload_n hx hb dX6_state_0 rfl (lv_at hl 0 rfl) ?_
  refine lv_iconst (v := 0) hx hb dX6_state_1 (by decide) ?_
  refine kg_put (ci := 6) (v := .int 0) (ty := .int) (C := RX6) (T := TX6) (N := 30) (wz := (wMd cI cJ A (Md_set_told x 0))) hx hb hts hiX6 tyX6 tyX6_ok nmX6 hown hK hP hD hS 0 rfl rfl 0 (by decide) ww0 (fun _ h9 => h9) rfl (tyX6_ok 0 (by decide)) rfl rfl (Nat.le_of_ble_eq_true rfl) dX6_state_2 (sc_Md_told _ _ _ _ _) (fun H locs hP hD hS => ?_)
  refine lv_aload_n hx hb dX6_state_5 rfl (lv_at hl 0 rfl) ?_
  refine va_get (D := (dC, dI)) (ci := 6) (v := .int (Md_state (Md_set_told x 0))) (C := RX6) (T := TX6) (N := 30) hx hb hts hiX6 hown hK hP 0 rfl rfl 3 (by decide) ww1 (fun _ h9 => h9) rfl dX6_state_6 ?_
  refine lv_istore_n (lv' := [(2, .int (Md_state (Md_set_told x 0))), (0, .ref (A 0)), (1, .int v1)]) hx hb dX6_state_9 rfl hl (by decide) rfl (fun ls hl => ?_)
  refine lv_aload_n hx hb dX6_state_10 rfl (lv_at hl 1 rfl) ?_
  refine lv_iload_n hx hb dX6_state_11 rfl (lv_at hl 2 rfl) ?_
  refine kg_put (ci := 6) (v := .int v1) (ty := .int) (C := RX6) (T := TX6) (N := 30) (wz := (wMd cI cJ A (Md_set_state (Md_set_told x 0) v1))) hx hb hts hiX6 tyX6 tyX6_ok nmX6 hown hK hP hD hS 0 rfl rfl 3 (by decide) ww1 (fun _ h9 => h9) rfl (tyX6_ok 3 (by decide)) rfl rfl (Nat.le_of_ble_eq_true rfl) dX6_state_12 (sc_Md_state _ _ _ _ _) (fun H locs hP hD hS => ?_)
  refine lv_iload_n hx hb dX6_state_15 rfl (lv_at hl 0 rfl) ?_
  obtain rfl := Option.some.inj hf
  exact kg_iretW hx hb hr hlk rfl hP hD hS dX6_state_16
set_option maxHeartbeats 4000000 in
set_option maxRecDepth 100000 in
theorem c_X6_joinsParts (l : Launch) (dC : Nat → ClassId) (dI : Nat → Nat → Nat) (cI cJ : ClassId) (A : Nat → Nat) (hq : Nat) (x : MdS) (v1 : Int32) (v2 : Int32) (r0 : MdS) (hf : Md_m_joinsParts x v1 v2 = some r0) : MWv l yX6_joinsParts (wAll yX6_joinsParts cX6_joinsParts 6 none) ({ frames := 1, cells := 0, slots := 0, locals := 40 } : Room) [.ref (A 0), .int v1, .int v2] hq (dC, dI) (vTy cI cJ) (wMd cI cJ A x) (wMd cI cJ A r0) := by
  refine kg_metW (Qc := fun Q => QWv (dC, dI) Q (wMd cI cJ A r0)) (cc := cX6_joinsParts) (maxL := 6) (ret := none) (by decide) rfl (Nat.le_of_ble_eq_true rfl) ?_
  intro p e s m args below meth c Q hx hb hr hts hown hlk hml hP hK hN hD hA hS ls hl
  have hl : lv_has ls 6 [(0, .ref (A 0)), (1, .int v1), (2, .int v2)] := hl
  have ww0 := hts (.fieldLink RX6 44 "SafeBlocksModel" "partOf" "[I") (List.mem_cons_of_mem _ wd_8_10)
  have ww1 := hts (.methodLink RX6 93 Lib.Math.max.name) (List.mem_cons_of_mem _ wd_14_6)
  have ww2 := hts (.static Lib.Math.max.name) (List.mem_cons_of_mem _ wd_14_7)
  have ww3 := hts (.initialized "java/lang/Math") (List.mem_cons_of_mem _ wd_14_8)
  have ww4 := hts (.code Lib.Math.max.name Lib.Math.max.code 2 (some .int)) (List.mem_cons_of_mem _ wd_14_9)
  have ww5 := hts (.methodLink RX6 179 Lib.Math.min.name) (List.mem_cons_of_mem _ wd_19_23)
  have ww6 := hts (.static Lib.Math.min.name) (List.mem_cons_of_mem _ wd_20_0)
  have ww7 := hts (.code Lib.Math.min.name Lib.Math.min.code 2 (some .int)) (List.mem_cons_of_mem _ wd_20_1)
  have hiX6 : ∀ w ∈ u_ws RX6 TX6 30, w ∈ wAll yX6_joinsParts cX6_joinsParts 6 none := fun w h => List.mem_cons_of_mem _ (inlX6 w h)
  suffices hgo : ∀ (H : Heap) (locs : List Loc), va_P (dC, dI) vwCl (wMd cI cJ A x) H → va_S Q s.heap H locs → W p l e ({ frames := 1, cells := 0, slots := 0, locals := 40 } : Room) s m args below meth c H locs 0 0 (MQ below (QWv (dC, dI) Q (wMd cI cJ A r0)) args s 0 0 Q) (F0 m 0 ls []) from hgo _ _ hP hS
  clear hP hS
  intro H locs hP hS
  unfold Md_m_joinsParts at hf
  refine lv_aload_n hx hb dX6_joinsParts_0 rfl (lv_at hl 0 rfl) ?_
  refine va_get (D := (dC, dI)) (ci := 6) (v := .ref (A 10)) (C := RX6) (T := TX6) (N := 30) hx hb hts hiX6 hown hK hP 0 rfl rfl 18 (by decide) ww0 (fun _ h9 => h9) rfl dX6_joinsParts_1 ?_
  refine lv_iload_n hx hb dX6_joinsParts_4 rfl (lv_at hl 1 rfl) ?_
  obtain ⟨g5, hv, hf⟩ := ob_bind hf
  refine kg_iald hx hb hK hP 10 0 rfl rfl hv dX6_joinsParts_5 ?_
  refine lv_aload_n hx hb dX6_joinsParts_6 rfl (lv_at hl 0 rfl) ?_
  refine va_get (D := (dC, dI)) (ci := 6) (v := .ref (A 10)) (C := RX6) (T := TX6) (N := 30) hx hb hts hiX6 hown hK hP 0 rfl rfl 18 (by decide) ww0 (fun _ h9 => h9) rfl dX6_joinsParts_7 ?_
  refine lv_iload_n hx hb dX6_joinsParts_10 rfl (lv_at hl 2 rfl) ?_
  obtain ⟨g11, hv, hf⟩ := ob_bind hf
  refine kg_iald hx hb hK hP 10 0 rfl rfl hv dX6_joinsParts_11 ?_
  refine va_mmax hx hb (by rw [hml]; exact hl.1.symm) hown ww1 ww2 ww3 ww4 (Nat.le_of_ble_eq_true rfl) (Nat.le_of_ble_eq_true rfl) (Nat.zero_le _) (Nat.zero_le _) dX6_joinsParts_12 ?_
  refine lv_istore_n (lv' := [(3, .int (if g5 < g11 then g11 else g5)), (0, .ref (A 0)), (1, .int v1), (2, .int v2)]) hx hb dX6_joinsParts_15 rfl hl (by decide) rfl (fun ls hl => ?_)
  refine lv_aload_n hx hb dX6_joinsParts_16 rfl (lv_at hl 1 rfl) ?_
  refine va_get (D := (dC, dI)) (ci := 6) (v := .ref (A 10)) (C := RX6) (T := TX6) (N := 30) hx hb hts hiX6 hown hK hP 0 rfl rfl 18 (by decide) ww0 (fun _ h9 => h9) rfl dX6_joinsParts_17 ?_
  refine lv_iload_n hx hb dX6_joinsParts_20 rfl (lv_at hl 2 rfl) ?_
  obtain ⟨g21, hv, hf⟩ := ob_bind hf
  refine kg_iald hx hb hK hP 10 0 rfl rfl hv dX6_joinsParts_21 ?_
  refine lv_aload_n hx hb dX6_joinsParts_22 rfl (lv_at hl 1 rfl) ?_
  refine va_get (D := (dC, dI)) (ci := 6) (v := .ref (A 10)) (C := RX6) (T := TX6) (N := 30) hx hb hts hiX6 hown hK hP 0 rfl rfl 18 (by decide) ww0 (fun _ h9 => h9) rfl dX6_joinsParts_23 ?_
  refine lv_iload_n hx hb dX6_joinsParts_26 rfl (lv_at hl 3 rfl) ?_
  obtain ⟨g27, hv, hf⟩ := ob_bind hf
  refine kg_iald hx hb hK hP 10 0 rfl rfl hv dX6_joinsParts_27 ?_
  refine va_mmin hx hb (by rw [hml]; exact hl.1.symm) hown ww5 ww6 ww3 ww7 (Nat.le_of_ble_eq_true rfl) (Nat.le_of_ble_eq_true rfl) (Nat.zero_le _) (Nat.zero_le _) dX6_joinsParts_28 ?_
  refine lv_istore (lv' := [(4, .int (if g27 < g21 then g27 else g21)), (3, .int (if g5 < g11 then g11 else g5)), (0, .ref (A 0)), (1, .int v1), (2, .int v2)]) hx hb dX6_joinsParts_31 hl (by decide) rfl (fun ls hl => ?_)
  refine lv_iconst (v := 0) hx hb dX6_joinsParts_33 (by decide) ?_
  refine lv_istore (lv' := [(5, .int 0), (4, .int (if g27 < g21 then g27 else g21)), (3, .int (if g5 < g11 then g11 else g5)), (0, .ref (A 0)), (1, .int v1), (2, .int v2)]) hx hb dX6_joinsParts_34 hl (by decide) rfl (fun ls hl => ?_)
  have hlp36 : ∀ (v3 : Int32) (v4 : Int32), ∀ (n : Nat) (x : MdS) (v5 : Int32), iter (fun p : MdS × Int32 => Md_m_joinsParts_s36 v3 v4 p.1 p.2) n (x, v5) = some r0 → ∀ (H : Heap) (locs : List Loc) (ls : Array Slot), va_P (dC, dI) vwCl (wMd cI cJ A x) H → va_D Q (wMd cI cJ A x) → va_S Q s.heap H locs → lv_has ls 6 [(0, .ref (A 0)), (3, .int v3), (4, .int v4), (5, .int v5)] → W p l e ({ frames := 1, cells := 0, slots := 0, locals := 40 } : Room) s m args below meth c H locs 0 0 (MQ below (QWv (dC, dI) Q (wMd cI cJ A r0)) args s 0 0 Q) (F0 m 36 ls []) := by
    intro v3 v4 n
    induction n with
    | zero => intro x v5 hf; exact iter_zero hf
    | succ n ih1 =>
      intro x v5 hf H locs ls hP hD hS hl
      obtain ⟨q1, hf, hk1⟩ := iter_succ hf
      have hf : Md_m_joinsParts_s36 v3 v4 x v5 = some q1 := hf
      unfold Md_m_joinsParts_s36 at hf
      refine lv_iload hx hb dX6_joinsParts_36 (lv_at hl 3 rfl) ?_
      refine lv_bipush (v := 64) hx hb dX6_joinsParts_38 (by decide) ?_
      refine kg_icmp_ge (tgt := 69) hx hb hf dX6_joinsParts_40 (by decide) (fun hc hf => ?_) (fun hc hf => ?_)
      · obtain ⟨qq, hf, hqq⟩ := omap_some hf
        have hkq : qq = r0 := by rw [← hqq] at hk1; exact hk1
        rw [hkq] at hf
        clear hkq hqq
        obtain rfl := Option.some.inj hf
        exact kg_vretW hx hb hr hlk hP hD hS dX6_joinsParts_69
      · refine lv_aload_n hx hb dX6_joinsParts_43 rfl (lv_at hl 0 rfl) ?_
        refine va_get (D := (dC, dI)) (ci := 6) (v := .ref (A 10)) (C := RX6) (T := TX6) (N := 30) hx hb hts hiX6 hown hK hP 0 rfl rfl 18 (by decide) ww0 (fun _ h9 => h9) rfl dX6_joinsParts_44 ?_
        refine lv_iload hx hb dX6_joinsParts_47 (lv_at hl 3 rfl) ?_
        obtain ⟨g49, hv, hf⟩ := ob_bind hf
        refine kg_iald hx hb hK hP 10 0 rfl rfl hv dX6_joinsParts_49 ?_
        refine lv_iload_n hx hb dX6_joinsParts_50 rfl (lv_at hl 1 rfl) ?_
        refine kg_icmp_ne (tgt := 63) hx hb hf dX6_joinsParts_51 (by decide) (fun hc hf => ?_) (fun hc hf => ?_)
        · refine lv_iinc (v := (v5 + 1)) (lv' := [(5, .int (v5 + 1)), (0, .ref (A 0)), (3, .int v3), (4, .int v4)]) hx hb dX6_joinsParts_63 hl (k := 3) rfl rfl (by decide) rfl (fun ls hl => ?_)
          refine lv_goto (tgt := 36) hx hb dX6_joinsParts_66 (by decide) ?_
          obtain rfl := Option.some.inj hf
          exact ih1 x (v5 + 1) hk1 _ _ _ hP hD hS (lv_sub hl [1, 2, 3, 0] rfl)
        · refine lv_aload_n hx hb dX6_joinsParts_54 rfl (lv_at hl 0 rfl) ?_
          refine va_get (D := (dC, dI)) (ci := 6) (v := .ref (A 10)) (C := RX6) (T := TX6) (N := 30) hx hb hts hiX6 hown hK hP 0 rfl rfl 18 (by decide) ww0 (fun _ h9 => h9) rfl dX6_joinsParts_55 ?_
          refine lv_iload hx hb dX6_joinsParts_58 (lv_at hl 3 rfl) ?_
          refine lv_iload hx hb dX6_joinsParts_60 (lv_at hl 2 rfl) ?_
          obtain ⟨f62, hv, hf⟩ := ob_bind hf
          refine kg_iast (wz := (wMd cI cJ A (Md_set_partOf x f62))) hx hb hK hP hD hS 10 0 rfl rfl hv dX6_joinsParts_62 (sc_Md_partOf _ _ _ _ _) (fun H locs hP hD hS => ?_)
          refine lv_iinc (v := (v5 + 1)) (lv' := [(5, .int (v5 + 1)), (0, .ref (A 0)), (3, .int v3), (4, .int v4)]) hx hb dX6_joinsParts_63 hl (k := 3) rfl rfl (by decide) rfl (fun ls hl => ?_)
          refine lv_goto (tgt := 36) hx hb dX6_joinsParts_66 (by decide) ?_
          obtain rfl := Option.some.inj hf
          exact ih1 (Md_set_partOf x f62) (v5 + 1) hk1 _ _ _ hP hD hS (lv_sub hl [1, 2, 3, 0] rfl)
  exact hlp36 (if g5 < g11 then g11 else g5) (if g27 < g21 then g27 else g21) FU x 0 hf _ _ _ hP hD hS (lv_sub hl [3, 2, 1, 0] rfl)
set_option maxHeartbeats 4000000 in
set_option maxRecDepth 100000 in
theorem c_X6_laysParts (l : Launch) (dC : Nat → ClassId) (dI : Nat → Nat → Nat) (cI cJ : ClassId) (A : Nat → Nat) (hq : Nat) (x : MdS) (v1 : Int32) (v2 : Int32) (v3 : Int32) (r0 : MdS) (hf : Md_m_laysParts x v1 v2 v3 = some r0) : MWv l yX6_laysParts (wAll yX6_laysParts cX6_laysParts 8 none) ({ frames := 3, cells := 0, slots := 0, locals := 92 } : Room) [.ref (A 0), .int v1, .int v2, .int v3] hq (dC, dI) (vTy cI cJ) (wMd cI cJ A x) (wMd cI cJ A r0) := by
  refine kg_metW (Qc := fun Q => QWv (dC, dI) Q (wMd cI cJ A r0)) (cc := cX6_laysParts) (maxL := 8) (ret := none) (by decide) rfl (Nat.le_of_ble_eq_true rfl) ?_
  intro p e s m args below meth c Q hx hb hr hts hown hlk hml hP hK hN hD hA hS ls hl
  have hl : lv_has ls 8 [(0, .ref (A 0)), (1, .int v1), (2, .int v2), (3, .int v3)] := hl
  have ww0 := hts (.fieldLink RX6 7 "SafeBlocksModel" "n" "I") (List.mem_cons_of_mem _ wd_7_23)
  have ww1 := hts (.fieldLink RX6 192 "SafeBlocksModel" "parts" "I") (List.mem_cons_of_mem _ wd_19_6)
  have ww2 := hts (.fieldLink RX6 44 "SafeBlocksModel" "partOf" "[I") (List.mem_cons_of_mem _ wd_8_10)
  have ww3 := hts (.fieldLink RX6 13 "SafeBlocksModel" "first" "[I") (List.mem_cons_of_mem _ wd_8_0)
  have ww4 := hts (.fieldLink RX6 17 "SafeBlocksModel" "second" "[I") (List.mem_cons_of_mem _ wd_8_1)
  have hiX6 : ∀ w ∈ u_ws RX6 TX6 30, w ∈ wAll yX6_laysParts cX6_laysParts 8 none := fun w h => List.mem_cons_of_mem _ (inlX6 w h)
  suffices hgo : ∀ (H : Heap) (locs : List Loc), va_P (dC, dI) vwCl (wMd cI cJ A x) H → va_S Q s.heap H locs → W p l e ({ frames := 3, cells := 0, slots := 0, locals := 92 } : Room) s m args below meth c H locs 0 0 (MQ below (QWv (dC, dI) Q (wMd cI cJ A r0)) args s 0 0 Q) (F0 m 0 ls []) from hgo _ _ hP hS
  clear hP hS
  intro H locs hP hS
  unfold Md_m_laysParts at hf
  refine lv_iconst (v := 0) hx hb dX6_laysParts_0 (by decide) ?_
  refine lv_istore (lv' := [(4, .int 0), (0, .ref (A 0)), (1, .int v1), (2, .int v2), (3, .int v3)]) hx hb dX6_laysParts_1 hl (by decide) rfl (fun ls hl => ?_)
  have hlp3 : ∀ (n : Nat) (x : MdS) (v4 : Int32), iter (fun p : MdS × Int32 => Md_m_laysParts_s3 v1 v2 v3 p.1 p.2) n (x, v4) = some r0 → ∀ (H : Heap) (locs : List Loc) (ls : Array Slot), va_P (dC, dI) vwCl (wMd cI cJ A x) H → va_D Q (wMd cI cJ A x) → va_S Q s.heap H locs → lv_has ls 8 [(0, .ref (A 0)), (1, .int v1), (2, .int v2), (3, .int v3), (4, .int v4)] → W p l e ({ frames := 3, cells := 0, slots := 0, locals := 92 } : Room) s m args below meth c H locs 0 0 (MQ below (QWv (dC, dI) Q (wMd cI cJ A r0)) args s 0 0 Q) (F0 m 3 ls []) := by
    intro  n
    induction n with
    | zero => intro x v4 hf; exact iter_zero hf
    | succ n ih1 =>
      intro x v4 hf H locs ls hP hD hS hl
      obtain ⟨q1, hf, hk1⟩ := iter_succ hf
      have hf : Md_m_laysParts_s3 v1 v2 v3 x v4 = some q1 := hf
      unfold Md_m_laysParts_s3 at hf
      refine lv_iload hx hb dX6_laysParts_3 (lv_at hl 4 rfl) ?_
      refine lv_bipush (v := 64) hx hb dX6_laysParts_5 (by decide) ?_
      refine kg_icmp_ge (tgt := 25) hx hb hf dX6_laysParts_7 (by decide) (fun hc hf => ?_) (fun hc hf => ?_)
      · obtain ⟨qq, hf, hqq⟩ := omap_some hf
        have hkq : qq = r0 := by rw [← hqq] at hk1; exact hk1
        rw [hkq] at hf
        clear hkq hqq
        refine lv_iconst (v := 0) hx hb dX6_laysParts_25 (by decide) ?_
        refine lv_istore (lv' := [(4, .int 0), (0, .ref (A 0)), (1, .int v1), (2, .int v2), (3, .int v3)]) hx hb dX6_laysParts_26 hl (by decide) rfl (fun ls hl => ?_)
        have hlp28 : ∀ (n : Nat) (x : MdS) (v4 : Int32), iter (fun p : MdS × Int32 => Md_m_laysParts_s28 v1 v2 v3 p.1 p.2) n (x, v4) = some r0 → ∀ (H : Heap) (locs : List Loc) (ls : Array Slot), va_P (dC, dI) vwCl (wMd cI cJ A x) H → va_D Q (wMd cI cJ A x) → va_S Q s.heap H locs → lv_has ls 8 [(0, .ref (A 0)), (1, .int v1), (2, .int v2), (3, .int v3), (4, .int v4)] → W p l e ({ frames := 3, cells := 0, slots := 0, locals := 92 } : Room) s m args below meth c H locs 0 0 (MQ below (QWv (dC, dI) Q (wMd cI cJ A r0)) args s 0 0 Q) (F0 m 28 ls []) := by
          intro  n
          induction n with
          | zero => intro x v4 hf; exact iter_zero hf
          | succ n ih1 =>
            intro x v4 hf H locs ls hP hD hS hl
            obtain ⟨q1, hf, hk1⟩ := iter_succ hf
            have hf : Md_m_laysParts_s28 v1 v2 v3 x v4 = some q1 := hf
            unfold Md_m_laysParts_s28 at hf
            refine lv_iload hx hb dX6_laysParts_28 (lv_at hl 4 rfl) ?_
            refine lv_aload_n hx hb dX6_laysParts_30 rfl (lv_at hl 0 rfl) ?_
            refine va_get (D := (dC, dI)) (ci := 6) (v := .int (Md_n x)) (C := RX6) (T := TX6) (N := 30) hx hb hts hiX6 hown hK hP 0 rfl rfl 1 (by decide) ww0 (fun _ h9 => h9) rfl dX6_laysParts_31 ?_
            refine kg_icmp_ge (tgt := 200) hx hb hf dX6_laysParts_34 (by decide) (fun hc hf => ?_) (fun hc hf => ?_)
            · obtain ⟨qq, hf, hqq⟩ := omap_some hf
              have hkq : qq = r0 := by rw [← hqq] at hk1; exact hk1
              rw [hkq] at hf
              clear hkq hqq
              refine lv_aload_n hx hb dX6_laysParts_200 rfl (lv_at hl 0 rfl) ?_
              refine lv_iconst (v := 0) hx hb dX6_laysParts_201 (by decide) ?_
              refine kg_put (ci := 6) (v := .int 0) (ty := .int) (C := RX6) (T := TX6) (N := 30) (wz := (wMd cI cJ A (Md_set_parts x 0))) hx hb hts hiX6 tyX6 tyX6_ok nmX6 hown hK hP hD hS 0 rfl rfl 19 (by decide) ww1 (fun _ h9 => h9) rfl (tyX6_ok 19 (by decide)) rfl rfl (Nat.le_of_ble_eq_true rfl) dX6_laysParts_202 (sc_Md_parts _ _ _ _ _) (fun H locs hP hD hS => ?_)
              refine lv_iconst (v := 0) hx hb dX6_laysParts_205 (by decide) ?_
              refine lv_istore (lv' := [(4, .int 0), (0, .ref (A 0)), (1, .int v1), (2, .int v2), (3, .int v3)]) hx hb dX6_laysParts_206 hl (by decide) rfl (fun ls hl => ?_)
              have hlp208 : ∀ (n : Nat) (x : MdS) (v4 : Int32), iter (fun p : MdS × Int32 => Md_m_laysParts_s208 v1 v2 v3 p.1 p.2) n (x, v4) = some r0 → ∀ (H : Heap) (locs : List Loc) (ls : Array Slot), va_P (dC, dI) vwCl (wMd cI cJ A x) H → va_D Q (wMd cI cJ A x) → va_S Q s.heap H locs → lv_has ls 8 [(0, .ref (A 0)), (1, .int v1), (2, .int v2), (3, .int v3), (4, .int v4)] → W p l e ({ frames := 3, cells := 0, slots := 0, locals := 92 } : Room) s m args below meth c H locs 0 0 (MQ below (QWv (dC, dI) Q (wMd cI cJ A r0)) args s 0 0 Q) (F0 m 208 ls []) := by
                intro  n
                induction n with
                | zero => intro x v4 hf; exact iter_zero hf
                | succ n ih1 =>
                  intro x v4 hf H locs ls hP hD hS hl
                  obtain ⟨q1, hf, hk1⟩ := iter_succ hf
                  have hf : Md_m_laysParts_s208 v1 v2 v3 x v4 = some q1 := hf
                  unfold Md_m_laysParts_s208 at hf
                  refine lv_iload hx hb dX6_laysParts_208 (lv_at hl 4 rfl) ?_
                  refine lv_iload_n hx hb dX6_laysParts_210 rfl (lv_at hl 1 rfl) ?_
                  refine kg_icmp_ge (tgt := 264) hx hb hf dX6_laysParts_211 (by decide) (fun hc hf => ?_) (fun hc hf => ?_)
                  · obtain ⟨qq, hf, hqq⟩ := omap_some hf
                    have hkq : qq = r0 := by rw [← hqq] at hk1; exact hk1
                    rw [hkq] at hf
                    clear hkq hqq
                    obtain rfl := Option.some.inj hf
                    exact kg_vretW hx hb hr hlk hP hD hS dX6_laysParts_264
                  · refine lv_aload_n hx hb dX6_laysParts_214 rfl (lv_at hl 0 rfl) ?_
                    refine lv_iload hx hb dX6_laysParts_215 (lv_at hl 4 rfl) ?_
                    refine lv_iload_n hx hb dX6_laysParts_217 rfl (lv_at hl 2 rfl) ?_
                    refine lv_iload_n hx hb dX6_laysParts_218 rfl (lv_at hl 3 rfl) ?_
                    obtain ⟨g219, hc, hf⟩ := ob_bind hf
                    have hPc : va_P (dC, dI) vwCl (wMd cI cJ A x) H := hP
                    refine kg_retRi (va_runV (As := [.int v4, .int v2, .int v3]) (rest := []) ⟨hx, hb, hml, hown, hts⟩ (c_X6_isOut l dC dI cI cJ A H x v4 v2 v3 _ hc) (cwV 3 hts (gw_V wd_19_10 wd_19_7 wd_19_8 wd_19_9 wd_1_5) rfl rfl rfl qX6_isOut ⟨Nat.le_of_ble_eq_true rfl, Nat.le_of_ble_eq_true rfl⟩) (kg_preVR (ci := 6) (q := (RX6, TX6, 30)) (q0 := 0) hPc hK hN rfl rfl) rfl rfl hl.1 rfl (lv_room (Nat.le_of_ble_eq_true rfl)) dX6_laysParts_219 ⟨Nat.zero_le _, Nat.zero_le _⟩) ?_
                    refine kg_b_eq (tgt := 236) hx hb hf dX6_laysParts_222 (by decide) (fun hc hf => ?_) (fun hc hf => ?_)
                    · refine lv_aload_n hx hb dX6_laysParts_236 rfl (lv_at hl 0 rfl) ?_
                      refine va_get (D := (dC, dI)) (ci := 6) (v := .ref (A 10)) (C := RX6) (T := TX6) (N := 30) hx hb hts hiX6 hown hK hP 0 rfl rfl 18 (by decide) ww2 (fun _ h9 => h9) rfl dX6_laysParts_237 ?_
                      refine lv_iload hx hb dX6_laysParts_240 (lv_at hl 4 rfl) ?_
                      obtain ⟨g242, hv, hf⟩ := ob_bind hf
                      refine kg_iald hx hb hK hP 10 0 rfl rfl hv dX6_laysParts_242 ?_
                      refine lv_iload hx hb dX6_laysParts_243 (lv_at hl 4 rfl) ?_
                      refine kg_icmp_ne (tgt := 258) hx hb hf dX6_laysParts_245 (by decide) (fun hc hf => ?_) (fun hc hf => ?_)
                      · refine lv_iinc (v := (v4 + 1)) (lv' := [(4, .int (v4 + 1)), (0, .ref (A 0)), (1, .int v1), (2, .int v2), (3, .int v3)]) hx hb dX6_laysParts_258 hl (k := 4) rfl rfl (by decide) rfl (fun ls hl => ?_)
                        refine lv_goto (tgt := 208) hx hb dX6_laysParts_261 (by decide) ?_
                        obtain rfl := Option.some.inj hf
                        exact ih1 x (v4 + 1) hk1 _ _ _ hP hD hS (lv_sub hl [1, 2, 3, 4, 0] rfl)
                      · refine lv_aload_n hx hb dX6_laysParts_248 rfl (lv_at hl 0 rfl) ?_
                        refine lv_aload_n hx hb dX6_laysParts_249 rfl (lv_at hl 0 rfl) ?_
                        refine va_get (D := (dC, dI)) (ci := 6) (v := .int (Md_parts x)) (C := RX6) (T := TX6) (N := 30) hx hb hts hiX6 hown hK hP 0 rfl rfl 19 (by decide) ww1 (fun _ h9 => h9) rfl dX6_laysParts_250 ?_
                        refine lv_iconst (v := 1) hx hb dX6_laysParts_253 (by decide) ?_
                        refine lv_iadd hx hb dX6_laysParts_254 ?_
                        refine kg_put (ci := 6) (v := .int ((Md_parts x) + 1)) (ty := .int) (C := RX6) (T := TX6) (N := 30) (wz := (wMd cI cJ A (Md_set_parts x ((Md_parts x) + 1)))) hx hb hts hiX6 tyX6 tyX6_ok nmX6 hown hK hP hD hS 0 rfl rfl 19 (by decide) ww1 (fun _ h9 => h9) rfl (tyX6_ok 19 (by decide)) rfl rfl (Nat.le_of_ble_eq_true rfl) dX6_laysParts_255 (sc_Md_parts _ _ _ _ _) (fun H locs hP hD hS => ?_)
                        refine lv_iinc (v := (v4 + 1)) (lv' := [(4, .int (v4 + 1)), (0, .ref (A 0)), (1, .int v1), (2, .int v2), (3, .int v3)]) hx hb dX6_laysParts_258 hl (k := 4) rfl rfl (by decide) rfl (fun ls hl => ?_)
                        refine lv_goto (tgt := 208) hx hb dX6_laysParts_261 (by decide) ?_
                        obtain rfl := Option.some.inj hf
                        exact ih1 (Md_set_parts x ((Md_parts x) + 1)) (v4 + 1) hk1 _ _ _ hP hD hS (lv_sub hl [1, 2, 3, 4, 0] rfl)
                    · refine lv_aload_n hx hb dX6_laysParts_225 rfl (lv_at hl 0 rfl) ?_
                      refine va_get (D := (dC, dI)) (ci := 6) (v := .ref (A 10)) (C := RX6) (T := TX6) (N := 30) hx hb hts hiX6 hown hK hP 0 rfl rfl 18 (by decide) ww2 (fun _ h9 => h9) rfl dX6_laysParts_226 ?_
                      refine lv_iload hx hb dX6_laysParts_229 (lv_at hl 4 rfl) ?_
                      refine lv_iconst (v := (-1)) hx hb dX6_laysParts_231 (by decide) ?_
                      obtain ⟨f232, hv, hf⟩ := ob_bind hf
                      refine kg_iast (wz := (wMd cI cJ A (Md_set_partOf x f232))) hx hb hK hP hD hS 10 0 rfl rfl hv dX6_laysParts_232 (sc_Md_partOf _ _ _ _ _) (fun H locs hP hD hS => ?_)
                      refine lv_goto (tgt := 258) hx hb dX6_laysParts_233 (by decide) ?_
                      refine lv_iinc (v := (v4 + 1)) (lv' := [(4, .int (v4 + 1)), (0, .ref (A 0)), (1, .int v1), (2, .int v2), (3, .int v3)]) hx hb dX6_laysParts_258 hl (k := 4) rfl rfl (by decide) rfl (fun ls hl => ?_)
                      refine lv_goto (tgt := 208) hx hb dX6_laysParts_261 (by decide) ?_
                      obtain rfl := Option.some.inj hf
                      exact ih1 (Md_set_partOf x f232) (v4 + 1) hk1 _ _ _ hP hD hS (lv_sub hl [1, 2, 3, 4, 0] rfl)
              exact hlp208  FU (Md_set_parts x 0) 0 hf _ _ _ hP hD hS (lv_sub hl [1, 2, 3, 4, 0] rfl)
            · refine lv_iload hx hb dX6_laysParts_37 (lv_at hl 4 rfl) ?_
              refine lv_iload_n hx hb dX6_laysParts_39 rfl (lv_at hl 3 rfl) ?_
              refine kg_icmp_ne (tgt := 46) hx hb hf dX6_laysParts_40 (by decide) (fun hc hf => ?_) (fun hc hf => ?_)
              · refine lv_iconst (v := 0) hx hb dX6_laysParts_46 (by decide) ?_
                refine lv_istore (lv' := [(5, .int 0), (0, .ref (A 0)), (1, .int v1), (2, .int v2), (3, .int v3), (4, .int v4)]) hx hb dX6_laysParts_47 hl (by decide) rfl (fun ls hl => ?_)
                have hlp49 : ∀ (v4 : Int32), ∀ (n : Nat) (x : MdS) (v5 : Int32), iter (fun p : MdS × Int32 => Md_m_laysParts_s49 v1 v2 v3 v4 p.1 p.2) n (x, v5) = some q1 → ∀ (H : Heap) (locs : List Loc) (ls : Array Slot), va_P (dC, dI) vwCl (wMd cI cJ A x) H → va_D Q (wMd cI cJ A x) → va_S Q s.heap H locs → lv_has ls 8 [(0, .ref (A 0)), (1, .int v1), (2, .int v2), (3, .int v3), (4, .int v4), (5, .int v5)] → W p l e ({ frames := 3, cells := 0, slots := 0, locals := 92 } : Room) s m args below meth c H locs 0 0 (MQ below (QWv (dC, dI) Q (wMd cI cJ A r0)) args s 0 0 Q) (F0 m 49 ls []) := by
                  intro v4 n
                  induction n with
                  | zero => intro x v5 hf; exact iter_zero hf
                  | succ n ih2 =>
                    intro x v5 hf H locs ls hP hD hS hl
                    obtain ⟨q2, hf, hk2⟩ := iter_succ hf
                    have hf : Md_m_laysParts_s49 v1 v2 v3 v4 x v5 = some q2 := hf
                    unfold Md_m_laysParts_s49 at hf
                    have hj93 : ∀ (x : MdS) (v5 : Int32), Md_m_laysParts_j93 x v1 v2 v3 v4 v5 = some q2 → ∀ (H : Heap) (locs : List Loc) (ls : Array Slot), va_P (dC, dI) vwCl (wMd cI cJ A x) H → va_D Q (wMd cI cJ A x) → va_S Q s.heap H locs → lv_has ls 8 [(0, .ref (A 0)), (1, .int v1), (2, .int v2), (3, .int v3), (4, .int v4), (5, .int v5)] → W p l e ({ frames := 3, cells := 0, slots := 0, locals := 92 } : Room) s m args below meth c H locs 0 0 (MQ below (QWv (dC, dI) Q (wMd cI cJ A r0)) args s 0 0 Q) (F0 m 93 ls []) := by
                      intro x v5 hf H locs ls hP hD hS hl
                      unfold Md_m_laysParts_j93 at hf
                      refine lv_aload_n hx hb dX6_laysParts_93 rfl (lv_at hl 0 rfl) ?_
                      refine lv_aload_n hx hb dX6_laysParts_94 rfl (lv_at hl 0 rfl) ?_
                      refine lv_iload hx hb dX6_laysParts_95 (lv_at hl 5 rfl) ?_
                      refine lv_iload hx hb dX6_laysParts_97 (lv_at hl 4 rfl) ?_
                      obtain ⟨g99, hc, hf⟩ := ob_bind hf
                      have hPc : va_P (dC, dI) vwCl (wMd cI cJ A x) H := hP
                      refine kg_retRi (va_runV (As := [.int v5, .int v4]) (rest := [.ref (A 0)]) ⟨hx, hb, hml, hown, hts⟩ (c_X6_otherEnd l dC dI cI cJ A H x v5 v4 _ hc) (cwV 2 hts (gw_V wd_19_14 wd_19_11 wd_19_12 wd_19_13 wd_1_5) rfl rfl rfl qX6_otherEnd ⟨Nat.le_of_ble_eq_true rfl, Nat.le_of_ble_eq_true rfl⟩) (kg_preVR (ci := 6) (q := (RX6, TX6, 30)) (q0 := 0) hPc hK hN rfl rfl) rfl rfl hl.1 rfl (lv_room (Nat.le_of_ble_eq_true rfl)) dX6_laysParts_99 ⟨Nat.zero_le _, Nat.zero_le _⟩) ?_
                      refine lv_iload_n hx hb dX6_laysParts_102 rfl (lv_at hl 1 rfl) ?_
                      refine lv_iload_n hx hb dX6_laysParts_103 rfl (lv_at hl 2 rfl) ?_
                      refine lv_iload_n hx hb dX6_laysParts_104 rfl (lv_at hl 3 rfl) ?_
                      refine lv_iload hx hb dX6_laysParts_105 (lv_at hl 4 rfl) ?_
                      obtain ⟨g107, hc, hf⟩ := ob_bind hf
                      have hPc : va_P (dC, dI) vwCl (wMd cI cJ A x) H := hP
                      refine kg_retRi (va_runV (As := [.int g99, .int v1, .int v2, .int v3, .int v4]) (rest := []) ⟨hx, hb, hml, hown, hts⟩ (c_X6_reachedWithout l dC dI cI cJ A H x g99 v1 v2 v3 v4 _ hc) (cwV 5 hts (gw_V wd_19_18 wd_19_15 wd_19_16 wd_19_17 wd_1_5) rfl rfl rfl qX6_reachedWithout ⟨Nat.le_of_ble_eq_true rfl, Nat.le_of_ble_eq_true rfl⟩) (kg_preVR (ci := 6) (q := (RX6, TX6, 30)) (q0 := 0) hPc hK hN rfl rfl) rfl rfl hl.1 rfl (lv_room (Nat.le_of_ble_eq_true rfl)) dX6_laysParts_107 ⟨Nat.zero_le _, Nat.zero_le _⟩) ?_
                      refine lv_istore (lv' := [(6, .int g107), (0, .ref (A 0)), (1, .int v1), (2, .int v2), (3, .int v3), (4, .int v4), (5, .int v5)]) hx hb dX6_laysParts_110 hl (by decide) rfl (fun ls hl => ?_)
                      refine lv_iconst (v := 0) hx hb dX6_laysParts_112 (by decide) ?_
                      refine lv_istore (lv' := [(7, .int 0), (6, .int g107), (0, .ref (A 0)), (1, .int v1), (2, .int v2), (3, .int v3), (4, .int v4), (5, .int v5)]) hx hb dX6_laysParts_113 hl (by decide) rfl (fun ls hl => ?_)
                      have hlp115 : ∀ (v5 : Int32) (v6 : Int32), ∀ (n : Nat) (x : MdS) (v7 : Int32), iter (fun p : MdS × Int32 => Md_m_laysParts_s115 v1 v2 v3 v4 v5 v6 p.1 p.2) n (x, v7) = some q2 → ∀ (H : Heap) (locs : List Loc) (ls : Array Slot), va_P (dC, dI) vwCl (wMd cI cJ A x) H → va_D Q (wMd cI cJ A x) → va_S Q s.heap H locs → lv_has ls 8 [(0, .ref (A 0)), (1, .int v1), (2, .int v2), (3, .int v3), (4, .int v4), (5, .int v5), (6, .int v6), (7, .int v7)] → W p l e ({ frames := 3, cells := 0, slots := 0, locals := 92 } : Room) s m args below meth c H locs 0 0 (MQ below (QWv (dC, dI) Q (wMd cI cJ A r0)) args s 0 0 Q) (F0 m 115 ls []) := by
                        intro v5 v6 n
                        induction n with
                        | zero => intro x v7 hf; exact iter_zero hf
                        | succ n ih3 =>
                          intro x v7 hf H locs ls hP hD hS hl
                          obtain ⟨q3, hf, hk3⟩ := iter_succ hf
                          have hf : Md_m_laysParts_s115 v1 v2 v3 v4 v5 v6 x v7 = some q3 := hf
                          unfold Md_m_laysParts_s115 at hf
                          have hj157 : ∀ (x : MdS) (v7 : Int32), Md_m_laysParts_j157 x v1 v2 v3 v4 v5 v6 v7 = some q3 → ∀ (H : Heap) (locs : List Loc) (ls : Array Slot), va_P (dC, dI) vwCl (wMd cI cJ A x) H → va_D Q (wMd cI cJ A x) → va_S Q s.heap H locs → lv_has ls 8 [(0, .ref (A 0)), (1, .int v1), (2, .int v2), (3, .int v3), (4, .int v4), (5, .int v5), (6, .int v6), (7, .int v7)] → W p l e ({ frames := 3, cells := 0, slots := 0, locals := 92 } : Room) s m args below meth c H locs 0 0 (MQ below (QWv (dC, dI) Q (wMd cI cJ A r0)) args s 0 0 Q) (F0 m 157 ls []) := by
                            intro x v7 hf H locs ls hP hD hS hl
                            unfold Md_m_laysParts_j157 at hf
                            refine lv_aload_n hx hb dX6_laysParts_157 rfl (lv_at hl 0 rfl) ?_
                            refine lv_iload hx hb dX6_laysParts_158 (lv_at hl 6 rfl) ?_
                            refine lv_aload_n hx hb dX6_laysParts_160 rfl (lv_at hl 0 rfl) ?_
                            refine lv_iload hx hb dX6_laysParts_161 (lv_at hl 7 rfl) ?_
                            refine lv_iload hx hb dX6_laysParts_163 (lv_at hl 4 rfl) ?_
                            obtain ⟨g165, hc, hf⟩ := ob_bind hf
                            have hPc : va_P (dC, dI) vwCl (wMd cI cJ A x) H := hP
                            refine kg_retRi (va_runV (As := [.int v7, .int v4]) (rest := [.int v6, .ref (A 0)]) ⟨hx, hb, hml, hown, hts⟩ (c_X6_otherEnd l dC dI cI cJ A H x v7 v4 _ hc) (cwV 2 hts (gw_V wd_19_14 wd_19_11 wd_19_12 wd_19_13 wd_1_5) rfl rfl rfl qX6_otherEnd ⟨Nat.le_of_ble_eq_true rfl, Nat.le_of_ble_eq_true rfl⟩) (kg_preVR (ci := 6) (q := (RX6, TX6, 30)) (q0 := 0) hPc hK hN rfl rfl) rfl rfl hl.1 rfl (lv_room (Nat.le_of_ble_eq_true rfl)) dX6_laysParts_165 ⟨Nat.zero_le _, Nat.zero_le _⟩) ?_
                            obtain ⟨g168, hc, hf⟩ := ob_bind hf
                            have hPc : va_P (dC, dI) vwCl (wMd cI cJ A x) H := hP
                            refine kg_retRi (va_runV (As := [.int v6, .int g165]) (rest := []) ⟨hx, hb, hml, hown, hts⟩ (c_X6_has l dC dI cI cJ A H x v6 g165 _ hc) (cwV 2 hts (gw_V wd_14_13 wd_14_10 wd_14_11 wd_14_12 wd_1_5) rfl rfl rfl qX6_has ⟨Nat.le_of_ble_eq_true rfl, Nat.le_of_ble_eq_true rfl⟩) (kg_preVR (ci := 6) (q := (RX6, TX6, 30)) (q0 := 0) hPc hK hN rfl rfl) rfl rfl hl.1 rfl (lv_room (Nat.le_of_ble_eq_true rfl)) dX6_laysParts_168 ⟨Nat.zero_le _, Nat.zero_le _⟩) ?_
                            refine kg_b_eq (tgt := 182) hx hb hf dX6_laysParts_171 (by decide) (fun hc hf => ?_) (fun hc hf => ?_)
                            · refine lv_iinc (v := (v7 + 1)) (lv' := [(7, .int (v7 + 1)), (0, .ref (A 0)), (1, .int v1), (2, .int v2), (3, .int v3), (4, .int v4), (5, .int v5), (6, .int v6)]) hx hb dX6_laysParts_182 hl (k := 7) rfl rfl (by decide) rfl (fun ls hl => ?_)
                              refine lv_goto (tgt := 115) hx hb dX6_laysParts_185 (by decide) ?_
                              obtain rfl := Option.some.inj hf
                              exact ih3 x (v7 + 1) hk3 _ _ _ hP hD hS (lv_sub hl [1, 2, 3, 4, 5, 6, 7, 0] rfl)
                            · refine lv_aload_n hx hb dX6_laysParts_174 rfl (lv_at hl 0 rfl) ?_
                              refine lv_iload hx hb dX6_laysParts_175 (lv_at hl 5 rfl) ?_
                              refine lv_iload hx hb dX6_laysParts_177 (lv_at hl 7 rfl) ?_
                              obtain ⟨g179, hc, hf⟩ := ob_bind hf
                              have hPx := kg_eqP (kg_slf _) hP
                              have hDx := kg_eqD (kg_slf _) hD
                              refine kg_retWv (pre := ([] : va_W)) (wc := wMd cI cJ A x) (post := ([] : va_W)) (w1 := wMd cI cJ A g179) (wz := (wMd cI cJ A g179)) (kg_slf _).symm hPx hDx hS hA (va_runV (As := [.int v5, .int v7]) (rest := []) ⟨hx, hb, hml, hown, hts⟩ (c_X6_joinsParts l dC dI cI cJ A H.size x v5 v7 _ hc) (cwV 2 hts (gw_V wd_19_22 wd_19_19 wd_19_20 wd_19_21 wd_1_5) rfl rfl rfl qX6_joinsParts ⟨Nat.le_of_ble_eq_true rfl, Nat.le_of_ble_eq_true rfl⟩) (kg_preVW (ci := 6) (q := (RX6, TX6, 30)) (q0 := 0) (kg_cutP hPx) (kg_cutD hDx) hK hN rfl rfl) rfl rfl hl.1 rfl (lv_room (Nat.le_of_ble_eq_true rfl)) dX6_laysParts_179 ⟨Nat.zero_le _, Nat.zero_le _⟩) (fun H locs hP hD hS => ?_)
                              refine lv_iinc (v := (v7 + 1)) (lv' := [(7, .int (v7 + 1)), (0, .ref (A 0)), (1, .int v1), (2, .int v2), (3, .int v3), (4, .int v4), (5, .int v5), (6, .int v6)]) hx hb dX6_laysParts_182 hl (k := 7) rfl rfl (by decide) rfl (fun ls hl => ?_)
                              refine lv_goto (tgt := 115) hx hb dX6_laysParts_185 (by decide) ?_
                              obtain rfl := Option.some.inj hf
                              exact ih3 g179 (v7 + 1) hk3 _ _ _ hP hD hS (lv_sub hl [1, 2, 3, 4, 5, 6, 7, 0] rfl)
                          refine lv_iload hx hb dX6_laysParts_115 (lv_at hl 7 rfl) ?_
                          refine lv_iload hx hb dX6_laysParts_117 (lv_at hl 5 rfl) ?_
                          refine kg_icmp_ge (tgt := 188) hx hb hf dX6_laysParts_119 (by decide) (fun hc hf => ?_) (fun hc hf => ?_)
                          · obtain ⟨qq, hf, hqq⟩ := omap_some hf
                            have hkq : qq = q2 := by rw [← hqq] at hk3; exact hk3
                            rw [hkq] at hf
                            clear hkq hqq
                            refine lv_iinc (v := (v5 + 1)) (lv' := [(5, .int (v5 + 1)), (0, .ref (A 0)), (1, .int v1), (2, .int v2), (3, .int v3), (4, .int v4), (6, .int v6), (7, .int v7)]) hx hb dX6_laysParts_188 hl (k := 5) rfl rfl (by decide) rfl (fun ls hl => ?_)
                            refine lv_goto (tgt := 49) hx hb dX6_laysParts_191 (by decide) ?_
                            obtain rfl := Option.some.inj hf
                            exact ih2 x (v5 + 1) hk2 _ _ _ hP hD hS (lv_sub hl [1, 2, 3, 4, 5, 0] rfl)
                          · refine lv_aload_n hx hb dX6_laysParts_122 rfl (lv_at hl 0 rfl) ?_
                            refine lv_iload hx hb dX6_laysParts_123 (lv_at hl 7 rfl) ?_
                            refine lv_iload_n hx hb dX6_laysParts_125 rfl (lv_at hl 2 rfl) ?_
                            refine lv_iload_n hx hb dX6_laysParts_126 rfl (lv_at hl 3 rfl) ?_
                            obtain ⟨g127, hc, hf⟩ := ob_bind hf
                            have hPc : va_P (dC, dI) vwCl (wMd cI cJ A x) H := hP
                            refine kg_retRi (va_runV (As := [.int v7, .int v2, .int v3]) (rest := []) ⟨hx, hb, hml, hown, hts⟩ (c_X6_isOut l dC dI cI cJ A H x v7 v2 v3 _ hc) (cwV 3 hts (gw_V wd_19_10 wd_19_7 wd_19_8 wd_19_9 wd_1_5) rfl rfl rfl qX6_isOut ⟨Nat.le_of_ble_eq_true rfl, Nat.le_of_ble_eq_true rfl⟩) (kg_preVR (ci := 6) (q := (RX6, TX6, 30)) (q0 := 0) hPc hK hN rfl rfl) rfl rfl hl.1 rfl (lv_room (Nat.le_of_ble_eq_true rfl)) dX6_laysParts_127 ⟨Nat.zero_le _, Nat.zero_le _⟩) ?_
                            refine kg_b_ne (tgt := 182) hx hb hf dX6_laysParts_130 (by decide) (fun hc hf => ?_) (fun hc hf => ?_)
                            · refine lv_iinc (v := (v7 + 1)) (lv' := [(7, .int (v7 + 1)), (0, .ref (A 0)), (1, .int v1), (2, .int v2), (3, .int v3), (4, .int v4), (5, .int v5), (6, .int v6)]) hx hb dX6_laysParts_182 hl (k := 7) rfl rfl (by decide) rfl (fun ls hl => ?_)
                              refine lv_goto (tgt := 115) hx hb dX6_laysParts_185 (by decide) ?_
                              obtain rfl := Option.some.inj hf
                              exact ih3 x (v7 + 1) hk3 _ _ _ hP hD hS (lv_sub hl [1, 2, 3, 4, 5, 6, 7, 0] rfl)
                            · refine lv_aload_n hx hb dX6_laysParts_133 rfl (lv_at hl 0 rfl) ?_
                              refine va_get (D := (dC, dI)) (ci := 6) (v := .ref (A 1)) (C := RX6) (T := TX6) (N := 30) hx hb hts hiX6 hown hK hP 0 rfl rfl 4 (by decide) ww3 (fun _ h9 => h9) rfl dX6_laysParts_134 ?_
                              refine lv_iload hx hb dX6_laysParts_137 (lv_at hl 7 rfl) ?_
                              obtain ⟨g139, hv, hf⟩ := ob_bind hf
                              refine kg_iald hx hb hK hP 1 0 rfl rfl hv dX6_laysParts_139 ?_
                              refine lv_iload hx hb dX6_laysParts_140 (lv_at hl 4 rfl) ?_
                              refine kg_icmp_eq (tgt := 157) hx hb hf dX6_laysParts_142 (by decide) (fun hc hf => ?_) (fun hc hf => ?_)
                              · exact hj157 x v7 hf _ _ _ hP hD hS (lv_sub hl [0, 1, 2, 3, 4, 5, 6, 7] rfl)
                              · refine lv_aload_n hx hb dX6_laysParts_145 rfl (lv_at hl 0 rfl) ?_
                                refine va_get (D := (dC, dI)) (ci := 6) (v := .ref (A 2)) (C := RX6) (T := TX6) (N := 30) hx hb hts hiX6 hown hK hP 0 rfl rfl 5 (by decide) ww4 (fun _ h9 => h9) rfl dX6_laysParts_146 ?_
                                refine lv_iload hx hb dX6_laysParts_149 (lv_at hl 7 rfl) ?_
                                obtain ⟨g151, hv, hf⟩ := ob_bind hf
                                refine kg_iald hx hb hK hP 2 0 rfl rfl hv dX6_laysParts_151 ?_
                                refine lv_iload hx hb dX6_laysParts_152 (lv_at hl 4 rfl) ?_
                                refine kg_icmp_ne (tgt := 182) hx hb hf dX6_laysParts_154 (by decide) (fun hc hf => ?_) (fun hc hf => ?_)
                                · refine lv_iinc (v := (v7 + 1)) (lv' := [(7, .int (v7 + 1)), (0, .ref (A 0)), (1, .int v1), (2, .int v2), (3, .int v3), (4, .int v4), (5, .int v5), (6, .int v6)]) hx hb dX6_laysParts_182 hl (k := 7) rfl rfl (by decide) rfl (fun ls hl => ?_)
                                  refine lv_goto (tgt := 115) hx hb dX6_laysParts_185 (by decide) ?_
                                  obtain rfl := Option.some.inj hf
                                  exact ih3 x (v7 + 1) hk3 _ _ _ hP hD hS (lv_sub hl [1, 2, 3, 4, 5, 6, 7, 0] rfl)
                                · exact hj157 x v7 hf _ _ _ hP hD hS (lv_sub hl [0, 1, 2, 3, 4, 5, 6, 7] rfl)
                      exact hlp115 v5 g107 FU x 0 hf _ _ _ hP hD hS (lv_sub hl [2, 3, 4, 5, 6, 7, 1, 0] rfl)
                    refine lv_iload hx hb dX6_laysParts_49 (lv_at hl 5 rfl) ?_
                    refine lv_iload_n hx hb dX6_laysParts_51 rfl (lv_at hl 1 rfl) ?_
                    refine kg_icmp_ge (tgt := 194) hx hb hf dX6_laysParts_52 (by decide) (fun hc hf => ?_) (fun hc hf => ?_)
                    · obtain ⟨qq, hf, hqq⟩ := omap_some hf
                      have hkq : qq = q1 := by rw [← hqq] at hk2; exact hk2
                      rw [hkq] at hf
                      clear hkq hqq
                      refine lv_iinc (v := (v4 + 1)) (lv' := [(4, .int (v4 + 1)), (0, .ref (A 0)), (1, .int v1), (2, .int v2), (3, .int v3), (5, .int v5)]) hx hb dX6_laysParts_194 hl (k := 4) rfl rfl (by decide) rfl (fun ls hl => ?_)
                      refine lv_goto (tgt := 28) hx hb dX6_laysParts_197 (by decide) ?_
                      obtain rfl := Option.some.inj hf
                      exact ih1 x (v4 + 1) hk1 _ _ _ hP hD hS (lv_sub hl [1, 2, 3, 4, 0] rfl)
                    · refine lv_aload_n hx hb dX6_laysParts_55 rfl (lv_at hl 0 rfl) ?_
                      refine lv_iload hx hb dX6_laysParts_56 (lv_at hl 5 rfl) ?_
                      refine lv_iload_n hx hb dX6_laysParts_58 rfl (lv_at hl 2 rfl) ?_
                      refine lv_iload_n hx hb dX6_laysParts_59 rfl (lv_at hl 3 rfl) ?_
                      obtain ⟨g60, hc, hf⟩ := ob_bind hf
                      have hPc : va_P (dC, dI) vwCl (wMd cI cJ A x) H := hP
                      refine kg_retRi (va_runV (As := [.int v5, .int v2, .int v3]) (rest := []) ⟨hx, hb, hml, hown, hts⟩ (c_X6_isOut l dC dI cI cJ A H x v5 v2 v3 _ hc) (cwV 3 hts (gw_V wd_19_10 wd_19_7 wd_19_8 wd_19_9 wd_1_5) rfl rfl rfl qX6_isOut ⟨Nat.le_of_ble_eq_true rfl, Nat.le_of_ble_eq_true rfl⟩) (kg_preVR (ci := 6) (q := (RX6, TX6, 30)) (q0 := 0) hPc hK hN rfl rfl) rfl rfl hl.1 rfl (lv_room (Nat.le_of_ble_eq_true rfl)) dX6_laysParts_60 ⟨Nat.zero_le _, Nat.zero_le _⟩) ?_
                      refine kg_b_ne (tgt := 188) hx hb hf dX6_laysParts_63 (by decide) (fun hc hf => ?_) (fun hc hf => ?_)
                      · refine lv_iinc (v := (v5 + 1)) (lv' := [(5, .int (v5 + 1)), (0, .ref (A 0)), (1, .int v1), (2, .int v2), (3, .int v3), (4, .int v4)]) hx hb dX6_laysParts_188 hl (k := 5) rfl rfl (by decide) rfl (fun ls hl => ?_)
                        refine lv_goto (tgt := 49) hx hb dX6_laysParts_191 (by decide) ?_
                        obtain rfl := Option.some.inj hf
                        exact ih2 x (v5 + 1) hk2 _ _ _ hP hD hS (lv_sub hl [1, 2, 3, 4, 5, 0] rfl)
                      · refine lv_aload_n hx hb dX6_laysParts_66 rfl (lv_at hl 0 rfl) ?_
                        refine va_get (D := (dC, dI)) (ci := 6) (v := .ref (A 1)) (C := RX6) (T := TX6) (N := 30) hx hb hts hiX6 hown hK hP 0 rfl rfl 4 (by decide) ww3 (fun _ h9 => h9) rfl dX6_laysParts_67 ?_
                        refine lv_iload hx hb dX6_laysParts_70 (lv_at hl 5 rfl) ?_
                        obtain ⟨g72, hv, hf⟩ := ob_bind hf
                        refine kg_iald hx hb hK hP 1 0 rfl rfl hv dX6_laysParts_72 ?_
                        refine lv_iload hx hb dX6_laysParts_73 (lv_at hl 4 rfl) ?_
                        refine kg_icmp_eq (tgt := 93) hx hb hf dX6_laysParts_75 (by decide) (fun hc hf => ?_) (fun hc hf => ?_)
                        · exact hj93 x v5 hf _ _ _ hP hD hS (lv_sub hl [0, 1, 2, 3, 4, 5] rfl)
                        · refine lv_aload_n hx hb dX6_laysParts_78 rfl (lv_at hl 0 rfl) ?_
                          refine va_get (D := (dC, dI)) (ci := 6) (v := .ref (A 2)) (C := RX6) (T := TX6) (N := 30) hx hb hts hiX6 hown hK hP 0 rfl rfl 5 (by decide) ww4 (fun _ h9 => h9) rfl dX6_laysParts_79 ?_
                          refine lv_iload hx hb dX6_laysParts_82 (lv_at hl 5 rfl) ?_
                          obtain ⟨g84, hv, hf⟩ := ob_bind hf
                          refine kg_iald hx hb hK hP 2 0 rfl rfl hv dX6_laysParts_84 ?_
                          refine lv_iload hx hb dX6_laysParts_85 (lv_at hl 4 rfl) ?_
                          refine kg_icmp_eq (tgt := 93) hx hb hf dX6_laysParts_87 (by decide) (fun hc hf => ?_) (fun hc hf => ?_)
                          · exact hj93 x v5 hf _ _ _ hP hD hS (lv_sub hl [0, 1, 2, 3, 4, 5] rfl)
                          · refine lv_goto (tgt := 188) hx hb dX6_laysParts_90 (by decide) ?_
                            refine lv_iinc (v := (v5 + 1)) (lv' := [(5, .int (v5 + 1)), (0, .ref (A 0)), (1, .int v1), (2, .int v2), (3, .int v3), (4, .int v4)]) hx hb dX6_laysParts_188 hl (k := 5) rfl rfl (by decide) rfl (fun ls hl => ?_)
                            refine lv_goto (tgt := 49) hx hb dX6_laysParts_191 (by decide) ?_
                            obtain rfl := Option.some.inj hf
                            exact ih2 x (v5 + 1) hk2 _ _ _ hP hD hS (lv_sub hl [1, 2, 3, 4, 5, 0] rfl)
                exact hlp49 v4 FU x 0 hf _ _ _ hP hD hS (lv_sub hl [1, 2, 3, 4, 5, 0] rfl)
              · refine lv_goto (tgt := 194) hx hb dX6_laysParts_43 (by decide) ?_
                refine lv_iinc (v := (v4 + 1)) (lv' := [(4, .int (v4 + 1)), (0, .ref (A 0)), (1, .int v1), (2, .int v2), (3, .int v3)]) hx hb dX6_laysParts_194 hl (k := 4) rfl rfl (by decide) rfl (fun ls hl => ?_)
                refine lv_goto (tgt := 28) hx hb dX6_laysParts_197 (by decide) ?_
                obtain rfl := Option.some.inj hf
                exact ih1 x (v4 + 1) hk1 _ _ _ hP hD hS (lv_sub hl [1, 2, 3, 4, 0] rfl)
        exact hlp28  FU x 0 hf _ _ _ hP hD hS (lv_sub hl [1, 2, 3, 4, 0] rfl)
      · refine lv_aload_n hx hb dX6_laysParts_10 rfl (lv_at hl 0 rfl) ?_
        refine va_get (D := (dC, dI)) (ci := 6) (v := .ref (A 10)) (C := RX6) (T := TX6) (N := 30) hx hb hts hiX6 hown hK hP 0 rfl rfl 18 (by decide) ww2 (fun _ h9 => h9) rfl dX6_laysParts_11 ?_
        refine lv_iload hx hb dX6_laysParts_14 (lv_at hl 4 rfl) ?_
        refine lv_iload hx hb dX6_laysParts_16 (lv_at hl 4 rfl) ?_
        obtain ⟨f18, hv, hf⟩ := ob_bind hf
        refine kg_iast (wz := (wMd cI cJ A (Md_set_partOf x f18))) hx hb hK hP hD hS 10 0 rfl rfl hv dX6_laysParts_18 (sc_Md_partOf _ _ _ _ _) (fun H locs hP hD hS => ?_)
        refine lv_iinc (v := (v4 + 1)) (lv' := [(4, .int (v4 + 1)), (0, .ref (A 0)), (1, .int v1), (2, .int v2), (3, .int v3)]) hx hb dX6_laysParts_19 hl (k := 4) rfl rfl (by decide) rfl (fun ls hl => ?_)
        refine lv_goto (tgt := 3) hx hb dX6_laysParts_22 (by decide) ?_
        obtain rfl := Option.some.inj hf
        exact ih1 (Md_set_partOf x f18) (v4 + 1) hk1 _ _ _ hP hD hS (lv_sub hl [1, 2, 3, 4, 0] rfl)
  exact hlp3  FU x 0 hf _ _ _ hP hD hS (lv_sub hl [1, 2, 3, 4, 0] rfl)
set_option maxHeartbeats 4000000 in
set_option maxRecDepth 100000 in
theorem c_X6_laysAllParts (l : Launch) (dC : Nat → ClassId) (dI : Nat → Nat → Nat) (cI cJ : ClassId) (A : Nat → Nat) (hq : Nat) (x : MdS) (r0 : MdS) (hf : Md_m_laysAllParts x = some r0) : MWv l yX6_laysAllParts (wAll yX6_laysAllParts cX6_laysAllParts 1 none) ({ frames := 4, cells := 0, slots := 0, locals := 119 } : Room) [.ref (A 0)] hq (dC, dI) (vTy cI cJ) (wMd cI cJ A x) (wMd cI cJ A r0) := by
  refine kg_metW (Qc := fun Q => QWv (dC, dI) Q (wMd cI cJ A r0)) (cc := cX6_laysAllParts) (maxL := 1) (ret := none) (by decide) rfl (Nat.le_of_ble_eq_true rfl) ?_
  intro p e s m args below meth c Q hx hb hr hts hown hlk hml hP hK hN hD hA hS ls hl
  have hl : lv_has ls 1 [(0, .ref (A 0))] := hl
  have ww0 := hts (.fieldLink RX6 78 "SafeBlocksModel" "m" "I") (List.mem_cons_of_mem _ wd_9_6)
  have hiX6 : ∀ w ∈ u_ws RX6 TX6 30, w ∈ wAll yX6_laysAllParts cX6_laysAllParts 1 none := fun w h => List.mem_cons_of_mem _ (inlX6 w h)
  suffices hgo : ∀ (H : Heap) (locs : List Loc), va_P (dC, dI) vwCl (wMd cI cJ A x) H → va_S Q s.heap H locs → W p l e ({ frames := 4, cells := 0, slots := 0, locals := 119 } : Room) s m args below meth c H locs 0 0 (MQ below (QWv (dC, dI) Q (wMd cI cJ A r0)) args s 0 0 Q) (F0 m 0 ls []) from hgo _ _ hP hS
  clear hP hS
  intro H locs hP hS
  unfold Md_m_laysAllParts at hf
  refine lv_aload_n hx hb dX6_laysAllParts_0 rfl (lv_at hl 0 rfl) ?_
  refine lv_aload_n hx hb dX6_laysAllParts_1 rfl (lv_at hl 0 rfl) ?_
  refine va_get (D := (dC, dI)) (ci := 6) (v := .int (Md_m x)) (C := RX6) (T := TX6) (N := 30) hx hb hts hiX6 hown hK hP 0 rfl rfl 2 (by decide) ww0 (fun _ h9 => h9) rfl dX6_laysAllParts_2 ?_
  refine lv_iconst (v := (-1)) hx hb dX6_laysAllParts_5 (by decide) ?_
  refine lv_iconst (v := (-1)) hx hb dX6_laysAllParts_6 (by decide) ?_
  obtain ⟨g7, hc, hf⟩ := ob_bind hf
  have hPx := kg_eqP (kg_slf _) hP
  have hDx := kg_eqD (kg_slf _) hD
  refine kg_retWv (pre := ([] : va_W)) (wc := wMd cI cJ A x) (post := ([] : va_W)) (w1 := wMd cI cJ A g7) (wz := (wMd cI cJ A g7)) (kg_slf _).symm hPx hDx hS hA (va_runV (As := [.int (Md_m x), .int (-1), .int (-1)]) (rest := []) ⟨hx, hb, hml, hown, hts⟩ (c_X6_laysParts l dC dI cI cJ A H.size x (Md_m x) (-1) (-1) _ hc) (cwV 3 hts (gw_V wd_19_5 wd_19_2 wd_19_3 wd_19_4 wd_1_5) rfl rfl rfl qX6_laysParts ⟨Nat.le_of_ble_eq_true rfl, Nat.le_of_ble_eq_true rfl⟩) (kg_preVW (ci := 6) (q := (RX6, TX6, 30)) (q0 := 0) (kg_cutP hPx) (kg_cutD hDx) hK hN rfl rfl) rfl rfl hl.1 rfl (lv_room (Nat.le_of_ble_eq_true rfl)) dX6_laysAllParts_7 ⟨Nat.zero_le _, Nat.zero_le _⟩) (fun H locs hP hD hS => ?_)
  obtain rfl := Option.some.inj hf
  exact kg_vretW hx hb hr hlk hP hD hS dX6_laysAllParts_10
set_option maxHeartbeats 4000000 in
set_option maxRecDepth 100000 in
theorem c_X6_namesPart (l : Launch) (dC : Nat → ClassId) (dI : Nat → Nat → Nat) (cI cJ : ClassId) (A : Nat → Nat) (hq : Nat) (x : MdS) (v1 : Int32) (r0 : MdS) (hf : Md_m_namesPart x v1 = some r0) : MWv l yX6_namesPart (wAll yX6_namesPart cX6_namesPart 6 none) ({ frames := 4, cells := 0, slots := 0, locals := 119 } : Room) [.ref (A 0), .int v1] hq (dC, dI) (vTy cI cJ) (wMd cI cJ A x) (wMd cI cJ A r0) := by
  refine kg_metW (Qc := fun Q => QWv (dC, dI) Q (wMd cI cJ A r0)) (cc := cX6_namesPart) (maxL := 6) (ret := none) (by decide) rfl (Nat.le_of_ble_eq_true rfl) ?_
  intro p e s m args below meth c Q hx hb hr hts hown hlk hml hP hK hN hD hA hS ls hl
  have hl : lv_has ls 6 [(0, .ref (A 0)), (1, .int v1)] := hl
  have ww0 := hts (.fieldLink RX6 50 "SafeBlocksModel" "partName" "[I") (List.mem_cons_of_mem _ wd_8_12)
  have ww1 := hts (.fieldLink RX6 53 "SafeBlocksModel" "partEnded" "[I") (List.mem_cons_of_mem _ wd_8_13)
  have ww2 := hts (.fieldLink RX6 56 "SafeBlocksModel" "partInto" "[I") (List.mem_cons_of_mem _ wd_8_14)
  have ww3 := hts (.fieldLink RX6 59 "SafeBlocksModel" "partMost" "[I") (List.mem_cons_of_mem _ wd_8_15)
  have ww4 := hts (.methodLink RX6 93 Lib.Math.max.name) (List.mem_cons_of_mem _ wd_14_6)
  have ww5 := hts (.static Lib.Math.max.name) (List.mem_cons_of_mem _ wd_14_7)
  have ww6 := hts (.initialized "java/lang/Math") (List.mem_cons_of_mem _ wd_14_8)
  have ww7 := hts (.code Lib.Math.max.name Lib.Math.max.code 2 (some .int)) (List.mem_cons_of_mem _ wd_14_9)
  have ww8 := hts (.fieldLink RX6 44 "SafeBlocksModel" "partOf" "[I") (List.mem_cons_of_mem _ wd_8_10)
  have hiX6 : ∀ w ∈ u_ws RX6 TX6 30, w ∈ wAll yX6_namesPart cX6_namesPart 6 none := fun w h => List.mem_cons_of_mem _ (inlX6 w h)
  suffices hgo : ∀ (H : Heap) (locs : List Loc), va_P (dC, dI) vwCl (wMd cI cJ A x) H → va_S Q s.heap H locs → W p l e ({ frames := 4, cells := 0, slots := 0, locals := 119 } : Room) s m args below meth c H locs 0 0 (MQ below (QWv (dC, dI) Q (wMd cI cJ A r0)) args s 0 0 Q) (F0 m 0 ls []) from hgo _ _ hP hS
  clear hP hS
  intro H locs hP hS
  unfold Md_m_namesPart at hf
  refine lv_aload_n hx hb dX6_namesPart_0 rfl (lv_at hl 0 rfl) ?_
  refine lv_iload_n hx hb dX6_namesPart_1 rfl (lv_at hl 1 rfl) ?_
  refine lv_iconst (v := 1) hx hb dX6_namesPart_2 (by decide) ?_
  refine lv_iadd hx hb dX6_namesPart_3 ?_
  refine lv_iconst (v := (-1)) hx hb dX6_namesPart_4 (by decide) ?_
  refine lv_iconst (v := (-1)) hx hb dX6_namesPart_5 (by decide) ?_
  obtain ⟨g6, hc, hf⟩ := ob_bind hf
  have hPx := kg_eqP (kg_slf _) hP
  have hDx := kg_eqD (kg_slf _) hD
  refine kg_retWv (pre := ([] : va_W)) (wc := wMd cI cJ A x) (post := ([] : va_W)) (w1 := wMd cI cJ A g6) (wz := (wMd cI cJ A g6)) (kg_slf _).symm hPx hDx hS hA (va_runV (As := [.int (v1 + 1), .int (-1), .int (-1)]) (rest := []) ⟨hx, hb, hml, hown, hts⟩ (c_X6_laysParts l dC dI cI cJ A H.size x (v1 + 1) (-1) (-1) _ hc) (cwV 3 hts (gw_V wd_19_5 wd_19_2 wd_19_3 wd_19_4 wd_1_5) rfl rfl rfl qX6_laysParts ⟨Nat.le_of_ble_eq_true rfl, Nat.le_of_ble_eq_true rfl⟩) (kg_preVW (ci := 6) (q := (RX6, TX6, 30)) (q0 := 0) (kg_cutP hPx) (kg_cutD hDx) hK hN rfl rfl) rfl rfl hl.1 rfl (lv_room (Nat.le_of_ble_eq_true rfl)) dX6_namesPart_6 ⟨Nat.zero_le _, Nat.zero_le _⟩) (fun H locs hP hD hS => ?_)
  refine lv_aload_n hx hb dX6_namesPart_9 rfl (lv_at hl 0 rfl) ?_
  refine va_get (D := (dC, dI)) (ci := 6) (v := .ref (A 11)) (C := RX6) (T := TX6) (N := 30) hx hb hts hiX6 hown hK hP 0 rfl rfl 21 (by decide) ww0 (fun _ h9 => h9) rfl dX6_namesPart_10 ?_
  refine lv_iload_n hx hb dX6_namesPart_13 rfl (lv_at hl 1 rfl) ?_
  refine lv_iload_n hx hb dX6_namesPart_14 rfl (lv_at hl 1 rfl) ?_
  obtain ⟨f15, hv, hf⟩ := ob_bind hf
  refine kg_iast (wz := (wMd cI cJ A (Md_set_partName g6 f15))) hx hb hK hP hD hS 11 0 rfl rfl hv dX6_namesPart_15 (sc_Md_partName _ _ _ _ _) (fun H locs hP hD hS => ?_)
  refine lv_aload_n hx hb dX6_namesPart_16 rfl (lv_at hl 0 rfl) ?_
  refine va_get (D := (dC, dI)) (ci := 6) (v := .ref (A 12)) (C := RX6) (T := TX6) (N := 30) hx hb hts hiX6 hown hK hP 0 rfl rfl 22 (by decide) ww1 (fun _ h9 => h9) rfl dX6_namesPart_17 ?_
  refine lv_iload_n hx hb dX6_namesPart_20 rfl (lv_at hl 1 rfl) ?_
  refine lv_iconst (v := (-1)) hx hb dX6_namesPart_21 (by decide) ?_
  obtain ⟨f22, hv, hf⟩ := ob_bind hf
  refine kg_iast (wz := (wMd cI cJ A (Md_set_partEnded (Md_set_partName g6 f15) f22))) hx hb hK hP hD hS 12 0 rfl rfl hv dX6_namesPart_22 (sc_Md_partEnded _ _ _ _ _) (fun H locs hP hD hS => ?_)
  refine lv_aload_n hx hb dX6_namesPart_23 rfl (lv_at hl 0 rfl) ?_
  refine va_get (D := (dC, dI)) (ci := 6) (v := .ref (A 13)) (C := RX6) (T := TX6) (N := 30) hx hb hts hiX6 hown hK hP 0 rfl rfl 23 (by decide) ww2 (fun _ h9 => h9) rfl dX6_namesPart_24 ?_
  refine lv_iload_n hx hb dX6_namesPart_27 rfl (lv_at hl 1 rfl) ?_
  refine lv_iconst (v := (-1)) hx hb dX6_namesPart_28 (by decide) ?_
  obtain ⟨f29, hv, hf⟩ := ob_bind hf
  refine kg_iast (wz := (wMd cI cJ A (Md_set_partInto (Md_set_partEnded (Md_set_partName g6 f15) f22) f29))) hx hb hK hP hD hS 13 0 rfl rfl hv dX6_namesPart_29 (sc_Md_partInto _ _ _ _ _) (fun H locs hP hD hS => ?_)
  refine lv_aload_n hx hb dX6_namesPart_30 rfl (lv_at hl 0 rfl) ?_
  refine va_get (D := (dC, dI)) (ci := 6) (v := .ref (A 14)) (C := RX6) (T := TX6) (N := 30) hx hb hts hiX6 hown hK hP 0 rfl rfl 24 (by decide) ww3 (fun _ h9 => h9) rfl dX6_namesPart_31 ?_
  refine lv_iload_n hx hb dX6_namesPart_34 rfl (lv_at hl 1 rfl) ?_
  refine lv_iconst (v := 1) hx hb dX6_namesPart_35 (by decide) ?_
  obtain ⟨f36, hv, hf⟩ := ob_bind hf
  refine kg_iast (wz := (wMd cI cJ A (Md_set_partMost (Md_set_partInto (Md_set_partEnded (Md_set_partName g6 f15) f22) f29) f36))) hx hb hK hP hD hS 14 0 rfl rfl hv dX6_namesPart_36 (sc_Md_partMost _ _ _ _ _) (fun H locs hP hD hS => ?_)
  refine lv_iload_n hx hb dX6_namesPart_37 rfl (lv_at hl 1 rfl) ?_
  refine lv_istore_n (lv' := [(2, .int v1), (0, .ref (A 0)), (1, .int v1)]) hx hb dX6_namesPart_38 rfl hl (by decide) rfl (fun ls hl => ?_)
  refine lv_iconst (v := 0) hx hb dX6_namesPart_39 (by decide) ?_
  refine lv_istore_n (lv' := [(3, .int 0), (2, .int v1), (0, .ref (A 0)), (1, .int v1)]) hx hb dX6_namesPart_40 rfl hl (by decide) rfl (fun ls hl => ?_)
  have hlp41 : ∀ (x : MdS), ∀ (n : Nat) (v2 : Int32) (v3 : Int32), iter (fun p : Int32 × Int32 => Md_m_namesPart_s41 x v1 p.1 p.2) n (v2, v3) = some r0 → ∀ (H : Heap) (locs : List Loc) (ls : Array Slot), va_P (dC, dI) vwCl (wMd cI cJ A x) H → va_D Q (wMd cI cJ A x) → va_S Q s.heap H locs → lv_has ls 6 [(0, .ref (A 0)), (1, .int v1), (2, .int v2), (3, .int v3)] → W p l e ({ frames := 4, cells := 0, slots := 0, locals := 119 } : Room) s m args below meth c H locs 0 0 (MQ below (QWv (dC, dI) Q (wMd cI cJ A r0)) args s 0 0 Q) (F0 m 41 ls []) := by
    intro x n
    induction n with
    | zero => intro v2 v3 hf; exact iter_zero hf
    | succ n ih1 =>
      intro v2 v3 hf H locs ls hP hD hS hl
      obtain ⟨q1, hf, hk1⟩ := iter_succ hf
      have hf : Md_m_namesPart_s41 x v1 v2 v3 = some q1 := hf
      unfold Md_m_namesPart_s41 at hf
      have hj113 : ∀ (v3 : Int32), Md_m_namesPart_j113 x v1 v3 = some q1 → ∀ (H : Heap) (locs : List Loc) (ls : Array Slot), va_P (dC, dI) vwCl (wMd cI cJ A x) H → va_D Q (wMd cI cJ A x) → va_S Q s.heap H locs → lv_has ls 6 [(0, .ref (A 0)), (1, .int v1), (3, .int v3)] → W p l e ({ frames := 4, cells := 0, slots := 0, locals := 119 } : Room) s m args below meth c H locs 0 0 (MQ below (QWv (dC, dI) Q (wMd cI cJ A r0)) args s 0 0 Q) (F0 m 113 ls []) := by
        intro v3 hf H locs ls hP hD hS hl
        unfold Md_m_namesPart_j113 at hf
        refine lv_aload_n hx hb dX6_namesPart_113 rfl (lv_at hl 0 rfl) ?_
        refine va_get (D := (dC, dI)) (ci := 6) (v := .ref (A 11)) (C := RX6) (T := TX6) (N := 30) hx hb hts hiX6 hown hK hP 0 rfl rfl 21 (by decide) ww0 (fun _ h9 => h9) rfl dX6_namesPart_114 ?_
        refine lv_iload_n hx hb dX6_namesPart_117 rfl (lv_at hl 2 rfl) ?_
        obtain ⟨g118, hv, hf⟩ := ob_bind hf
        refine kg_iald hx hb hK hP 11 0 rfl rfl hv dX6_namesPart_118 ?_
        refine lv_istore_n (lv' := [(2, .int g118), (0, .ref (A 0)), (1, .int v1), (3, .int v3)]) hx hb dX6_namesPart_119 rfl hl (by decide) rfl (fun ls hl => ?_)
        refine lv_iinc (v := (v3 + 1)) (lv' := [(3, .int (v3 + 1)), (2, .int g118), (0, .ref (A 0)), (1, .int v1)]) hx hb dX6_namesPart_120 hl (k := 3) rfl rfl (by decide) rfl (fun ls hl => ?_)
        refine lv_goto (tgt := 41) hx hb dX6_namesPart_123 (by decide) ?_
        obtain rfl := Option.some.inj hf
        exact ih1 g118 (v3 + 1) hk1 _ _ _ hP hD hS (lv_sub hl [2, 3, 1, 0] rfl)
      refine lv_iload_n hx hb dX6_namesPart_41 rfl (lv_at hl 3 rfl) ?_
      refine lv_iload_n hx hb dX6_namesPart_42 rfl (lv_at hl 1 rfl) ?_
      refine kg_icmp_ge (tgt := 126) hx hb hf dX6_namesPart_43 (by decide) (fun hc hf => ?_) (fun hc hf => ?_)
      · obtain ⟨qq, hf, hqq⟩ := omap_some hf
        have hkq : qq = r0 := by rw [← hqq] at hk1; exact hk1
        rw [hkq] at hf
        clear hkq hqq
        refine lv_iconst (v := 0) hx hb dX6_namesPart_126 (by decide) ?_
        refine lv_istore_n (lv' := [(3, .int 0), (0, .ref (A 0)), (1, .int v1), (2, .int v2)]) hx hb dX6_namesPart_127 rfl hl (by decide) rfl (fun ls hl => ?_)
        have hlp128 : ∀ (v2 : Int32), ∀ (n : Nat) (x : MdS) (v3 : Int32), iter (fun p : MdS × Int32 => Md_m_namesPart_s128 v1 v2 p.1 p.2) n (x, v3) = some r0 → ∀ (H : Heap) (locs : List Loc) (ls : Array Slot), va_P (dC, dI) vwCl (wMd cI cJ A x) H → va_D Q (wMd cI cJ A x) → va_S Q s.heap H locs → lv_has ls 6 [(0, .ref (A 0)), (1, .int v1), (2, .int v2), (3, .int v3)] → W p l e ({ frames := 4, cells := 0, slots := 0, locals := 119 } : Room) s m args below meth c H locs 0 0 (MQ below (QWv (dC, dI) Q (wMd cI cJ A r0)) args s 0 0 Q) (F0 m 128 ls []) := by
          intro v2 n
          induction n with
          | zero => intro x v3 hf; exact iter_zero hf
          | succ n ih1 =>
            intro x v3 hf H locs ls hP hD hS hl
            obtain ⟨q1, hf, hk1⟩ := iter_succ hf
            have hf : Md_m_namesPart_s128 v1 v2 x v3 = some q1 := hf
            unfold Md_m_namesPart_s128 at hf
            refine lv_iload_n hx hb dX6_namesPart_128 rfl (lv_at hl 3 rfl) ?_
            refine lv_iload_n hx hb dX6_namesPart_129 rfl (lv_at hl 1 rfl) ?_
            refine kg_icmp_gt (tgt := 191) hx hb hf dX6_namesPart_130 (by decide) (fun hc hf => ?_) (fun hc hf => ?_)
            · obtain ⟨qq, hf, hqq⟩ := omap_some hf
              have hkq : qq = r0 := by rw [← hqq] at hk1; exact hk1
              rw [hkq] at hf
              clear hkq hqq
              refine lv_iconst (v := 0) hx hb dX6_namesPart_191 (by decide) ?_
              refine lv_istore_n (lv' := [(3, .int 0), (0, .ref (A 0)), (1, .int v1), (2, .int v2)]) hx hb dX6_namesPart_192 rfl hl (by decide) rfl (fun ls hl => ?_)
              have hlp193 : ∀ (v2 : Int32), ∀ (n : Nat) (x : MdS) (v3 : Int32), iter (fun p : MdS × Int32 => Md_m_namesPart_s193 v1 v2 p.1 p.2) n (x, v3) = some r0 → ∀ (H : Heap) (locs : List Loc) (ls : Array Slot), va_P (dC, dI) vwCl (wMd cI cJ A x) H → va_D Q (wMd cI cJ A x) → va_S Q s.heap H locs → lv_has ls 6 [(0, .ref (A 0)), (1, .int v1), (2, .int v2), (3, .int v3)] → W p l e ({ frames := 4, cells := 0, slots := 0, locals := 119 } : Room) s m args below meth c H locs 0 0 (MQ below (QWv (dC, dI) Q (wMd cI cJ A r0)) args s 0 0 Q) (F0 m 193 ls []) := by
                intro v2 n
                induction n with
                | zero => intro x v3 hf; exact iter_zero hf
                | succ n ih1 =>
                  intro x v3 hf H locs ls hP hD hS hl
                  obtain ⟨q1, hf, hk1⟩ := iter_succ hf
                  have hf : Md_m_namesPart_s193 v1 v2 x v3 = some q1 := hf
                  unfold Md_m_namesPart_s193 at hf
                  refine lv_iload_n hx hb dX6_namesPart_193 rfl (lv_at hl 3 rfl) ?_
                  refine lv_iload_n hx hb dX6_namesPart_194 rfl (lv_at hl 1 rfl) ?_
                  refine kg_icmp_gt (tgt := 226) hx hb hf dX6_namesPart_195 (by decide) (fun hc hf => ?_) (fun hc hf => ?_)
                  · obtain ⟨qq, hf, hqq⟩ := omap_some hf
                    have hkq : qq = r0 := by rw [← hqq] at hk1; exact hk1
                    rw [hkq] at hf
                    clear hkq hqq
                    refine lv_aload_n hx hb dX6_namesPart_226 rfl (lv_at hl 0 rfl) ?_
                    refine va_get (D := (dC, dI)) (ci := 6) (v := .ref (A 14)) (C := RX6) (T := TX6) (N := 30) hx hb hts hiX6 hown hK hP 0 rfl rfl 24 (by decide) ww3 (fun _ h9 => h9) rfl dX6_namesPart_227 ?_
                    refine lv_iload_n hx hb dX6_namesPart_230 rfl (lv_at hl 2 rfl) ?_
                    refine lv_aload_n hx hb dX6_namesPart_231 rfl (lv_at hl 0 rfl) ?_
                    refine va_get (D := (dC, dI)) (ci := 6) (v := .ref (A 14)) (C := RX6) (T := TX6) (N := 30) hx hb hts hiX6 hown hK hP 0 rfl rfl 24 (by decide) ww3 (fun _ h9 => h9) rfl dX6_namesPart_232 ?_
                    refine lv_iload_n hx hb dX6_namesPart_235 rfl (lv_at hl 2 rfl) ?_
                    obtain ⟨g236, hv, hf⟩ := ob_bind hf
                    refine kg_iald hx hb hK hP 14 0 rfl rfl hv dX6_namesPart_236 ?_
                    refine lv_aload_n hx hb dX6_namesPart_237 rfl (lv_at hl 0 rfl) ?_
                    refine lv_iload_n hx hb dX6_namesPart_238 rfl (lv_at hl 2 rfl) ?_
                    refine lv_iload_n hx hb dX6_namesPart_239 rfl (lv_at hl 1 rfl) ?_
                    refine lv_iconst (v := 1) hx hb dX6_namesPart_240 (by decide) ?_
                    refine lv_iadd hx hb dX6_namesPart_241 ?_
                    obtain ⟨g242, hc, hf⟩ := ob_bind hf
                    have hPc : va_P (dC, dI) vwCl (wMd cI cJ A x) H := hP
                    refine kg_retRi (va_runV (As := [.int v2, .int (v1 + 1)]) (rest := [.int g236, .int v2, .ref (A 14)]) ⟨hx, hb, hml, hown, hts⟩ (c_X6_linksNamed l dC dI cI cJ A H x v2 (v1 + 1) _ hc) (cwV 2 hts (gw_V wd_21_1 wd_20_22 wd_20_23 wd_21_0 wd_1_5) rfl rfl rfl qX6_linksNamed ⟨Nat.le_of_ble_eq_true rfl, Nat.le_of_ble_eq_true rfl⟩) (kg_preVR (ci := 6) (q := (RX6, TX6, 30)) (q0 := 0) hPc hK hN rfl rfl) rfl rfl hl.1 rfl (lv_room (Nat.le_of_ble_eq_true rfl)) dX6_namesPart_242 ⟨Nat.zero_le _, Nat.zero_le _⟩) ?_
                    refine va_mmax hx hb (by rw [hml]; exact hl.1.symm) hown ww4 ww5 ww6 ww7 (Nat.le_of_ble_eq_true rfl) (Nat.le_of_ble_eq_true rfl) (Nat.zero_le _) (Nat.zero_le _) dX6_namesPart_245 ?_
                    obtain ⟨f248, hv, hf⟩ := ob_bind hf
                    refine kg_iast (wz := (wMd cI cJ A (Md_set_partMost x f248))) hx hb hK hP hD hS 14 0 rfl rfl hv dX6_namesPart_248 (sc_Md_partMost _ _ _ _ _) (fun H locs hP hD hS => ?_)
                    obtain rfl := Option.some.inj hf
                    exact kg_vretW hx hb hr hlk hP hD hS dX6_namesPart_249
                  · refine lv_aload_n hx hb dX6_namesPart_198 rfl (lv_at hl 0 rfl) ?_
                    refine va_get (D := (dC, dI)) (ci := 6) (v := .ref (A 10)) (C := RX6) (T := TX6) (N := 30) hx hb hts hiX6 hown hK hP 0 rfl rfl 18 (by decide) ww8 (fun _ h9 => h9) rfl dX6_namesPart_199 ?_
                    refine lv_iload_n hx hb dX6_namesPart_202 rfl (lv_at hl 3 rfl) ?_
                    obtain ⟨g203, hv, hf⟩ := ob_bind hf
                    refine kg_iald hx hb hK hP 10 0 rfl rfl hv dX6_namesPart_203 ?_
                    refine lv_aload_n hx hb dX6_namesPart_204 rfl (lv_at hl 0 rfl) ?_
                    refine va_get (D := (dC, dI)) (ci := 6) (v := .ref (A 10)) (C := RX6) (T := TX6) (N := 30) hx hb hts hiX6 hown hK hP 0 rfl rfl 18 (by decide) ww8 (fun _ h9 => h9) rfl dX6_namesPart_205 ?_
                    refine lv_iload_n hx hb dX6_namesPart_208 rfl (lv_at hl 1 rfl) ?_
                    obtain ⟨g209, hv, hf⟩ := ob_bind hf
                    refine kg_iald hx hb hK hP 10 0 rfl rfl hv dX6_namesPart_209 ?_
                    refine kg_icmp_ne (tgt := 220) hx hb hf dX6_namesPart_210 (by decide) (fun hc hf => ?_) (fun hc hf => ?_)
                    · refine lv_iinc (v := (v3 + 1)) (lv' := [(3, .int (v3 + 1)), (0, .ref (A 0)), (1, .int v1), (2, .int v2)]) hx hb dX6_namesPart_220 hl (k := 3) rfl rfl (by decide) rfl (fun ls hl => ?_)
                      refine lv_goto (tgt := 193) hx hb dX6_namesPart_223 (by decide) ?_
                      obtain rfl := Option.some.inj hf
                      exact ih1 x (v3 + 1) hk1 _ _ _ hP hD hS (lv_sub hl [1, 2, 3, 0] rfl)
                    · refine lv_aload_n hx hb dX6_namesPart_213 rfl (lv_at hl 0 rfl) ?_
                      refine va_get (D := (dC, dI)) (ci := 6) (v := .ref (A 11)) (C := RX6) (T := TX6) (N := 30) hx hb hts hiX6 hown hK hP 0 rfl rfl 21 (by decide) ww0 (fun _ h9 => h9) rfl dX6_namesPart_214 ?_
                      refine lv_iload_n hx hb dX6_namesPart_217 rfl (lv_at hl 3 rfl) ?_
                      refine lv_iload_n hx hb dX6_namesPart_218 rfl (lv_at hl 2 rfl) ?_
                      obtain ⟨f219, hv, hf⟩ := ob_bind hf
                      refine kg_iast (wz := (wMd cI cJ A (Md_set_partName x f219))) hx hb hK hP hD hS 11 0 rfl rfl hv dX6_namesPart_219 (sc_Md_partName _ _ _ _ _) (fun H locs hP hD hS => ?_)
                      refine lv_iinc (v := (v3 + 1)) (lv' := [(3, .int (v3 + 1)), (0, .ref (A 0)), (1, .int v1), (2, .int v2)]) hx hb dX6_namesPart_220 hl (k := 3) rfl rfl (by decide) rfl (fun ls hl => ?_)
                      refine lv_goto (tgt := 193) hx hb dX6_namesPart_223 (by decide) ?_
                      obtain rfl := Option.some.inj hf
                      exact ih1 (Md_set_partName x f219) (v3 + 1) hk1 _ _ _ hP hD hS (lv_sub hl [1, 2, 3, 0] rfl)
              exact hlp193 v2 FU x 0 hf _ _ _ hP hD hS (lv_sub hl [1, 2, 3, 0] rfl)
            · refine lv_aload_n hx hb dX6_namesPart_133 rfl (lv_at hl 0 rfl) ?_
              refine va_get (D := (dC, dI)) (ci := 6) (v := .ref (A 10)) (C := RX6) (T := TX6) (N := 30) hx hb hts hiX6 hown hK hP 0 rfl rfl 18 (by decide) ww8 (fun _ h9 => h9) rfl dX6_namesPart_134 ?_
              refine lv_iload_n hx hb dX6_namesPart_137 rfl (lv_at hl 3 rfl) ?_
              obtain ⟨g138, hv, hf⟩ := ob_bind hf
              refine kg_iald hx hb hK hP 10 0 rfl rfl hv dX6_namesPart_138 ?_
              refine lv_aload_n hx hb dX6_namesPart_139 rfl (lv_at hl 0 rfl) ?_
              refine va_get (D := (dC, dI)) (ci := 6) (v := .ref (A 10)) (C := RX6) (T := TX6) (N := 30) hx hb hts hiX6 hown hK hP 0 rfl rfl 18 (by decide) ww8 (fun _ h9 => h9) rfl dX6_namesPart_140 ?_
              refine lv_iload_n hx hb dX6_namesPart_143 rfl (lv_at hl 1 rfl) ?_
              obtain ⟨g144, hv, hf⟩ := ob_bind hf
              refine kg_iald hx hb hK hP 10 0 rfl rfl hv dX6_namesPart_144 ?_
              refine kg_icmp_ne (tgt := 185) hx hb hf dX6_namesPart_145 (by decide) (fun hc hf => ?_) (fun hc hf => ?_)
              · refine lv_iinc (v := (v3 + 1)) (lv' := [(3, .int (v3 + 1)), (0, .ref (A 0)), (1, .int v1), (2, .int v2)]) hx hb dX6_namesPart_185 hl (k := 3) rfl rfl (by decide) rfl (fun ls hl => ?_)
                refine lv_goto (tgt := 128) hx hb dX6_namesPart_188 (by decide) ?_
                obtain rfl := Option.some.inj hf
                exact ih1 x (v3 + 1) hk1 _ _ _ hP hD hS (lv_sub hl [1, 2, 3, 0] rfl)
              · refine lv_aload_n hx hb dX6_namesPart_148 rfl (lv_at hl 0 rfl) ?_
                refine va_get (D := (dC, dI)) (ci := 6) (v := .ref (A 11)) (C := RX6) (T := TX6) (N := 30) hx hb hts hiX6 hown hK hP 0 rfl rfl 21 (by decide) ww0 (fun _ h9 => h9) rfl dX6_namesPart_149 ?_
                refine lv_iload_n hx hb dX6_namesPart_152 rfl (lv_at hl 3 rfl) ?_
                obtain ⟨g153, hv, hf⟩ := ob_bind hf
                refine kg_iald hx hb hK hP 11 0 rfl rfl hv dX6_namesPart_153 ?_
                refine lv_iload_n hx hb dX6_namesPart_154 rfl (lv_at hl 2 rfl) ?_
                refine kg_icmp_ne (tgt := 161) hx hb hf dX6_namesPart_155 (by decide) (fun hc hf => ?_) (fun hc hf => ?_)
                · refine lv_aload_n hx hb dX6_namesPart_161 rfl (lv_at hl 0 rfl) ?_
                  refine va_get (D := (dC, dI)) (ci := 6) (v := .ref (A 12)) (C := RX6) (T := TX6) (N := 30) hx hb hts hiX6 hown hK hP 0 rfl rfl 22 (by decide) ww1 (fun _ h9 => h9) rfl dX6_namesPart_162 ?_
                  refine lv_aload_n hx hb dX6_namesPart_165 rfl (lv_at hl 0 rfl) ?_
                  refine va_get (D := (dC, dI)) (ci := 6) (v := .ref (A 11)) (C := RX6) (T := TX6) (N := 30) hx hb hts hiX6 hown hK hP 0 rfl rfl 21 (by decide) ww0 (fun _ h9 => h9) rfl dX6_namesPart_166 ?_
                  refine lv_iload_n hx hb dX6_namesPart_169 rfl (lv_at hl 3 rfl) ?_
                  obtain ⟨g170, hv, hf⟩ := ob_bind hf
                  refine kg_iald hx hb hK hP 11 0 rfl rfl hv dX6_namesPart_170 ?_
                  refine lv_iload_n hx hb dX6_namesPart_171 rfl (lv_at hl 1 rfl) ?_
                  obtain ⟨f172, hv, hf⟩ := ob_bind hf
                  refine kg_iast (wz := (wMd cI cJ A (Md_set_partEnded x f172))) hx hb hK hP hD hS 12 0 rfl rfl hv dX6_namesPart_172 (sc_Md_partEnded _ _ _ _ _) (fun H locs hP hD hS => ?_)
                  refine lv_aload_n hx hb dX6_namesPart_173 rfl (lv_at hl 0 rfl) ?_
                  refine va_get (D := (dC, dI)) (ci := 6) (v := .ref (A 13)) (C := RX6) (T := TX6) (N := 30) hx hb hts hiX6 hown hK hP 0 rfl rfl 23 (by decide) ww2 (fun _ h9 => h9) rfl dX6_namesPart_174 ?_
                  refine lv_aload_n hx hb dX6_namesPart_177 rfl (lv_at hl 0 rfl) ?_
                  refine va_get (D := (dC, dI)) (ci := 6) (v := .ref (A 11)) (C := RX6) (T := TX6) (N := 30) hx hb hts hiX6 hown hK hP 0 rfl rfl 21 (by decide) ww0 (fun _ h9 => h9) rfl dX6_namesPart_178 ?_
                  refine lv_iload_n hx hb dX6_namesPart_181 rfl (lv_at hl 3 rfl) ?_
                  obtain ⟨g182, hv, hf⟩ := ob_bind hf
                  refine kg_iald hx hb hK hP 11 0 rfl rfl hv dX6_namesPart_182 ?_
                  refine lv_iload_n hx hb dX6_namesPart_183 rfl (lv_at hl 2 rfl) ?_
                  obtain ⟨f184, hv, hf⟩ := ob_bind hf
                  refine kg_iast (wz := (wMd cI cJ A (Md_set_partInto (Md_set_partEnded x f172) f184))) hx hb hK hP hD hS 13 0 rfl rfl hv dX6_namesPart_184 (sc_Md_partInto _ _ _ _ _) (fun H locs hP hD hS => ?_)
                  refine lv_iinc (v := (v3 + 1)) (lv' := [(3, .int (v3 + 1)), (0, .ref (A 0)), (1, .int v1), (2, .int v2)]) hx hb dX6_namesPart_185 hl (k := 3) rfl rfl (by decide) rfl (fun ls hl => ?_)
                  refine lv_goto (tgt := 128) hx hb dX6_namesPart_188 (by decide) ?_
                  obtain rfl := Option.some.inj hf
                  exact ih1 (Md_set_partInto (Md_set_partEnded x f172) f184) (v3 + 1) hk1 _ _ _ hP hD hS (lv_sub hl [1, 2, 3, 0] rfl)
                · refine lv_goto (tgt := 185) hx hb dX6_namesPart_158 (by decide) ?_
                  refine lv_iinc (v := (v3 + 1)) (lv' := [(3, .int (v3 + 1)), (0, .ref (A 0)), (1, .int v1), (2, .int v2)]) hx hb dX6_namesPart_185 hl (k := 3) rfl rfl (by decide) rfl (fun ls hl => ?_)
                  refine lv_goto (tgt := 128) hx hb dX6_namesPart_188 (by decide) ?_
                  obtain rfl := Option.some.inj hf
                  exact ih1 x (v3 + 1) hk1 _ _ _ hP hD hS (lv_sub hl [1, 2, 3, 0] rfl)
        exact hlp128 v2 FU x 0 hf _ _ _ hP hD hS (lv_sub hl [1, 2, 3, 0] rfl)
      · refine lv_aload_n hx hb dX6_namesPart_46 rfl (lv_at hl 0 rfl) ?_
        refine va_get (D := (dC, dI)) (ci := 6) (v := .ref (A 10)) (C := RX6) (T := TX6) (N := 30) hx hb hts hiX6 hown hK hP 0 rfl rfl 18 (by decide) ww8 (fun _ h9 => h9) rfl dX6_namesPart_47 ?_
        refine lv_iload_n hx hb dX6_namesPart_50 rfl (lv_at hl 3 rfl) ?_
        obtain ⟨g51, hv, hf⟩ := ob_bind hf
        refine kg_iald hx hb hK hP 10 0 rfl rfl hv dX6_namesPart_51 ?_
        refine lv_aload_n hx hb dX6_namesPart_52 rfl (lv_at hl 0 rfl) ?_
        refine va_get (D := (dC, dI)) (ci := 6) (v := .ref (A 10)) (C := RX6) (T := TX6) (N := 30) hx hb hts hiX6 hown hK hP 0 rfl rfl 18 (by decide) ww8 (fun _ h9 => h9) rfl dX6_namesPart_53 ?_
        refine lv_iload_n hx hb dX6_namesPart_56 rfl (lv_at hl 1 rfl) ?_
        obtain ⟨g57, hv, hf⟩ := ob_bind hf
        refine kg_iald hx hb hK hP 10 0 rfl rfl hv dX6_namesPart_57 ?_
        refine kg_icmp_eq (tgt := 64) hx hb hf dX6_namesPart_58 (by decide) (fun hc hf => ?_) (fun hc hf => ?_)
        · refine lv_aload_n hx hb dX6_namesPart_64 rfl (lv_at hl 0 rfl) ?_
          refine lv_aload_n hx hb dX6_namesPart_65 rfl (lv_at hl 0 rfl) ?_
          refine va_get (D := (dC, dI)) (ci := 6) (v := .ref (A 11)) (C := RX6) (T := TX6) (N := 30) hx hb hts hiX6 hown hK hP 0 rfl rfl 21 (by decide) ww0 (fun _ h9 => h9) rfl dX6_namesPart_66 ?_
          refine lv_iload_n hx hb dX6_namesPart_69 rfl (lv_at hl 3 rfl) ?_
          obtain ⟨g70, hv, hf⟩ := ob_bind hf
          refine kg_iald hx hb hK hP 11 0 rfl rfl hv dX6_namesPart_70 ?_
          refine lv_iload_n hx hb dX6_namesPart_71 rfl (lv_at hl 1 rfl) ?_
          refine lv_iconst (v := 1) hx hb dX6_namesPart_72 (by decide) ?_
          refine lv_iadd hx hb dX6_namesPart_73 ?_
          obtain ⟨g74, hc, hf⟩ := ob_bind hf
          have hPc : va_P (dC, dI) vwCl (wMd cI cJ A x) H := hP
          refine kg_retRi (va_runV (As := [.int g70, .int (v1 + 1)]) (rest := []) ⟨hx, hb, hml, hown, hts⟩ (c_X6_linksNamed l dC dI cI cJ A H x g70 (v1 + 1) _ hc) (cwV 2 hts (gw_V wd_21_1 wd_20_22 wd_20_23 wd_21_0 wd_1_5) rfl rfl rfl qX6_linksNamed ⟨Nat.le_of_ble_eq_true rfl, Nat.le_of_ble_eq_true rfl⟩) (kg_preVR (ci := 6) (q := (RX6, TX6, 30)) (q0 := 0) hPc hK hN rfl rfl) rfl rfl hl.1 rfl (lv_room (Nat.le_of_ble_eq_true rfl)) dX6_namesPart_74 ⟨Nat.zero_le _, Nat.zero_le _⟩) ?_
          refine lv_istore (lv' := [(4, .int g74), (0, .ref (A 0)), (1, .int v1), (2, .int v2), (3, .int v3)]) hx hb dX6_namesPart_77 hl (by decide) rfl (fun ls hl => ?_)
          refine lv_aload_n hx hb dX6_namesPart_79 rfl (lv_at hl 1 rfl) ?_
          refine lv_iload_n hx hb dX6_namesPart_80 rfl (lv_at hl 3 rfl) ?_
          refine lv_iload_n hx hb dX6_namesPart_81 rfl (lv_at hl 2 rfl) ?_
          refine lv_iconst (v := 1) hx hb dX6_namesPart_82 (by decide) ?_
          refine lv_iadd hx hb dX6_namesPart_83 ?_
          obtain ⟨g84, hc, hf⟩ := ob_bind hf
          have hPc : va_P (dC, dI) vwCl (wMd cI cJ A x) H := hP
          refine kg_retRi (va_runV (As := [.int v2, .int (v1 + 1)]) (rest := []) ⟨hx, hb, hml, hown, hts⟩ (c_X6_linksNamed l dC dI cI cJ A H x v2 (v1 + 1) _ hc) (cwV 2 hts (gw_V wd_21_1 wd_20_22 wd_20_23 wd_21_0 wd_1_5) rfl rfl rfl qX6_linksNamed ⟨Nat.le_of_ble_eq_true rfl, Nat.le_of_ble_eq_true rfl⟩) (kg_preVR (ci := 6) (q := (RX6, TX6, 30)) (q0 := 0) hPc hK hN rfl rfl) rfl rfl hl.1 rfl (lv_room (Nat.le_of_ble_eq_true rfl)) dX6_namesPart_84 ⟨Nat.zero_le _, Nat.zero_le _⟩) ?_
          refine lv_istore (lv' := [(5, .int g84), (4, .int g74), (0, .ref (A 0)), (1, .int v1), (2, .int v2), (3, .int v3)]) hx hb dX6_namesPart_87 hl (by decide) rfl (fun ls hl => ?_)
          refine lv_iload hx hb dX6_namesPart_89 (lv_at hl 1 rfl) ?_
          refine lv_iload hx hb dX6_namesPart_91 (lv_at hl 0 rfl) ?_
          refine kg_icmp_gt (tgt := 113) hx hb hf dX6_namesPart_93 (by decide) (fun hc hf => ?_) (fun hc hf => ?_)
          · exact hj113 v3 hf _ _ _ hP hD hS (lv_sub hl [2, 3, 5] rfl)
          · refine lv_iload hx hb dX6_namesPart_96 (lv_at hl 1 rfl) ?_
            refine lv_iload hx hb dX6_namesPart_98 (lv_at hl 0 rfl) ?_
            refine kg_icmp_ne (tgt := 120) hx hb hf dX6_namesPart_100 (by decide) (fun hc hf => ?_) (fun hc hf => ?_)
            · refine lv_iinc (v := (v3 + 1)) (lv' := [(3, .int (v3 + 1)), (5, .int g84), (4, .int g74), (0, .ref (A 0)), (1, .int v1), (2, .int v2)]) hx hb dX6_namesPart_120 hl (k := 5) rfl rfl (by decide) rfl (fun ls hl => ?_)
              refine lv_goto (tgt := 41) hx hb dX6_namesPart_123 (by decide) ?_
              obtain rfl := Option.some.inj hf
              exact ih1 v2 (v3 + 1) hk1 _ _ _ hP hD hS (lv_sub hl [3, 4, 5, 0] rfl)
            · refine lv_aload_n hx hb dX6_namesPart_103 rfl (lv_at hl 2 rfl) ?_
              refine va_get (D := (dC, dI)) (ci := 6) (v := .ref (A 11)) (C := RX6) (T := TX6) (N := 30) hx hb hts hiX6 hown hK hP 0 rfl rfl 21 (by decide) ww0 (fun _ h9 => h9) rfl dX6_namesPart_104 ?_
              refine lv_iload_n hx hb dX6_namesPart_107 rfl (lv_at hl 5 rfl) ?_
              obtain ⟨g108, hv, hf⟩ := ob_bind hf
              refine kg_iald hx hb hK hP 11 0 rfl rfl hv dX6_namesPart_108 ?_
              refine lv_iload_n hx hb dX6_namesPart_109 rfl (lv_at hl 4 rfl) ?_
              refine kg_icmp_ge (tgt := 120) hx hb hf dX6_namesPart_110 (by decide) (fun hc hf => ?_) (fun hc hf => ?_)
              · refine lv_iinc (v := (v3 + 1)) (lv' := [(3, .int (v3 + 1)), (5, .int g84), (4, .int g74), (0, .ref (A 0)), (1, .int v1), (2, .int v2)]) hx hb dX6_namesPart_120 hl (k := 5) rfl rfl (by decide) rfl (fun ls hl => ?_)
                refine lv_goto (tgt := 41) hx hb dX6_namesPart_123 (by decide) ?_
                obtain rfl := Option.some.inj hf
                exact ih1 v2 (v3 + 1) hk1 _ _ _ hP hD hS (lv_sub hl [3, 4, 5, 0] rfl)
              · exact hj113 v3 hf _ _ _ hP hD hS (lv_sub hl [2, 3, 5] rfl)
        · refine lv_goto (tgt := 120) hx hb dX6_namesPart_61 (by decide) ?_
          refine lv_iinc (v := (v3 + 1)) (lv' := [(3, .int (v3 + 1)), (0, .ref (A 0)), (1, .int v1), (2, .int v2)]) hx hb dX6_namesPart_120 hl (k := 3) rfl rfl (by decide) rfl (fun ls hl => ?_)
          refine lv_goto (tgt := 41) hx hb dX6_namesPart_123 (by decide) ?_
          obtain rfl := Option.some.inj hf
          exact ih1 v2 (v3 + 1) hk1 _ _ _ hP hD hS (lv_sub hl [1, 2, 3, 0] rfl)
  exact hlp41 (Md_set_partMost (Md_set_partInto (Md_set_partEnded (Md_set_partName g6 f15) f22) f29) f36) FU v1 0 hf _ _ _ hP hD hS (lv_sub hl [2, 3, 1, 0] rfl)
set_option maxHeartbeats 4000000 in
set_option maxRecDepth 100000 in
theorem c_X6_runsParts (l : Launch) (dC : Nat → ClassId) (dI : Nat → Nat → Nat) (cI cJ : ClassId) (A : Nat → Nat) (hq : Nat) (x : MdS) (r0 : MdS) (hf : Md_m_runsParts x = some r0) : MWv l yX6_runsParts (wAll yX6_runsParts cX6_runsParts 1 none) ({ frames := 5, cells := 0, slots := 0, locals := 144 } : Room) [.ref (A 0)] hq (dC, dI) (vTy cI cJ) (wMd cI cJ A x) (wMd cI cJ A r0) := by
  refine kg_metW (Qc := fun Q => QWv (dC, dI) Q (wMd cI cJ A r0)) (cc := cX6_runsParts) (maxL := 1) (ret := none) (by decide) rfl (Nat.le_of_ble_eq_true rfl) ?_
  intro p e s m args below meth c Q hx hb hr hts hown hlk hml hP hK hN hD hA hS ls hl
  have hl : lv_has ls 1 [(0, .ref (A 0))] := hl
  have ww0 := hts (.fieldLink RX6 47 "SafeBlocksModel" "partRun" "I") (List.mem_cons_of_mem _ wd_8_11)
  have ww1 := hts (.fieldLink RX6 78 "SafeBlocksModel" "m" "I") (List.mem_cons_of_mem _ wd_9_6)
  have hiX6 : ∀ w ∈ u_ws RX6 TX6 30, w ∈ wAll yX6_runsParts cX6_runsParts 1 none := fun w h => List.mem_cons_of_mem _ (inlX6 w h)
  suffices hgo : ∀ (H : Heap) (locs : List Loc), va_P (dC, dI) vwCl (wMd cI cJ A x) H → va_S Q s.heap H locs → W p l e ({ frames := 5, cells := 0, slots := 0, locals := 144 } : Room) s m args below meth c H locs 0 0 (MQ below (QWv (dC, dI) Q (wMd cI cJ A r0)) args s 0 0 Q) (F0 m 0 ls []) from hgo _ _ hP hS
  clear hP hS
  intro H locs hP hS
  unfold Md_m_runsParts at hf
  have hj19 : ∀ (x : MdS), Md_m_runsParts_j19 x = some r0 → ∀ (H : Heap) (locs : List Loc) (ls : Array Slot), va_P (dC, dI) vwCl (wMd cI cJ A x) H → va_D Q (wMd cI cJ A x) → va_S Q s.heap H locs → lv_has ls 1 [(0, .ref (A 0))] → W p l e ({ frames := 5, cells := 0, slots := 0, locals := 144 } : Room) s m args below meth c H locs 0 0 (MQ below (QWv (dC, dI) Q (wMd cI cJ A r0)) args s 0 0 Q) (F0 m 19 ls []) := by
    intro x hf H locs ls hP hD hS hl
    unfold Md_m_runsParts_j19 at hf
    refine lv_aload_n hx hb dX6_runsParts_19 rfl (lv_at hl 0 rfl) ?_
    refine lv_iconst (v := 0) hx hb dX6_runsParts_20 (by decide) ?_
    refine kg_put (ci := 6) (v := .int 0) (ty := .int) (C := RX6) (T := TX6) (N := 30) (wz := (wMd cI cJ A (Md_set_partRun x 0))) hx hb hts hiX6 tyX6 tyX6_ok nmX6 hown hK hP hD hS 0 rfl rfl 20 (by decide) ww0 (fun _ h9 => h9) rfl (tyX6_ok 20 (by decide)) rfl rfl (Nat.le_of_ble_eq_true rfl) dX6_runsParts_21 (sc_Md_partRun _ _ _ _ _) (fun H locs hP hD hS => ?_)
    have hlp24 : ∀ (n : Nat) (x : MdS), iter (fun p : MdS => Md_m_runsParts_s24 p) n (x) = some r0 → ∀ (H : Heap) (locs : List Loc) (ls : Array Slot), va_P (dC, dI) vwCl (wMd cI cJ A x) H → va_D Q (wMd cI cJ A x) → va_S Q s.heap H locs → lv_has ls 1 [(0, .ref (A 0))] → W p l e ({ frames := 5, cells := 0, slots := 0, locals := 144 } : Room) s m args below meth c H locs 0 0 (MQ below (QWv (dC, dI) Q (wMd cI cJ A r0)) args s 0 0 Q) (F0 m 24 ls []) := by
      intro  n
      induction n with
      | zero => intro x hf; exact iter_zero hf
      | succ n ih1 =>
        intro x hf H locs ls hP hD hS hl
        obtain ⟨q1, hf, hk1⟩ := iter_succ hf
        have hf : Md_m_runsParts_s24 x = some q1 := hf
        unfold Md_m_runsParts_s24 at hf
        refine lv_aload_n hx hb dX6_runsParts_24 rfl (lv_at hl 0 rfl) ?_
        refine va_get (D := (dC, dI)) (ci := 6) (v := .int (Md_partRun x)) (C := RX6) (T := TX6) (N := 30) hx hb hts hiX6 hown hK hP 0 rfl rfl 20 (by decide) ww0 (fun _ h9 => h9) rfl dX6_runsParts_25 ?_
        refine lv_aload_n hx hb dX6_runsParts_28 rfl (lv_at hl 0 rfl) ?_
        refine va_get (D := (dC, dI)) (ci := 6) (v := .int (Md_m x)) (C := RX6) (T := TX6) (N := 30) hx hb hts hiX6 hown hK hP 0 rfl rfl 2 (by decide) ww1 (fun _ h9 => h9) rfl dX6_runsParts_29 ?_
        refine kg_icmp_ge (tgt := 56) hx hb hf dX6_runsParts_32 (by decide) (fun hc hf => ?_) (fun hc hf => ?_)
        · obtain ⟨qq, hf, hqq⟩ := omap_some hf
          have hkq : qq = r0 := by rw [← hqq] at hk1; exact hk1
          rw [hkq] at hf
          clear hkq hqq
          obtain rfl := Option.some.inj hf
          exact kg_vretW hx hb hr hlk hP hD hS dX6_runsParts_56
        · refine lv_aload_n hx hb dX6_runsParts_35 rfl (lv_at hl 0 rfl) ?_
          refine lv_aload_n hx hb dX6_runsParts_36 rfl (lv_at hl 0 rfl) ?_
          refine va_get (D := (dC, dI)) (ci := 6) (v := .int (Md_partRun x)) (C := RX6) (T := TX6) (N := 30) hx hb hts hiX6 hown hK hP 0 rfl rfl 20 (by decide) ww0 (fun _ h9 => h9) rfl dX6_runsParts_37 ?_
          obtain ⟨g40, hc, hf⟩ := ob_bind hf
          have hPx := kg_eqP (kg_slf _) hP
          have hDx := kg_eqD (kg_slf _) hD
          refine kg_retWv (pre := ([] : va_W)) (wc := wMd cI cJ A x) (post := ([] : va_W)) (w1 := wMd cI cJ A g40) (wz := (wMd cI cJ A g40)) (kg_slf _).symm hPx hDx hS hA (va_runV (As := [.int (Md_partRun x)]) (rest := []) ⟨hx, hb, hml, hown, hts⟩ (c_X6_namesPart l dC dI cI cJ A H.size x (Md_partRun x) _ hc) (cwV 1 hts (gw_V wd_20_21 wd_20_18 wd_20_19 wd_20_20 wd_1_5) rfl rfl rfl qX6_namesPart ⟨Nat.le_of_ble_eq_true rfl, Nat.le_of_ble_eq_true rfl⟩) (kg_preVW (ci := 6) (q := (RX6, TX6, 30)) (q0 := 0) (kg_cutP hPx) (kg_cutD hDx) hK hN rfl rfl) rfl rfl hl.1 rfl (lv_room (Nat.le_of_ble_eq_true rfl)) dX6_runsParts_40 ⟨Nat.zero_le _, Nat.zero_le _⟩) (fun H locs hP hD hS => ?_)
          refine lv_aload_n hx hb dX6_runsParts_43 rfl (lv_at hl 0 rfl) ?_
          refine lv_aload_n hx hb dX6_runsParts_44 rfl (lv_at hl 0 rfl) ?_
          refine va_get (D := (dC, dI)) (ci := 6) (v := .int (Md_partRun g40)) (C := RX6) (T := TX6) (N := 30) hx hb hts hiX6 hown hK hP 0 rfl rfl 20 (by decide) ww0 (fun _ h9 => h9) rfl dX6_runsParts_45 ?_
          refine lv_iconst (v := 1) hx hb dX6_runsParts_48 (by decide) ?_
          refine lv_iadd hx hb dX6_runsParts_49 ?_
          refine kg_put (ci := 6) (v := .int ((Md_partRun g40) + 1)) (ty := .int) (C := RX6) (T := TX6) (N := 30) (wz := (wMd cI cJ A (Md_set_partRun g40 ((Md_partRun g40) + 1)))) hx hb hts hiX6 tyX6 tyX6_ok nmX6 hown hK hP hD hS 0 rfl rfl 20 (by decide) ww0 (fun _ h9 => h9) rfl (tyX6_ok 20 (by decide)) rfl rfl (Nat.le_of_ble_eq_true rfl) dX6_runsParts_50 (sc_Md_partRun _ _ _ _ _) (fun H locs hP hD hS => ?_)
          refine lv_goto (tgt := 24) hx hb dX6_runsParts_53 (by decide) ?_
          obtain rfl := Option.some.inj hf
          exact ih1 (Md_set_partRun g40 ((Md_partRun g40) + 1)) hk1 _ _ _ hP hD hS (lv_sub hl [0] rfl)
    exact hlp24  FU (Md_set_partRun x 0) hf _ _ _ hP hD hS (lv_sub hl [0] rfl)
  refine lv_aload_n hx hb dX6_runsParts_0 rfl (lv_at hl 0 rfl) ?_
  refine va_get (D := (dC, dI)) (ci := 6) (v := .int (Md_partRun x)) (C := RX6) (T := TX6) (N := 30) hx hb hts hiX6 hown hK hP 0 rfl rfl 20 (by decide) ww0 (fun _ h9 => h9) rfl dX6_runsParts_1 ?_
  refine lv_iconst (v := (-1)) hx hb dX6_runsParts_4 (by decide) ?_
  refine kg_icmp_eq (tgt := 19) hx hb hf dX6_runsParts_5 (by decide) (fun hc hf => ?_) (fun hc hf => ?_)
  · exact hj19 x hf _ _ _ hP hD hS (lv_sub hl [0] rfl)
  · refine lv_aload_n hx hb dX6_runsParts_8 rfl (lv_at hl 0 rfl) ?_
    refine va_get (D := (dC, dI)) (ci := 6) (v := .int (Md_partRun x)) (C := RX6) (T := TX6) (N := 30) hx hb hts hiX6 hown hK hP 0 rfl rfl 20 (by decide) ww0 (fun _ h9 => h9) rfl dX6_runsParts_9 ?_
    refine lv_aload_n hx hb dX6_runsParts_12 rfl (lv_at hl 0 rfl) ?_
    refine va_get (D := (dC, dI)) (ci := 6) (v := .int (Md_m x)) (C := RX6) (T := TX6) (N := 30) hx hb hts hiX6 hown hK hP 0 rfl rfl 2 (by decide) ww1 (fun _ h9 => h9) rfl dX6_runsParts_13 ?_
    refine kg_icmp_le (tgt := 24) hx hb hf dX6_runsParts_16 (by decide) (fun hc hf => ?_) (fun hc hf => ?_)
    · have hlp24 : ∀ (n : Nat) (x : MdS), iter (fun p : MdS => Md_m_runsParts_s24 p) n (x) = some r0 → ∀ (H : Heap) (locs : List Loc) (ls : Array Slot), va_P (dC, dI) vwCl (wMd cI cJ A x) H → va_D Q (wMd cI cJ A x) → va_S Q s.heap H locs → lv_has ls 1 [(0, .ref (A 0))] → W p l e ({ frames := 5, cells := 0, slots := 0, locals := 144 } : Room) s m args below meth c H locs 0 0 (MQ below (QWv (dC, dI) Q (wMd cI cJ A r0)) args s 0 0 Q) (F0 m 24 ls []) := by
        intro  n
        induction n with
        | zero => intro x hf; exact iter_zero hf
        | succ n ih1 =>
          intro x hf H locs ls hP hD hS hl
          obtain ⟨q1, hf, hk1⟩ := iter_succ hf
          have hf : Md_m_runsParts_s24 x = some q1 := hf
          unfold Md_m_runsParts_s24 at hf
          refine lv_aload_n hx hb dX6_runsParts_24 rfl (lv_at hl 0 rfl) ?_
          refine va_get (D := (dC, dI)) (ci := 6) (v := .int (Md_partRun x)) (C := RX6) (T := TX6) (N := 30) hx hb hts hiX6 hown hK hP 0 rfl rfl 20 (by decide) ww0 (fun _ h9 => h9) rfl dX6_runsParts_25 ?_
          refine lv_aload_n hx hb dX6_runsParts_28 rfl (lv_at hl 0 rfl) ?_
          refine va_get (D := (dC, dI)) (ci := 6) (v := .int (Md_m x)) (C := RX6) (T := TX6) (N := 30) hx hb hts hiX6 hown hK hP 0 rfl rfl 2 (by decide) ww1 (fun _ h9 => h9) rfl dX6_runsParts_29 ?_
          refine kg_icmp_ge (tgt := 56) hx hb hf dX6_runsParts_32 (by decide) (fun hc hf => ?_) (fun hc hf => ?_)
          · obtain ⟨qq, hf, hqq⟩ := omap_some hf
            have hkq : qq = r0 := by rw [← hqq] at hk1; exact hk1
            rw [hkq] at hf
            clear hkq hqq
            obtain rfl := Option.some.inj hf
            exact kg_vretW hx hb hr hlk hP hD hS dX6_runsParts_56
          · refine lv_aload_n hx hb dX6_runsParts_35 rfl (lv_at hl 0 rfl) ?_
            refine lv_aload_n hx hb dX6_runsParts_36 rfl (lv_at hl 0 rfl) ?_
            refine va_get (D := (dC, dI)) (ci := 6) (v := .int (Md_partRun x)) (C := RX6) (T := TX6) (N := 30) hx hb hts hiX6 hown hK hP 0 rfl rfl 20 (by decide) ww0 (fun _ h9 => h9) rfl dX6_runsParts_37 ?_
            obtain ⟨g40, hc, hf⟩ := ob_bind hf
            have hPx := kg_eqP (kg_slf _) hP
            have hDx := kg_eqD (kg_slf _) hD
            refine kg_retWv (pre := ([] : va_W)) (wc := wMd cI cJ A x) (post := ([] : va_W)) (w1 := wMd cI cJ A g40) (wz := (wMd cI cJ A g40)) (kg_slf _).symm hPx hDx hS hA (va_runV (As := [.int (Md_partRun x)]) (rest := []) ⟨hx, hb, hml, hown, hts⟩ (c_X6_namesPart l dC dI cI cJ A H.size x (Md_partRun x) _ hc) (cwV 1 hts (gw_V wd_20_21 wd_20_18 wd_20_19 wd_20_20 wd_1_5) rfl rfl rfl qX6_namesPart ⟨Nat.le_of_ble_eq_true rfl, Nat.le_of_ble_eq_true rfl⟩) (kg_preVW (ci := 6) (q := (RX6, TX6, 30)) (q0 := 0) (kg_cutP hPx) (kg_cutD hDx) hK hN rfl rfl) rfl rfl hl.1 rfl (lv_room (Nat.le_of_ble_eq_true rfl)) dX6_runsParts_40 ⟨Nat.zero_le _, Nat.zero_le _⟩) (fun H locs hP hD hS => ?_)
            refine lv_aload_n hx hb dX6_runsParts_43 rfl (lv_at hl 0 rfl) ?_
            refine lv_aload_n hx hb dX6_runsParts_44 rfl (lv_at hl 0 rfl) ?_
            refine va_get (D := (dC, dI)) (ci := 6) (v := .int (Md_partRun g40)) (C := RX6) (T := TX6) (N := 30) hx hb hts hiX6 hown hK hP 0 rfl rfl 20 (by decide) ww0 (fun _ h9 => h9) rfl dX6_runsParts_45 ?_
            refine lv_iconst (v := 1) hx hb dX6_runsParts_48 (by decide) ?_
            refine lv_iadd hx hb dX6_runsParts_49 ?_
            refine kg_put (ci := 6) (v := .int ((Md_partRun g40) + 1)) (ty := .int) (C := RX6) (T := TX6) (N := 30) (wz := (wMd cI cJ A (Md_set_partRun g40 ((Md_partRun g40) + 1)))) hx hb hts hiX6 tyX6 tyX6_ok nmX6 hown hK hP hD hS 0 rfl rfl 20 (by decide) ww0 (fun _ h9 => h9) rfl (tyX6_ok 20 (by decide)) rfl rfl (Nat.le_of_ble_eq_true rfl) dX6_runsParts_50 (sc_Md_partRun _ _ _ _ _) (fun H locs hP hD hS => ?_)
            refine lv_goto (tgt := 24) hx hb dX6_runsParts_53 (by decide) ?_
            obtain rfl := Option.some.inj hf
            exact ih1 (Md_set_partRun g40 ((Md_partRun g40) + 1)) hk1 _ _ _ hP hD hS (lv_sub hl [0] rfl)
      exact hlp24  FU x hf _ _ _ hP hD hS (lv_sub hl [0] rfl)
    · exact hj19 x hf _ _ _ hP hD hS (lv_sub hl [0] rfl)
set_option maxHeartbeats 4000000 in
set_option maxRecDepth 100000 in
theorem c_X6_storyOfPart (l : Launch) (dC : Nat → ClassId) (dI : Nat → Nat → Nat) (cI cJ : ClassId) (A : Nat → Nat) (hq : Nat) (x : MdS) (v1 : Int32) (v2 : Int32) (r0 : (Int32 × MdS)) (hf : Md_m_storyOfPart x v1 v2 = some r0) : MWi l yX6_storyOfPart (wAll yX6_storyOfPart cX6_storyOfPart 4 (some .int)) ({ frames := 6, cells := 0, slots := 0, locals := 164 } : Room) [.ref (A 0), .int v1, .int v2] hq (dC, dI) (vTy cI cJ) (wMd cI cJ A x) (wMd cI cJ A r0.2) r0.1 := by
  refine kg_metW (Qc := fun Q => QWi (dC, dI) Q (wMd cI cJ A r0.2) r0.1) (cc := cX6_storyOfPart) (maxL := 4) (ret := (some .int)) (by decide) rfl (Nat.le_of_ble_eq_true rfl) ?_
  intro p e s m args below meth c Q hx hb hr hts hown hlk hml hP hK hN hD hA hS ls hl
  have hl : lv_has ls 4 [(0, .ref (A 0)), (1, .int v1), (2, .int v2)] := hl
  have ww0 := hts (.fieldLink RX6 56 "SafeBlocksModel" "partInto" "[I") (List.mem_cons_of_mem _ wd_8_14)
  have ww1 := hts (.fieldLink RX6 53 "SafeBlocksModel" "partEnded" "[I") (List.mem_cons_of_mem _ wd_8_13)
  have ww2 := hts (.fieldLink RX6 59 "SafeBlocksModel" "partMost" "[I") (List.mem_cons_of_mem _ wd_8_15)
  have hiX6 : ∀ w ∈ u_ws RX6 TX6 30, w ∈ wAll yX6_storyOfPart cX6_storyOfPart 4 (some .int) := fun w h => List.mem_cons_of_mem _ (inlX6 w h)
  suffices hgo : ∀ (H : Heap) (locs : List Loc), va_P (dC, dI) vwCl (wMd cI cJ A x) H → va_S Q s.heap H locs → W p l e ({ frames := 6, cells := 0, slots := 0, locals := 164 } : Room) s m args below meth c H locs 0 0 (MQ below (QWi (dC, dI) Q (wMd cI cJ A r0.2) r0.1) args s 0 0 Q) (F0 m 0 ls []) from hgo _ _ hP hS
  clear hP hS
  intro H locs hP hS
  unfold Md_m_storyOfPart at hf
  refine lv_aload_n hx hb dX6_storyOfPart_0 rfl (lv_at hl 0 rfl) ?_
  refine lv_iload_n hx hb dX6_storyOfPart_1 rfl (lv_at hl 1 rfl) ?_
  obtain ⟨g2, hc, hf⟩ := ob_bind hf
  have hPc : va_P (dC, dI) vwCl (wMd cI cJ A x) H := hP
  refine kg_retRi (va_runV (As := [.int v1]) (rest := []) ⟨hx, hb, hml, hown, hts⟩ (c_X6_isLink l dC dI cI cJ A H x v1 _ hc) (cwV 1 hts (gw_V wd_18_17 wd_18_14 wd_18_15 wd_18_16 wd_1_5) rfl rfl rfl qX6_isLink ⟨Nat.le_of_ble_eq_true rfl, Nat.le_of_ble_eq_true rfl⟩) (kg_preVR (ci := 6) (q := (RX6, TX6, 30)) (q0 := 0) hPc hK hN rfl rfl) rfl rfl hl.1 rfl (lv_room (Nat.le_of_ble_eq_true rfl)) dX6_storyOfPart_2 ⟨Nat.zero_le _, Nat.zero_le _⟩) ?_
  refine kg_b_ne (tgt := 10) hx hb hf dX6_storyOfPart_5 (by decide) (fun hc hf => ?_) (fun hc hf => ?_)
  · refine lv_aload_n hx hb dX6_storyOfPart_10 rfl (lv_at hl 0 rfl) ?_
    obtain ⟨g11, hc, hf⟩ := ob_bind hf
    have hPx := kg_eqP (kg_slf _) hP
    have hDx := kg_eqD (kg_slf _) hD
    refine kg_retWv (pre := ([] : va_W)) (wc := wMd cI cJ A x) (post := ([] : va_W)) (w1 := wMd cI cJ A g11) (wz := (wMd cI cJ A g11)) (kg_slf _).symm hPx hDx hS hA (va_runV (As := []) (rest := []) ⟨hx, hb, hml, hown, hts⟩ (c_X6_runsParts l dC dI cI cJ A H.size x _ hc) (cwV 0 hts (gw_V wd_20_17 wd_20_14 wd_20_15 wd_20_16 wd_1_5) rfl rfl rfl qX6_runsParts ⟨Nat.le_of_ble_eq_true rfl, Nat.le_of_ble_eq_true rfl⟩) (kg_preVW (ci := 6) (q := (RX6, TX6, 30)) (q0 := 0) (kg_cutP hPx) (kg_cutD hDx) hK hN rfl rfl) rfl rfl hl.1 rfl (lv_room (Nat.le_of_ble_eq_true rfl)) dX6_storyOfPart_11 ⟨Nat.zero_le _, Nat.zero_le _⟩) (fun H locs hP hD hS => ?_)
    refine lv_iload_n hx hb dX6_storyOfPart_14 rfl (lv_at hl 1 rfl) ?_
    refine lv_istore_n (lv' := [(3, .int v1), (0, .ref (A 0)), (1, .int v1), (2, .int v2)]) hx hb dX6_storyOfPart_15 rfl hl (by decide) rfl (fun ls hl => ?_)
    have hlp16 : ∀ (x : MdS), ∀ (n : Nat) (v3 : Int32), iter (fun p : Int32 => Md_m_storyOfPart_s16 x v1 v2 p) n (v3) = some r0 → ∀ (H : Heap) (locs : List Loc) (ls : Array Slot), va_P (dC, dI) vwCl (wMd cI cJ A x) H → va_D Q (wMd cI cJ A x) → va_S Q s.heap H locs → lv_has ls 4 [(0, .ref (A 0)), (1, .int v1), (2, .int v2), (3, .int v3)] → W p l e ({ frames := 6, cells := 0, slots := 0, locals := 164 } : Room) s m args below meth c H locs 0 0 (MQ below (QWi (dC, dI) Q (wMd cI cJ A r0.2) r0.1) args s 0 0 Q) (F0 m 16 ls []) := by
      intro x n
      induction n with
      | zero => intro v3 hf; exact iter_zero hf
      | succ n ih1 =>
        intro v3 hf H locs ls hP hD hS hl
        obtain ⟨q1, hf, hk1⟩ := iter_succ hf
        have hf : Md_m_storyOfPart_s16 x v1 v2 v3 = some q1 := hf
        unfold Md_m_storyOfPart_s16 at hf
        refine lv_aload_n hx hb dX6_storyOfPart_16 rfl (lv_at hl 0 rfl) ?_
        refine va_get (D := (dC, dI)) (ci := 6) (v := .ref (A 13)) (C := RX6) (T := TX6) (N := 30) hx hb hts hiX6 hown hK hP 0 rfl rfl 23 (by decide) ww0 (fun _ h9 => h9) rfl dX6_storyOfPart_17 ?_
        refine lv_iload_n hx hb dX6_storyOfPart_20 rfl (lv_at hl 3 rfl) ?_
        obtain ⟨g21, hv, hf⟩ := ob_bind hf
        refine kg_iald hx hb hK hP 13 0 rfl rfl hv dX6_storyOfPart_21 ?_
        refine lv_iconst (v := (-1)) hx hb dX6_storyOfPart_22 (by decide) ?_
        refine kg_icmp_eq (tgt := 36) hx hb hf dX6_storyOfPart_23 (by decide) (fun hc hf => ?_) (fun hc hf => ?_)
        · obtain ⟨qq, hf, hqq⟩ := omap_some hf
          have hkq : qq = r0 := by rw [← hqq] at hk1; exact hk1
          rw [hkq] at hf
          clear hkq hqq
          refine lv_iload_n hx hb dX6_storyOfPart_36 rfl (lv_at hl 2 rfl) ?_
          by_cases hc0 : v2 = 0
          · rw [if_pos hc0] at hf
            refine lv_tableIn (tgt := 68) (off := 31) hx hb dX6_storyOfPart_37 (by rw [hc0]; decide) (by rw [hc0]; decide) (by rw [hc0]; rfl) (by decide) ?_
            refine lv_aload_n hx hb dX6_storyOfPart_68 rfl (lv_at hl 0 rfl) ?_
            refine va_get (D := (dC, dI)) (ci := 6) (v := .ref (A 12)) (C := RX6) (T := TX6) (N := 30) hx hb hts hiX6 hown hK hP 0 rfl rfl 22 (by decide) ww1 (fun _ h9 => h9) rfl dX6_storyOfPart_69 ?_
            refine lv_iload_n hx hb dX6_storyOfPart_72 rfl (lv_at hl 1 rfl) ?_
            obtain ⟨g73, hv, hf⟩ := ob_bind hf
            refine kg_iald hx hb hK hP 12 0 rfl rfl hv dX6_storyOfPart_73 ?_
            refine lv_iconst (v := (-1)) hx hb dX6_storyOfPart_74 (by decide) ?_
            refine kg_icmp_ne (tgt := 82) hx hb hf dX6_storyOfPart_75 (by decide) (fun hc hf => ?_) (fun hc hf => ?_)
            · refine lv_iconst (v := 0) hx hb dX6_storyOfPart_82 (by decide) ?_
              obtain rfl := Option.some.inj hf
              exact kg_iretW hx hb hr hlk rfl hP hD hS dX6_storyOfPart_83
            · refine lv_iconst (v := 1) hx hb dX6_storyOfPart_78 (by decide) ?_
              refine lv_goto (tgt := 83) hx hb dX6_storyOfPart_79 (by decide) ?_
              obtain rfl := Option.some.inj hf
              exact kg_iretW hx hb hr hlk rfl hP hD hS dX6_storyOfPart_83
          · rw [if_neg hc0] at hf
            by_cases hc1 : v2 = 1
            · rw [if_pos hc1] at hf
              refine lv_tableIn (tgt := 84) (off := 47) hx hb dX6_storyOfPart_37 (by rw [hc1]; decide) (by rw [hc1]; decide) (by rw [hc1]; rfl) (by decide) ?_
              refine lv_aload_n hx hb dX6_storyOfPart_84 rfl (lv_at hl 0 rfl) ?_
              refine va_get (D := (dC, dI)) (ci := 6) (v := .ref (A 12)) (C := RX6) (T := TX6) (N := 30) hx hb hts hiX6 hown hK hP 0 rfl rfl 22 (by decide) ww1 (fun _ h9 => h9) rfl dX6_storyOfPart_85 ?_
              refine lv_iload_n hx hb dX6_storyOfPart_88 rfl (lv_at hl 1 rfl) ?_
              obtain ⟨g89, hv, hf⟩ := ob_bind hf
              refine kg_iald hx hb hK hP 12 0 rfl rfl hv dX6_storyOfPart_89 ?_
              obtain rfl := Option.some.inj hf
              exact kg_iretW hx hb hr hlk rfl hP hD hS dX6_storyOfPart_90
            · rw [if_neg hc1] at hf
              by_cases hc2 : v2 = 2
              · rw [if_pos hc2] at hf
                refine lv_tableIn (tgt := 91) (off := 54) hx hb dX6_storyOfPart_37 (by rw [hc2]; decide) (by rw [hc2]; decide) (by rw [hc2]; rfl) (by decide) ?_
                refine lv_aload_n hx hb dX6_storyOfPart_91 rfl (lv_at hl 0 rfl) ?_
                refine va_get (D := (dC, dI)) (ci := 6) (v := .ref (A 13)) (C := RX6) (T := TX6) (N := 30) hx hb hts hiX6 hown hK hP 0 rfl rfl 23 (by decide) ww0 (fun _ h9 => h9) rfl dX6_storyOfPart_92 ?_
                refine lv_iload_n hx hb dX6_storyOfPart_95 rfl (lv_at hl 1 rfl) ?_
                obtain ⟨g96, hv, hf⟩ := ob_bind hf
                refine kg_iald hx hb hK hP 13 0 rfl rfl hv dX6_storyOfPart_96 ?_
                obtain rfl := Option.some.inj hf
                exact kg_iretW hx hb hr hlk rfl hP hD hS dX6_storyOfPart_97
              · rw [if_neg hc2] at hf
                by_cases hc3 : v2 = 3
                · rw [if_pos hc3] at hf
                  refine lv_tableIn (tgt := 98) (off := 61) hx hb dX6_storyOfPart_37 (by rw [hc3]; decide) (by rw [hc3]; decide) (by rw [hc3]; rfl) (by decide) ?_
                  refine lv_aload_n hx hb dX6_storyOfPart_98 rfl (lv_at hl 0 rfl) ?_
                  refine va_get (D := (dC, dI)) (ci := 6) (v := .ref (A 14)) (C := RX6) (T := TX6) (N := 30) hx hb hts hiX6 hown hK hP 0 rfl rfl 24 (by decide) ww2 (fun _ h9 => h9) rfl dX6_storyOfPart_99 ?_
                  refine lv_iload_n hx hb dX6_storyOfPart_102 rfl (lv_at hl 1 rfl) ?_
                  obtain ⟨g103, hv, hf⟩ := ob_bind hf
                  refine kg_iald hx hb hK hP 14 0 rfl rfl hv dX6_storyOfPart_103 ?_
                  obtain rfl := Option.some.inj hf
                  exact kg_iretW hx hb hr hlk rfl hP hD hS dX6_storyOfPart_104
                · rw [if_neg hc3] at hf
                  have ehc0 := ne_toInt hc0 (k := 0) (by decide)
                  have ehc1 := ne_toInt hc1 (k := 1) (by decide)
                  have ehc2 := ne_toInt hc2 (k := 2) (by decide)
                  have ehc3 := ne_toInt hc3 (k := 3) (by decide)
                  refine lv_tableOut (tgt := 105) hx hb dX6_storyOfPart_37 (by omega) (by decide) ?_
                  refine lv_iload_n hx hb dX6_storyOfPart_105 rfl (lv_at hl 2 rfl) ?_
                  refine lv_iconst (v := 4) hx hb dX6_storyOfPart_106 (by decide) ?_
                  refine kg_icmp_ne (tgt := 114) hx hb hf dX6_storyOfPart_107 (by decide) (fun hc hf => ?_) (fun hc hf => ?_)
                  · refine lv_iconst (v := (-1)) hx hb dX6_storyOfPart_114 (by decide) ?_
                    obtain rfl := Option.some.inj hf
                    exact kg_iretW hx hb hr hlk rfl hP hD hS dX6_storyOfPart_115
                  · refine lv_iload_n hx hb dX6_storyOfPart_110 rfl (lv_at hl 3 rfl) ?_
                    refine lv_goto (tgt := 115) hx hb dX6_storyOfPart_111 (by decide) ?_
                    obtain rfl := Option.some.inj hf
                    exact kg_iretW hx hb hr hlk rfl hP hD hS dX6_storyOfPart_115
        · refine lv_aload_n hx hb dX6_storyOfPart_26 rfl (lv_at hl 0 rfl) ?_
          refine va_get (D := (dC, dI)) (ci := 6) (v := .ref (A 13)) (C := RX6) (T := TX6) (N := 30) hx hb hts hiX6 hown hK hP 0 rfl rfl 23 (by decide) ww0 (fun _ h9 => h9) rfl dX6_storyOfPart_27 ?_
          refine lv_iload_n hx hb dX6_storyOfPart_30 rfl (lv_at hl 3 rfl) ?_
          obtain ⟨g31, hv, hf⟩ := ob_bind hf
          refine kg_iald hx hb hK hP 13 0 rfl rfl hv dX6_storyOfPart_31 ?_
          refine lv_istore_n (lv' := [(3, .int g31), (0, .ref (A 0)), (1, .int v1), (2, .int v2)]) hx hb dX6_storyOfPart_32 rfl hl (by decide) rfl (fun ls hl => ?_)
          refine lv_goto (tgt := 16) hx hb dX6_storyOfPart_33 (by decide) ?_
          obtain rfl := Option.some.inj hf
          exact ih1 g31 hk1 _ _ _ hP hD hS (lv_sub hl [1, 2, 3, 0] rfl)
    exact hlp16 g11 FU v1 hf _ _ _ hP hD hS (lv_sub hl [1, 2, 3, 0] rfl)
  · refine lv_iconst (v := (-1)) hx hb dX6_storyOfPart_8 (by decide) ?_
    obtain rfl := Option.some.inj hf
    exact kg_iretW hx hb hr hlk rfl hP hD hS dX6_storyOfPart_9
set_option maxHeartbeats 4000000 in
set_option maxRecDepth 100000 in
theorem c_X6_linkOf (l : Launch) (dC : Nat → ClassId) (dI : Nat → Nat → Nat) (cI cJ : ClassId) (A : Nat → Nat) (hq : Nat) (x : MdS) (v1 : Int32) (v2 : Int32) (r0 : (Int32 × MdS)) (hf : Md_m_linkOf x v1 v2 = some r0) : MWi l yX6_linkOf (wAll yX6_linkOf cX6_linkOf 3 (some .int)) ({ frames := 7, cells := 0, slots := 0, locals := 183 } : Room) [.ref (A 0), .int v1, .int v2] hq (dC, dI) (vTy cI cJ) (wMd cI cJ A x) (wMd cI cJ A r0.2) r0.1 := by
  refine kg_metW (Qc := fun Q => QWi (dC, dI) Q (wMd cI cJ A r0.2) r0.1) (cc := cX6_linkOf) (maxL := 3) (ret := (some .int)) (by decide) rfl (Nat.le_of_ble_eq_true rfl) ?_
  intro p e s m args below meth c Q hx hb hr hts hown hlk hml hP hK hN hD hA hS ls hl
  have hl : lv_has ls 3 [(0, .ref (A 0)), (1, .int v1), (2, .int v2)] := hl
  have ww0 := hts (.fieldLink RX6 71 "SafeBlocksModel" "told" "I") (List.mem_cons_of_mem _ wd_9_3)
  have ww1 := hts (.fieldLink RX6 13 "SafeBlocksModel" "first" "[I") (List.mem_cons_of_mem _ wd_8_0)
  have ww2 := hts (.fieldLink RX6 17 "SafeBlocksModel" "second" "[I") (List.mem_cons_of_mem _ wd_8_1)
  have ww3 := hts (.fieldLink RX6 41 "SafeBlocksModel" "closedBy" "[I") (List.mem_cons_of_mem _ wd_8_9)
  have ww4 := hts (.fieldLink RX6 50 "SafeBlocksModel" "partName" "[I") (List.mem_cons_of_mem _ wd_8_12)
  have hiX6 : ∀ w ∈ u_ws RX6 TX6 30, w ∈ wAll yX6_linkOf cX6_linkOf 3 (some .int) := fun w h => List.mem_cons_of_mem _ (inlX6 w h)
  suffices hgo : ∀ (H : Heap) (locs : List Loc), va_P (dC, dI) vwCl (wMd cI cJ A x) H → va_S Q s.heap H locs → W p l e ({ frames := 7, cells := 0, slots := 0, locals := 183 } : Room) s m args below meth c H locs 0 0 (MQ below (QWi (dC, dI) Q (wMd cI cJ A r0.2) r0.1) args s 0 0 Q) (F0 m 0 ls []) from hgo _ _ hP hS
  clear hP hS
  intro H locs hP hS
  unfold Md_m_linkOf at hf
  refine lv_aload_n hx hb dX6_linkOf_0 rfl (lv_at hl 0 rfl) ?_
  refine lv_iconst (v := 0) hx hb dX6_linkOf_1 (by decide) ?_
  refine kg_put (ci := 6) (v := .int 0) (ty := .int) (C := RX6) (T := TX6) (N := 30) (wz := (wMd cI cJ A (Md_set_told x 0))) hx hb hts hiX6 tyX6 tyX6_ok nmX6 hown hK hP hD hS 0 rfl rfl 0 (by decide) ww0 (fun _ h9 => h9) rfl (tyX6_ok 0 (by decide)) rfl rfl (Nat.le_of_ble_eq_true rfl) dX6_linkOf_2 (sc_Md_told _ _ _ _ _) (fun H locs hP hD hS => ?_)
  refine lv_aload_n hx hb dX6_linkOf_5 rfl (lv_at hl 0 rfl) ?_
  refine lv_iload_n hx hb dX6_linkOf_6 rfl (lv_at hl 1 rfl) ?_
  obtain ⟨g7, hc, hf⟩ := ob_bind hf
  have hPc : va_P (dC, dI) vwCl (wMd cI cJ A (Md_set_told x 0)) H := hP
  refine kg_retRi (va_runV (As := [.int v1]) (rest := []) ⟨hx, hb, hml, hown, hts⟩ (c_X6_isLink l dC dI cI cJ A H (Md_set_told x 0) v1 _ hc) (cwV 1 hts (gw_V wd_18_17 wd_18_14 wd_18_15 wd_18_16 wd_1_5) rfl rfl rfl qX6_isLink ⟨Nat.le_of_ble_eq_true rfl, Nat.le_of_ble_eq_true rfl⟩) (kg_preVR (ci := 6) (q := (RX6, TX6, 30)) (q0 := 0) hPc hK hN rfl rfl) rfl rfl hl.1 rfl (lv_room (Nat.le_of_ble_eq_true rfl)) dX6_linkOf_7 ⟨Nat.zero_le _, Nat.zero_le _⟩) ?_
  refine kg_b_ne (tgt := 15) hx hb hf dX6_linkOf_10 (by decide) (fun hc hf => ?_) (fun hc hf => ?_)
  · refine lv_aload_n hx hb dX6_linkOf_15 rfl (lv_at hl 0 rfl) ?_
    obtain ⟨g16, hc, hf⟩ := ob_bind hf
    have hPx := kg_eqP (kg_slf _) hP
    have hDx := kg_eqD (kg_slf _) hD
    refine kg_retWv (pre := ([] : va_W)) (wc := wMd cI cJ A (Md_set_told x 0)) (post := ([] : va_W)) (w1 := wMd cI cJ A g16) (wz := (wMd cI cJ A g16)) (kg_slf _).symm hPx hDx hS hA (va_runV (As := []) (rest := []) ⟨hx, hb, hml, hown, hts⟩ (c_X6_runsAll l dC dI cI cJ A H.size (Md_set_told x 0) _ hc) (cwV 0 hts (gw_V wd_12_17 wd_12_14 wd_12_15 wd_12_16 wd_1_5) rfl rfl rfl qX6_runsAll ⟨Nat.le_of_ble_eq_true rfl, Nat.le_of_ble_eq_true rfl⟩) (kg_preVW (ci := 6) (q := (RX6, TX6, 30)) (q0 := 0) (kg_cutP hPx) (kg_cutD hDx) hK hN rfl rfl) rfl rfl hl.1 rfl (lv_room (Nat.le_of_ble_eq_true rfl)) dX6_linkOf_16 ⟨Nat.zero_le _, Nat.zero_le _⟩) (fun H locs hP hD hS => ?_)
    refine lv_iload_n hx hb dX6_linkOf_19 rfl (lv_at hl 2 rfl) ?_
    by_cases hc0 : v2 = 0
    · rw [if_pos hc0] at hf
      refine lv_tableIn (tgt := 68) (off := 48) hx hb dX6_linkOf_20 (by rw [hc0]; decide) (by rw [hc0]; decide) (by rw [hc0]; rfl) (by decide) ?_
      refine lv_aload_n hx hb dX6_linkOf_68 rfl (lv_at hl 0 rfl) ?_
      refine va_get (D := (dC, dI)) (ci := 6) (v := .ref (A 1)) (C := RX6) (T := TX6) (N := 30) hx hb hts hiX6 hown hK hP 0 rfl rfl 4 (by decide) ww1 (fun _ h9 => h9) rfl dX6_linkOf_69 ?_
      refine lv_iload_n hx hb dX6_linkOf_72 rfl (lv_at hl 1 rfl) ?_
      obtain ⟨g73, hv, hf⟩ := ob_bind hf
      refine kg_iald hx hb hK hP 1 0 rfl rfl hv dX6_linkOf_73 ?_
      obtain rfl := Option.some.inj hf
      exact kg_iretW hx hb hr hlk rfl hP hD hS dX6_linkOf_74
    · rw [if_neg hc0] at hf
      by_cases hc1 : v2 = 1
      · rw [if_pos hc1] at hf
        refine lv_tableIn (tgt := 75) (off := 55) hx hb dX6_linkOf_20 (by rw [hc1]; decide) (by rw [hc1]; decide) (by rw [hc1]; rfl) (by decide) ?_
        refine lv_aload_n hx hb dX6_linkOf_75 rfl (lv_at hl 0 rfl) ?_
        refine va_get (D := (dC, dI)) (ci := 6) (v := .ref (A 2)) (C := RX6) (T := TX6) (N := 30) hx hb hts hiX6 hown hK hP 0 rfl rfl 5 (by decide) ww2 (fun _ h9 => h9) rfl dX6_linkOf_76 ?_
        refine lv_iload_n hx hb dX6_linkOf_79 rfl (lv_at hl 1 rfl) ?_
        obtain ⟨g80, hv, hf⟩ := ob_bind hf
        refine kg_iald hx hb hK hP 2 0 rfl rfl hv dX6_linkOf_80 ?_
        obtain rfl := Option.some.inj hf
        exact kg_iretW hx hb hr hlk rfl hP hD hS dX6_linkOf_81
      · rw [if_neg hc1] at hf
        by_cases hc2 : v2 = 2
        · rw [if_pos hc2] at hf
          refine lv_tableIn (tgt := 82) (off := 62) hx hb dX6_linkOf_20 (by rw [hc2]; decide) (by rw [hc2]; decide) (by rw [hc2]; rfl) (by decide) ?_
          refine lv_aload_n hx hb dX6_linkOf_82 rfl (lv_at hl 0 rfl) ?_
          refine lv_iload_n hx hb dX6_linkOf_83 rfl (lv_at hl 1 rfl) ?_
          obtain ⟨g84, hc, hf⟩ := ob_bind hf
          have hPc : va_P (dC, dI) vwCl (wMd cI cJ A g16) H := hP
          refine kg_retRi (va_runV (As := [.int v1]) (rest := []) ⟨hx, hb, hml, hown, hts⟩ (c_X6_isBridge l dC dI cI cJ A H g16 v1 _ hc) (cwV 1 hts (gw_V wd_18_21 wd_18_18 wd_18_19 wd_18_20 wd_1_5) rfl rfl rfl qX6_isBridge ⟨Nat.le_of_ble_eq_true rfl, Nat.le_of_ble_eq_true rfl⟩) (kg_preVR (ci := 6) (q := (RX6, TX6, 30)) (q0 := 0) hPc hK hN rfl rfl) rfl rfl hl.1 rfl (lv_room (Nat.le_of_ble_eq_true rfl)) dX6_linkOf_84 ⟨Nat.zero_le _, Nat.zero_le _⟩) ?_
          refine kg_b_eq (tgt := 94) hx hb hf dX6_linkOf_87 (by decide) (fun hc hf => ?_) (fun hc hf => ?_)
          · refine lv_iconst (v := 0) hx hb dX6_linkOf_94 (by decide) ?_
            obtain rfl := Option.some.inj hf
            exact kg_iretW hx hb hr hlk rfl hP hD hS dX6_linkOf_95
          · refine lv_iconst (v := 1) hx hb dX6_linkOf_90 (by decide) ?_
            refine lv_goto (tgt := 95) hx hb dX6_linkOf_91 (by decide) ?_
            obtain rfl := Option.some.inj hf
            exact kg_iretW hx hb hr hlk rfl hP hD hS dX6_linkOf_95
        · rw [if_neg hc2] at hf
          by_cases hc3 : v2 = 3
          · rw [if_pos hc3] at hf
            refine lv_tableIn (tgt := 96) (off := 76) hx hb dX6_linkOf_20 (by rw [hc3]; decide) (by rw [hc3]; decide) (by rw [hc3]; rfl) (by decide) ?_
            refine lv_aload_n hx hb dX6_linkOf_96 rfl (lv_at hl 0 rfl) ?_
            refine va_get (D := (dC, dI)) (ci := 6) (v := .ref (A 9)) (C := RX6) (T := TX6) (N := 30) hx hb hts hiX6 hown hK hP 0 rfl rfl 13 (by decide) ww3 (fun _ h9 => h9) rfl dX6_linkOf_97 ?_
            refine lv_iload_n hx hb dX6_linkOf_100 rfl (lv_at hl 1 rfl) ?_
            obtain ⟨g101, hv, hf⟩ := ob_bind hf
            refine kg_iald hx hb hK hP 9 0 rfl rfl hv dX6_linkOf_101 ?_
            obtain rfl := Option.some.inj hf
            exact kg_iretW hx hb hr hlk rfl hP hD hS dX6_linkOf_102
          · rw [if_neg hc3] at hf
            by_cases hc4 : v2 = 4
            · rw [if_pos hc4] at hf
              refine lv_tableIn (tgt := 103) (off := 83) hx hb dX6_linkOf_20 (by rw [hc4]; decide) (by rw [hc4]; decide) (by rw [hc4]; rfl) (by decide) ?_
              refine lv_aload_n hx hb dX6_linkOf_103 rfl (lv_at hl 0 rfl) ?_
              obtain ⟨g104, hc, hf⟩ := ob_bind hf
              have hPx := kg_eqP (kg_slf _) hP
              have hDx := kg_eqD (kg_slf _) hD
              refine kg_retWv (pre := ([] : va_W)) (wc := wMd cI cJ A g16) (post := ([] : va_W)) (w1 := wMd cI cJ A g104) (wz := (wMd cI cJ A g104)) (kg_slf _).symm hPx hDx hS hA (va_runV (As := []) (rest := []) ⟨hx, hb, hml, hown, hts⟩ (c_X6_laysAllParts l dC dI cI cJ A H.size g16 _ hc) (cwV 0 hts (gw_V wd_19_1 wd_18_22 wd_18_23 wd_19_0 wd_1_5) rfl rfl rfl qX6_laysAllParts ⟨Nat.le_of_ble_eq_true rfl, Nat.le_of_ble_eq_true rfl⟩) (kg_preVW (ci := 6) (q := (RX6, TX6, 30)) (q0 := 0) (kg_cutP hPx) (kg_cutD hDx) hK hN rfl rfl) rfl rfl hl.1 rfl (lv_room (Nat.le_of_ble_eq_true rfl)) dX6_linkOf_104 ⟨Nat.zero_le _, Nat.zero_le _⟩) (fun H locs hP hD hS => ?_)
              refine lv_aload_n hx hb dX6_linkOf_107 rfl (lv_at hl 0 rfl) ?_
              refine lv_iload_n hx hb dX6_linkOf_108 rfl (lv_at hl 1 rfl) ?_
              obtain ⟨g109, hc, hf⟩ := ob_bind hf
              have hPc : va_P (dC, dI) vwCl (wMd cI cJ A g104) H := hP
              refine kg_retRi (va_runV (As := [.int v1]) (rest := []) ⟨hx, hb, hml, hown, hts⟩ (c_X6_partNumber l dC dI cI cJ A H g104 v1 _ hc) (cwV 1 hts (gw_V wd_20_5 wd_20_2 wd_20_3 wd_20_4 wd_1_5) rfl rfl rfl qX6_partNumber ⟨Nat.le_of_ble_eq_true rfl, Nat.le_of_ble_eq_true rfl⟩) (kg_preVR (ci := 6) (q := (RX6, TX6, 30)) (q0 := 0) hPc hK hN rfl rfl) rfl rfl hl.1 rfl (lv_room (Nat.le_of_ble_eq_true rfl)) dX6_linkOf_109 ⟨Nat.zero_le _, Nat.zero_le _⟩) ?_
              obtain rfl := Option.some.inj hf
              exact kg_iretW hx hb hr hlk rfl hP hD hS dX6_linkOf_112
            · rw [if_neg hc4] at hf
              by_cases hc5 : v2 = 5
              · rw [if_pos hc5] at hf
                refine lv_tableIn (tgt := 113) (off := 93) hx hb dX6_linkOf_20 (by rw [hc5]; decide) (by rw [hc5]; decide) (by rw [hc5]; rfl) (by decide) ?_
                refine lv_aload_n hx hb dX6_linkOf_113 rfl (lv_at hl 0 rfl) ?_
                refine lv_iload_n hx hb dX6_linkOf_114 rfl (lv_at hl 1 rfl) ?_
                obtain ⟨g115, hc, hf⟩ := ob_bind hf
                have hPc : va_P (dC, dI) vwCl (wMd cI cJ A g16) H := hP
                refine kg_retRi (va_runV (As := [.int v1]) (rest := []) ⟨hx, hb, hml, hown, hts⟩ (c_X6_isBridge l dC dI cI cJ A H g16 v1 _ hc) (cwV 1 hts (gw_V wd_18_21 wd_18_18 wd_18_19 wd_18_20 wd_1_5) rfl rfl rfl qX6_isBridge ⟨Nat.le_of_ble_eq_true rfl, Nat.le_of_ble_eq_true rfl⟩) (kg_preVR (ci := 6) (q := (RX6, TX6, 30)) (q0 := 0) hPc hK hN rfl rfl) rfl rfl hl.1 rfl (lv_room (Nat.le_of_ble_eq_true rfl)) dX6_linkOf_115 ⟨Nat.zero_le _, Nat.zero_le _⟩) ?_
                refine kg_b_eq (tgt := 135) hx hb hf dX6_linkOf_118 (by decide) (fun hc hf => ?_) (fun hc hf => ?_)
                · refine lv_iconst (v := (-1)) hx hb dX6_linkOf_135 (by decide) ?_
                  obtain rfl := Option.some.inj hf
                  exact kg_iretW hx hb hr hlk rfl hP hD hS dX6_linkOf_136
                · refine lv_aload_n hx hb dX6_linkOf_121 rfl (lv_at hl 0 rfl) ?_
                  refine lv_iload_n hx hb dX6_linkOf_122 rfl (lv_at hl 1 rfl) ?_
                  refine lv_aload_n hx hb dX6_linkOf_123 rfl (lv_at hl 0 rfl) ?_
                  refine va_get (D := (dC, dI)) (ci := 6) (v := .ref (A 1)) (C := RX6) (T := TX6) (N := 30) hx hb hts hiX6 hown hK hP 0 rfl rfl 4 (by decide) ww1 (fun _ h9 => h9) rfl dX6_linkOf_124 ?_
                  refine lv_iload_n hx hb dX6_linkOf_127 rfl (lv_at hl 1 rfl) ?_
                  obtain ⟨g128, hv, hf⟩ := ob_bind hf
                  refine kg_iald hx hb hK hP 1 0 rfl rfl hv dX6_linkOf_128 ?_
                  obtain ⟨g129, hc, hf⟩ := ob_bind hf
                  have hPc : va_P (dC, dI) vwCl (wMd cI cJ A g16) H := hP
                  refine kg_retRi (va_runV (As := [.int v1, .int g128]) (rest := []) ⟨hx, hb, hml, hown, hts⟩ (c_X6_side l dC dI cI cJ A H g16 v1 g128 _ hc) (cwV 2 hts (gw_V wd_20_9 wd_20_6 wd_20_7 wd_20_8 wd_1_5) rfl rfl rfl qX6_side ⟨Nat.le_of_ble_eq_true rfl, Nat.le_of_ble_eq_true rfl⟩) (kg_preVR (ci := 6) (q := (RX6, TX6, 30)) (q0 := 0) hPc hK hN rfl rfl) rfl rfl hl.1 rfl (lv_room (Nat.le_of_ble_eq_true rfl)) dX6_linkOf_129 ⟨Nat.zero_le _, Nat.zero_le _⟩) ?_
                  refine lv_goto (tgt := 136) hx hb dX6_linkOf_132 (by decide) ?_
                  obtain rfl := Option.some.inj hf
                  exact kg_iretW hx hb hr hlk rfl hP hD hS dX6_linkOf_136
              · rw [if_neg hc5] at hf
                by_cases hc6 : v2 = 6
                · rw [if_pos hc6] at hf
                  refine lv_tableIn (tgt := 137) (off := 117) hx hb dX6_linkOf_20 (by rw [hc6]; decide) (by rw [hc6]; decide) (by rw [hc6]; rfl) (by decide) ?_
                  refine lv_aload_n hx hb dX6_linkOf_137 rfl (lv_at hl 0 rfl) ?_
                  refine lv_iload_n hx hb dX6_linkOf_138 rfl (lv_at hl 1 rfl) ?_
                  obtain ⟨g139, hc, hf⟩ := ob_bind hf
                  have hPc : va_P (dC, dI) vwCl (wMd cI cJ A g16) H := hP
                  refine kg_retRi (va_runV (As := [.int v1]) (rest := []) ⟨hx, hb, hml, hown, hts⟩ (c_X6_isBridge l dC dI cI cJ A H g16 v1 _ hc) (cwV 1 hts (gw_V wd_18_21 wd_18_18 wd_18_19 wd_18_20 wd_1_5) rfl rfl rfl qX6_isBridge ⟨Nat.le_of_ble_eq_true rfl, Nat.le_of_ble_eq_true rfl⟩) (kg_preVR (ci := 6) (q := (RX6, TX6, 30)) (q0 := 0) hPc hK hN rfl rfl) rfl rfl hl.1 rfl (lv_room (Nat.le_of_ble_eq_true rfl)) dX6_linkOf_139 ⟨Nat.zero_le _, Nat.zero_le _⟩) ?_
                  refine kg_b_eq (tgt := 159) hx hb hf dX6_linkOf_142 (by decide) (fun hc hf => ?_) (fun hc hf => ?_)
                  · refine lv_iconst (v := (-1)) hx hb dX6_linkOf_159 (by decide) ?_
                    obtain rfl := Option.some.inj hf
                    exact kg_iretW hx hb hr hlk rfl hP hD hS dX6_linkOf_160
                  · refine lv_aload_n hx hb dX6_linkOf_145 rfl (lv_at hl 0 rfl) ?_
                    refine lv_iload_n hx hb dX6_linkOf_146 rfl (lv_at hl 1 rfl) ?_
                    refine lv_aload_n hx hb dX6_linkOf_147 rfl (lv_at hl 0 rfl) ?_
                    refine va_get (D := (dC, dI)) (ci := 6) (v := .ref (A 2)) (C := RX6) (T := TX6) (N := 30) hx hb hts hiX6 hown hK hP 0 rfl rfl 5 (by decide) ww2 (fun _ h9 => h9) rfl dX6_linkOf_148 ?_
                    refine lv_iload_n hx hb dX6_linkOf_151 rfl (lv_at hl 1 rfl) ?_
                    obtain ⟨g152, hv, hf⟩ := ob_bind hf
                    refine kg_iald hx hb hK hP 2 0 rfl rfl hv dX6_linkOf_152 ?_
                    obtain ⟨g153, hc, hf⟩ := ob_bind hf
                    have hPc : va_P (dC, dI) vwCl (wMd cI cJ A g16) H := hP
                    refine kg_retRi (va_runV (As := [.int v1, .int g152]) (rest := []) ⟨hx, hb, hml, hown, hts⟩ (c_X6_side l dC dI cI cJ A H g16 v1 g152 _ hc) (cwV 2 hts (gw_V wd_20_9 wd_20_6 wd_20_7 wd_20_8 wd_1_5) rfl rfl rfl qX6_side ⟨Nat.le_of_ble_eq_true rfl, Nat.le_of_ble_eq_true rfl⟩) (kg_preVR (ci := 6) (q := (RX6, TX6, 30)) (q0 := 0) hPc hK hN rfl rfl) rfl rfl hl.1 rfl (lv_room (Nat.le_of_ble_eq_true rfl)) dX6_linkOf_153 ⟨Nat.zero_le _, Nat.zero_le _⟩) ?_
                    refine lv_goto (tgt := 160) hx hb dX6_linkOf_156 (by decide) ?_
                    obtain rfl := Option.some.inj hf
                    exact kg_iretW hx hb hr hlk rfl hP hD hS dX6_linkOf_160
                · rw [if_neg hc6] at hf
                  by_cases hc7 : v2 = 7
                  · rw [if_pos hc7] at hf
                    refine lv_tableIn (tgt := 161) (off := 141) hx hb dX6_linkOf_20 (by rw [hc7]; decide) (by rw [hc7]; decide) (by rw [hc7]; rfl) (by decide) ?_
                    refine lv_aload_n hx hb dX6_linkOf_161 rfl (lv_at hl 0 rfl) ?_
                    obtain ⟨g162, hc, hf⟩ := ob_bind hf
                    have hPx := kg_eqP (kg_slf _) hP
                    have hDx := kg_eqD (kg_slf _) hD
                    refine kg_retWv (pre := ([] : va_W)) (wc := wMd cI cJ A g16) (post := ([] : va_W)) (w1 := wMd cI cJ A g162) (wz := (wMd cI cJ A g162)) (kg_slf _).symm hPx hDx hS hA (va_runV (As := []) (rest := []) ⟨hx, hb, hml, hown, hts⟩ (c_X6_runsParts l dC dI cI cJ A H.size g16 _ hc) (cwV 0 hts (gw_V wd_20_17 wd_20_14 wd_20_15 wd_20_16 wd_1_5) rfl rfl rfl qX6_runsParts ⟨Nat.le_of_ble_eq_true rfl, Nat.le_of_ble_eq_true rfl⟩) (kg_preVW (ci := 6) (q := (RX6, TX6, 30)) (q0 := 0) (kg_cutP hPx) (kg_cutD hDx) hK hN rfl rfl) rfl rfl hl.1 rfl (lv_room (Nat.le_of_ble_eq_true rfl)) dX6_linkOf_162 ⟨Nat.zero_le _, Nat.zero_le _⟩) (fun H locs hP hD hS => ?_)
                    refine lv_aload_n hx hb dX6_linkOf_165 rfl (lv_at hl 0 rfl) ?_
                    refine va_get (D := (dC, dI)) (ci := 6) (v := .ref (A 11)) (C := RX6) (T := TX6) (N := 30) hx hb hts hiX6 hown hK hP 0 rfl rfl 21 (by decide) ww4 (fun _ h9 => h9) rfl dX6_linkOf_166 ?_
                    refine lv_iload_n hx hb dX6_linkOf_169 rfl (lv_at hl 1 rfl) ?_
                    obtain ⟨g170, hv, hf⟩ := ob_bind hf
                    refine kg_iald hx hb hK hP 11 0 rfl rfl hv dX6_linkOf_170 ?_
                    obtain rfl := Option.some.inj hf
                    exact kg_iretW hx hb hr hlk rfl hP hD hS dX6_linkOf_171
                  · rw [if_neg hc7] at hf
                    have ehc0 := ne_toInt hc0 (k := 0) (by decide)
                    have ehc1 := ne_toInt hc1 (k := 1) (by decide)
                    have ehc2 := ne_toInt hc2 (k := 2) (by decide)
                    have ehc3 := ne_toInt hc3 (k := 3) (by decide)
                    have ehc4 := ne_toInt hc4 (k := 4) (by decide)
                    have ehc5 := ne_toInt hc5 (k := 5) (by decide)
                    have ehc6 := ne_toInt hc6 (k := 6) (by decide)
                    have ehc7 := ne_toInt hc7 (k := 7) (by decide)
                    refine lv_tableOut (tgt := 172) hx hb dX6_linkOf_20 (by omega) (by decide) ?_
                    refine lv_iconst (v := (-1)) hx hb dX6_linkOf_172 (by decide) ?_
                    obtain rfl := Option.some.inj hf
                    exact kg_iretW hx hb hr hlk rfl hP hD hS dX6_linkOf_173
  · refine lv_iconst (v := (-1)) hx hb dX6_linkOf_13 (by decide) ?_
    obtain rfl := Option.some.inj hf
    exact kg_iretW hx hb hr hlk rfl hP hD hS dX6_linkOf_14
set_option maxHeartbeats 4000000 in
set_option maxRecDepth 100000 in
theorem c_X6_bridge (l : Launch) (dC : Nat → ClassId) (dI : Nat → Nat → Nat) (cI cJ : ClassId) (A : Nat → Nat) (hq : Nat) (x : MdS) (v1 : Int32) (r0 : (Int32 × MdS)) (hf : Md_m_bridge x v1 = some r0) : MWi l yX6_bridge (wAll yX6_bridge cX6_bridge 4 (some .int)) ({ frames := 7, cells := 0, slots := 0, locals := 183 } : Room) [.ref (A 0), .int v1] hq (dC, dI) (vTy cI cJ) (wMd cI cJ A x) (wMd cI cJ A r0.2) r0.1 := by
  refine kg_metW (Qc := fun Q => QWi (dC, dI) Q (wMd cI cJ A r0.2) r0.1) (cc := cX6_bridge) (maxL := 4) (ret := (some .int)) (by decide) rfl (Nat.le_of_ble_eq_true rfl) ?_
  intro p e s m args below meth c Q hx hb hr hts hown hlk hml hP hK hN hD hA hS ls hl
  have hl : lv_has ls 4 [(0, .ref (A 0)), (1, .int v1)] := hl
  have ww0 := hts (.fieldLink RX6 71 "SafeBlocksModel" "told" "I") (List.mem_cons_of_mem _ wd_9_3)
  have ww1 := hts (.fieldLink RX6 78 "SafeBlocksModel" "m" "I") (List.mem_cons_of_mem _ wd_9_6)
  have hiX6 : ∀ w ∈ u_ws RX6 TX6 30, w ∈ wAll yX6_bridge cX6_bridge 4 (some .int) := fun w h => List.mem_cons_of_mem _ (inlX6 w h)
  suffices hgo : ∀ (H : Heap) (locs : List Loc), va_P (dC, dI) vwCl (wMd cI cJ A x) H → va_S Q s.heap H locs → W p l e ({ frames := 7, cells := 0, slots := 0, locals := 183 } : Room) s m args below meth c H locs 0 0 (MQ below (QWi (dC, dI) Q (wMd cI cJ A r0.2) r0.1) args s 0 0 Q) (F0 m 0 ls []) from hgo _ _ hP hS
  clear hP hS
  intro H locs hP hS
  unfold Md_m_bridge at hf
  refine lv_aload_n hx hb dX6_bridge_0 rfl (lv_at hl 0 rfl) ?_
  refine lv_iconst (v := 0) hx hb dX6_bridge_1 (by decide) ?_
  refine kg_put (ci := 6) (v := .int 0) (ty := .int) (C := RX6) (T := TX6) (N := 30) (wz := (wMd cI cJ A (Md_set_told x 0))) hx hb hts hiX6 tyX6 tyX6_ok nmX6 hown hK hP hD hS 0 rfl rfl 0 (by decide) ww0 (fun _ h9 => h9) rfl (tyX6_ok 0 (by decide)) rfl rfl (Nat.le_of_ble_eq_true rfl) dX6_bridge_2 (sc_Md_told _ _ _ _ _) (fun H locs hP hD hS => ?_)
  refine lv_aload_n hx hb dX6_bridge_5 rfl (lv_at hl 0 rfl) ?_
  obtain ⟨g6, hc, hf⟩ := ob_bind hf
  have hPx := kg_eqP (kg_slf _) hP
  have hDx := kg_eqD (kg_slf _) hD
  refine kg_retWv (pre := ([] : va_W)) (wc := wMd cI cJ A (Md_set_told x 0)) (post := ([] : va_W)) (w1 := wMd cI cJ A g6) (wz := (wMd cI cJ A g6)) (kg_slf _).symm hPx hDx hS hA (va_runV (As := []) (rest := []) ⟨hx, hb, hml, hown, hts⟩ (c_X6_runsAll l dC dI cI cJ A H.size (Md_set_told x 0) _ hc) (cwV 0 hts (gw_V wd_12_17 wd_12_14 wd_12_15 wd_12_16 wd_1_5) rfl rfl rfl qX6_runsAll ⟨Nat.le_of_ble_eq_true rfl, Nat.le_of_ble_eq_true rfl⟩) (kg_preVW (ci := 6) (q := (RX6, TX6, 30)) (q0 := 0) (kg_cutP hPx) (kg_cutD hDx) hK hN rfl rfl) rfl rfl hl.1 rfl (lv_room (Nat.le_of_ble_eq_true rfl)) dX6_bridge_6 ⟨Nat.zero_le _, Nat.zero_le _⟩) (fun H locs hP hD hS => ?_)
  refine lv_iload_n hx hb dX6_bridge_9 rfl (lv_at hl 1 rfl) ?_
  refine lv_iconst (v := (-1)) hx hb dX6_bridge_10 (by decide) ?_
  refine kg_icmp_ne (tgt := 19) hx hb hf dX6_bridge_11 (by decide) (fun hc hf => ?_) (fun hc hf => ?_)
  · refine lv_iload_n hx hb dX6_bridge_19 rfl (lv_at hl 1 rfl) ?_
    refine lv_istore_n (lv' := [(2, .int v1), (0, .ref (A 0)), (1, .int v1)]) hx hb dX6_bridge_20 rfl hl (by decide) rfl (fun ls hl => ?_)
    refine lv_iconst (v := 0) hx hb dX6_bridge_21 (by decide) ?_
    refine lv_istore_n (lv' := [(3, .int 0), (2, .int v1), (0, .ref (A 0)), (1, .int v1)]) hx hb dX6_bridge_22 rfl hl (by decide) rfl (fun ls hl => ?_)
    have hlp23 : ∀ (x : MdS), ∀ (n : Nat) (v2 : Int32) (v3 : Int32), iter (fun p : Int32 × Int32 => Md_m_bridge_s23 x p.1 p.2) n (v2, v3) = some r0 → ∀ (H : Heap) (locs : List Loc) (ls : Array Slot), va_P (dC, dI) vwCl (wMd cI cJ A x) H → va_D Q (wMd cI cJ A x) → va_S Q s.heap H locs → lv_has ls 4 [(0, .ref (A 0)), (2, .int v2), (3, .int v3)] → W p l e ({ frames := 7, cells := 0, slots := 0, locals := 183 } : Room) s m args below meth c H locs 0 0 (MQ below (QWi (dC, dI) Q (wMd cI cJ A r0.2) r0.1) args s 0 0 Q) (F0 m 23 ls []) := by
      intro x n
      induction n with
      | zero => intro v2 v3 hf; exact iter_zero hf
      | succ n ih1 =>
        intro v2 v3 hf H locs ls hP hD hS hl
        obtain ⟨q1, hf, hk1⟩ := iter_succ hf
        have hf : Md_m_bridge_s23 x v2 v3 = some q1 := hf
        unfold Md_m_bridge_s23 at hf
        refine lv_iload_n hx hb dX6_bridge_23 rfl (lv_at hl 2 rfl) ?_
        refine lv_aload_n hx hb dX6_bridge_24 rfl (lv_at hl 0 rfl) ?_
        refine va_get (D := (dC, dI)) (ci := 6) (v := .int (Md_m x)) (C := RX6) (T := TX6) (N := 30) hx hb hts hiX6 hown hK hP 0 rfl rfl 2 (by decide) ww1 (fun _ h9 => h9) rfl dX6_bridge_25 ?_
        refine kg_icmp_ge (tgt := 58) hx hb hf dX6_bridge_28 (by decide) (fun hc hf => ?_) (fun hc hf => ?_)
        · obtain ⟨qq, hf, hqq⟩ := omap_some hf
          have hkq : qq = r0 := by rw [← hqq] at hk1; exact hk1
          rw [hkq] at hf
          clear hkq hqq
          refine lv_iconst (v := (-1)) hx hb dX6_bridge_58 (by decide) ?_
          obtain rfl := Option.some.inj hf
          exact kg_iretW hx hb hr hlk rfl hP hD hS dX6_bridge_59
        · refine lv_aload_n hx hb dX6_bridge_31 rfl (lv_at hl 0 rfl) ?_
          refine lv_iload_n hx hb dX6_bridge_32 rfl (lv_at hl 2 rfl) ?_
          obtain ⟨g33, hc, hf⟩ := ob_bind hf
          have hPc : va_P (dC, dI) vwCl (wMd cI cJ A x) H := hP
          refine kg_retRi (va_runV (As := [.int v3]) (rest := []) ⟨hx, hb, hml, hown, hts⟩ (c_X6_isBridge l dC dI cI cJ A H x v3 _ hc) (cwV 1 hts (gw_V wd_18_21 wd_18_18 wd_18_19 wd_18_20 wd_1_5) rfl rfl rfl qX6_isBridge ⟨Nat.le_of_ble_eq_true rfl, Nat.le_of_ble_eq_true rfl⟩) (kg_preVR (ci := 6) (q := (RX6, TX6, 30)) (q0 := 0) hPc hK hN rfl rfl) rfl rfl hl.1 rfl (lv_room (Nat.le_of_ble_eq_true rfl)) dX6_bridge_33 ⟨Nat.zero_le _, Nat.zero_le _⟩) ?_
          refine kg_b_ne (tgt := 42) hx hb hf dX6_bridge_36 (by decide) (fun hc hf => ?_) (fun hc hf => ?_)
          · refine lv_iload_n hx hb dX6_bridge_42 rfl (lv_at hl 1 rfl) ?_
            refine kg_if_ne (tgt := 48) hx hb hf dX6_bridge_43 (by decide) (fun hc hf => ?_) (fun hc hf => ?_)
            · refine lv_iload_n hx hb dX6_bridge_48 rfl (lv_at hl 1 rfl) ?_
              refine lv_iconst (v := 1) hx hb dX6_bridge_49 (by decide) ?_
              refine lv_isub hx hb dX6_bridge_50 ?_
              refine lv_istore_n (lv' := [(2, .int (v2 - 1)), (0, .ref (A 0)), (3, .int v3)]) hx hb dX6_bridge_51 rfl hl (by decide) rfl (fun ls hl => ?_)
              refine lv_iinc (v := (v3 + 1)) (lv' := [(3, .int (v3 + 1)), (2, .int (v2 - 1)), (0, .ref (A 0))]) hx hb dX6_bridge_52 hl (k := 2) rfl rfl (by decide) rfl (fun ls hl => ?_)
              refine lv_goto (tgt := 23) hx hb dX6_bridge_55 (by decide) ?_
              obtain rfl := Option.some.inj hf
              exact ih1 (v2 - 1) (v3 + 1) hk1 _ _ _ hP hD hS (lv_sub hl [2, 1, 0] rfl)
            · obtain ⟨qq, hf, hqq⟩ := omap_some hf
              have hkq : qq = r0 := by rw [← hqq] at hk1; exact hk1
              rw [hkq] at hf
              clear hkq hqq
              refine lv_iload_n hx hb dX6_bridge_46 rfl (lv_at hl 2 rfl) ?_
              obtain rfl := Option.some.inj hf
              exact kg_iretW hx hb hr hlk rfl hP hD hS dX6_bridge_47
          · refine lv_goto (tgt := 52) hx hb dX6_bridge_39 (by decide) ?_
            refine lv_iinc (v := (v3 + 1)) (lv' := [(3, .int (v3 + 1)), (0, .ref (A 0)), (2, .int v2)]) hx hb dX6_bridge_52 hl (k := 2) rfl rfl (by decide) rfl (fun ls hl => ?_)
            refine lv_goto (tgt := 23) hx hb dX6_bridge_55 (by decide) ?_
            obtain rfl := Option.some.inj hf
            exact ih1 v2 (v3 + 1) hk1 _ _ _ hP hD hS (lv_sub hl [1, 2, 0] rfl)
    exact hlp23 g6 FU v1 0 hf _ _ _ hP hD hS (lv_sub hl [2, 1, 0] rfl)
  · refine lv_aload_n hx hb dX6_bridge_14 rfl (lv_at hl 0 rfl) ?_
    obtain ⟨g15, hc, hf⟩ := ob_bind hf
    have hPc : va_P (dC, dI) vwCl (wMd cI cJ A g6) H := hP
    refine kg_retRi (va_runV (As := []) (rest := []) ⟨hx, hb, hml, hown, hts⟩ (c_X6_bridges l dC dI cI cJ A H g6 _ hc) (cwV 0 hts (gw_V wd_15_9 wd_15_6 wd_15_7 wd_15_8 wd_1_5) rfl rfl rfl qX6_bridges ⟨Nat.le_of_ble_eq_true rfl, Nat.le_of_ble_eq_true rfl⟩) (kg_preVR (ci := 6) (q := (RX6, TX6, 30)) (q0 := 0) hPc hK hN rfl rfl) rfl rfl hl.1 rfl (lv_room (Nat.le_of_ble_eq_true rfl)) dX6_bridge_15 ⟨Nat.zero_le _, Nat.zero_le _⟩) ?_
    obtain rfl := Option.some.inj hf
    exact kg_iretW hx hb hr hlk rfl hP hD hS dX6_bridge_18
set_option maxHeartbeats 4000000 in
set_option maxRecDepth 100000 in
theorem c_X6_node (l : Launch) (dC : Nat → ClassId) (dI : Nat → Nat → Nat) (cI cJ : ClassId) (A : Nat → Nat) (hq : Nat) (x : MdS) (v1 : Int32) (v2 : Int32) (r0 : (Int32 × MdS)) (hf : Md_m_node x v1 v2 = some r0) : MWi l yX6_node (wAll yX6_node cX6_node 3 (some .int)) ({ frames := 7, cells := 0, slots := 0, locals := 183 } : Room) [.ref (A 0), .int v1, .int v2] hq (dC, dI) (vTy cI cJ) (wMd cI cJ A x) (wMd cI cJ A r0.2) r0.1 := by
  refine kg_metW (Qc := fun Q => QWi (dC, dI) Q (wMd cI cJ A r0.2) r0.1) (cc := cX6_node) (maxL := 3) (ret := (some .int)) (by decide) rfl (Nat.le_of_ble_eq_true rfl) ?_
  intro p e s m args below meth c Q hx hb hr hts hown hlk hml hP hK hN hD hA hS ls hl
  have hl : lv_has ls 3 [(0, .ref (A 0)), (1, .int v1), (2, .int v2)] := hl
  have ww0 := hts (.fieldLink RX6 71 "SafeBlocksModel" "told" "I") (List.mem_cons_of_mem _ wd_9_3)
  have hiX6 : ∀ w ∈ u_ws RX6 TX6 30, w ∈ wAll yX6_node cX6_node 3 (some .int) := fun w h => List.mem_cons_of_mem _ (inlX6 w h)
  suffices hgo : ∀ (H : Heap) (locs : List Loc), va_P (dC, dI) vwCl (wMd cI cJ A x) H → va_S Q s.heap H locs → W p l e ({ frames := 7, cells := 0, slots := 0, locals := 183 } : Room) s m args below meth c H locs 0 0 (MQ below (QWi (dC, dI) Q (wMd cI cJ A r0.2) r0.1) args s 0 0 Q) (F0 m 0 ls []) from hgo _ _ hP hS
  clear hP hS
  intro H locs hP hS
  unfold Md_m_node at hf
  refine lv_aload_n hx hb dX6_node_0 rfl (lv_at hl 0 rfl) ?_
  refine lv_iconst (v := 0) hx hb dX6_node_1 (by decide) ?_
  refine kg_put (ci := 6) (v := .int 0) (ty := .int) (C := RX6) (T := TX6) (N := 30) (wz := (wMd cI cJ A (Md_set_told x 0))) hx hb hts hiX6 tyX6 tyX6_ok nmX6 hown hK hP hD hS 0 rfl rfl 0 (by decide) ww0 (fun _ h9 => h9) rfl (tyX6_ok 0 (by decide)) rfl rfl (Nat.le_of_ble_eq_true rfl) dX6_node_2 (sc_Md_told _ _ _ _ _) (fun H locs hP hD hS => ?_)
  refine lv_aload_n hx hb dX6_node_5 rfl (lv_at hl 0 rfl) ?_
  refine lv_iload_n hx hb dX6_node_6 rfl (lv_at hl 1 rfl) ?_
  obtain ⟨g7, hc, hf⟩ := ob_bind hf
  have hPc : va_P (dC, dI) vwCl (wMd cI cJ A (Md_set_told x 0)) H := hP
  refine kg_retRi (va_runV (As := [.int v1]) (rest := []) ⟨hx, hb, hml, hown, hts⟩ (c_X6_isNode l dC dI cI cJ A H (Md_set_told x 0) v1 _ hc) (cwV 1 hts (gw_V wd_12_13 wd_12_10 wd_12_11 wd_12_12 wd_1_5) rfl rfl rfl qX6_isNode ⟨Nat.le_of_ble_eq_true rfl, Nat.le_of_ble_eq_true rfl⟩) (kg_preVR (ci := 6) (q := (RX6, TX6, 30)) (q0 := 0) hPc hK hN rfl rfl) rfl rfl hl.1 rfl (lv_room (Nat.le_of_ble_eq_true rfl)) dX6_node_7 ⟨Nat.zero_le _, Nat.zero_le _⟩) ?_
  refine kg_b_ne (tgt := 15) hx hb hf dX6_node_10 (by decide) (fun hc hf => ?_) (fun hc hf => ?_)
  · refine lv_aload_n hx hb dX6_node_15 rfl (lv_at hl 0 rfl) ?_
    obtain ⟨g16, hc, hf⟩ := ob_bind hf
    have hPx := kg_eqP (kg_slf _) hP
    have hDx := kg_eqD (kg_slf _) hD
    refine kg_retWv (pre := ([] : va_W)) (wc := wMd cI cJ A (Md_set_told x 0)) (post := ([] : va_W)) (w1 := wMd cI cJ A g16) (wz := (wMd cI cJ A g16)) (kg_slf _).symm hPx hDx hS hA (va_runV (As := []) (rest := []) ⟨hx, hb, hml, hown, hts⟩ (c_X6_runsAll l dC dI cI cJ A H.size (Md_set_told x 0) _ hc) (cwV 0 hts (gw_V wd_12_17 wd_12_14 wd_12_15 wd_12_16 wd_1_5) rfl rfl rfl qX6_runsAll ⟨Nat.le_of_ble_eq_true rfl, Nat.le_of_ble_eq_true rfl⟩) (kg_preVW (ci := 6) (q := (RX6, TX6, 30)) (q0 := 0) (kg_cutP hPx) (kg_cutD hDx) hK hN rfl rfl) rfl rfl hl.1 rfl (lv_room (Nat.le_of_ble_eq_true rfl)) dX6_node_16 ⟨Nat.zero_le _, Nat.zero_le _⟩) (fun H locs hP hD hS => ?_)
    refine lv_aload_n hx hb dX6_node_19 rfl (lv_at hl 0 rfl) ?_
    obtain ⟨g20, hc, hf⟩ := ob_bind hf
    have hPx := kg_eqP (kg_slf _) hP
    have hDx := kg_eqD (kg_slf _) hD
    refine kg_retWv (pre := ([] : va_W)) (wc := wMd cI cJ A g16) (post := ([] : va_W)) (w1 := wMd cI cJ A g20) (wz := (wMd cI cJ A g20)) (kg_slf _).symm hPx hDx hS hA (va_runV (As := []) (rest := []) ⟨hx, hb, hml, hown, hts⟩ (c_X6_laysAllParts l dC dI cI cJ A H.size g16 _ hc) (cwV 0 hts (gw_V wd_19_1 wd_18_22 wd_18_23 wd_19_0 wd_1_5) rfl rfl rfl qX6_laysAllParts ⟨Nat.le_of_ble_eq_true rfl, Nat.le_of_ble_eq_true rfl⟩) (kg_preVW (ci := 6) (q := (RX6, TX6, 30)) (q0 := 0) (kg_cutP hPx) (kg_cutD hDx) hK hN rfl rfl) rfl rfl hl.1 rfl (lv_room (Nat.le_of_ble_eq_true rfl)) dX6_node_20 ⟨Nat.zero_le _, Nat.zero_le _⟩) (fun H locs hP hD hS => ?_)
    refine lv_iload_n hx hb dX6_node_23 rfl (lv_at hl 2 rfl) ?_
    by_cases hc0 : v2 = 0
    · rw [if_pos hc0] at hf
      refine lv_tableIn (tgt := 64) (off := 40) hx hb dX6_node_24 (by rw [hc0]; decide) (by rw [hc0]; decide) (by rw [hc0]; rfl) (by decide) ?_
      refine lv_aload_n hx hb dX6_node_64 rfl (lv_at hl 0 rfl) ?_
      refine lv_iload_n hx hb dX6_node_65 rfl (lv_at hl 1 rfl) ?_
      obtain ⟨g66, hc, hf⟩ := ob_bind hf
      have hPc : va_P (dC, dI) vwCl (wMd cI cJ A g20) H := hP
      refine kg_retRi (va_runV (As := [.int v1]) (rest := []) ⟨hx, hb, hml, hown, hts⟩ (c_X6_blockAt l dC dI cI cJ A H g20 v1 _ hc) (cwV 1 hts (gw_V wd_13_13 wd_13_10 wd_13_11 wd_13_12 wd_1_5) rfl rfl rfl qX6_blockAt ⟨Nat.le_of_ble_eq_true rfl, Nat.le_of_ble_eq_true rfl⟩) (kg_preVR (ci := 6) (q := (RX6, TX6, 30)) (q0 := 0) hPc hK hN rfl rfl) rfl rfl hl.1 rfl (lv_room (Nat.le_of_ble_eq_true rfl)) dX6_node_66 ⟨Nat.zero_le _, Nat.zero_le _⟩) ?_
      obtain rfl := Option.some.inj hf
      exact kg_iretW hx hb hr hlk rfl hP hD hS dX6_node_69
    · rw [if_neg hc0] at hf
      by_cases hc1 : v2 = 1
      · rw [if_pos hc1] at hf
        refine lv_tableIn (tgt := 70) (off := 46) hx hb dX6_node_24 (by rw [hc1]; decide) (by rw [hc1]; decide) (by rw [hc1]; rfl) (by decide) ?_
        refine lv_aload_n hx hb dX6_node_70 rfl (lv_at hl 0 rfl) ?_
        refine lv_iload_n hx hb dX6_node_71 rfl (lv_at hl 1 rfl) ?_
        obtain ⟨g72, hc, hf⟩ := ob_bind hf
        have hPc : va_P (dC, dI) vwCl (wMd cI cJ A g20) H := hP
        refine kg_retRi (va_runV (As := [.int v1]) (rest := []) ⟨hx, hb, hml, hown, hts⟩ (c_X6_landOf l dC dI cI cJ A H g20 v1 _ hc) (cwV 1 hts (gw_V wd_13_17 wd_13_14 wd_13_15 wd_13_16 wd_1_5) rfl rfl rfl qX6_landOf ⟨Nat.le_of_ble_eq_true rfl, Nat.le_of_ble_eq_true rfl⟩) (kg_preVR (ci := 6) (q := (RX6, TX6, 30)) (q0 := 0) hPc hK hN rfl rfl) rfl rfl hl.1 rfl (lv_room (Nat.le_of_ble_eq_true rfl)) dX6_node_72 ⟨Nat.zero_le _, Nat.zero_le _⟩) ?_
        obtain rfl := Option.some.inj hf
        exact kg_iretW hx hb hr hlk rfl hP hD hS dX6_node_75
      · rw [if_neg hc1] at hf
        by_cases hc2 : v2 = 2
        · rw [if_pos hc2] at hf
          refine lv_tableIn (tgt := 76) (off := 52) hx hb dX6_node_24 (by rw [hc2]; decide) (by rw [hc2]; decide) (by rw [hc2]; rfl) (by decide) ?_
          refine lv_aload_n hx hb dX6_node_76 rfl (lv_at hl 0 rfl) ?_
          refine lv_iload_n hx hb dX6_node_77 rfl (lv_at hl 1 rfl) ?_
          refine lv_iconst (v := 0) hx hb dX6_node_78 (by decide) ?_
          obtain ⟨g79, hc, hf⟩ := ob_bind hf
          have hPc : va_P (dC, dI) vwCl (wMd cI cJ A g20) H := hP
          refine kg_retRi (va_runV (As := [.int v1, .int 0]) (rest := []) ⟨hx, hb, hml, hown, hts⟩ (c_X6_linksAt l dC dI cI cJ A H g20 v1 0 _ hc) (cwV 2 hts (gw_V wd_22_23 wd_22_20 wd_22_21 wd_22_22 wd_1_5) rfl rfl rfl qX6_linksAt ⟨Nat.le_of_ble_eq_true rfl, Nat.le_of_ble_eq_true rfl⟩) (kg_preVR (ci := 6) (q := (RX6, TX6, 30)) (q0 := 0) hPc hK hN rfl rfl) rfl rfl hl.1 rfl (lv_room (Nat.le_of_ble_eq_true rfl)) dX6_node_79 ⟨Nat.zero_le _, Nat.zero_le _⟩) ?_
          obtain rfl := Option.some.inj hf
          exact kg_iretW hx hb hr hlk rfl hP hD hS dX6_node_82
        · rw [if_neg hc2] at hf
          by_cases hc3 : v2 = 3
          · rw [if_pos hc3] at hf
            refine lv_tableIn (tgt := 83) (off := 59) hx hb dX6_node_24 (by rw [hc3]; decide) (by rw [hc3]; decide) (by rw [hc3]; rfl) (by decide) ?_
            refine lv_aload_n hx hb dX6_node_83 rfl (lv_at hl 0 rfl) ?_
            refine lv_iload_n hx hb dX6_node_84 rfl (lv_at hl 1 rfl) ?_
            refine lv_iconst (v := 1) hx hb dX6_node_85 (by decide) ?_
            obtain ⟨g86, hc, hf⟩ := ob_bind hf
            have hPc : va_P (dC, dI) vwCl (wMd cI cJ A g20) H := hP
            refine kg_retRi (va_runV (As := [.int v1, .int 1]) (rest := []) ⟨hx, hb, hml, hown, hts⟩ (c_X6_linksAt l dC dI cI cJ A H g20 v1 1 _ hc) (cwV 2 hts (gw_V wd_22_23 wd_22_20 wd_22_21 wd_22_22 wd_1_5) rfl rfl rfl qX6_linksAt ⟨Nat.le_of_ble_eq_true rfl, Nat.le_of_ble_eq_true rfl⟩) (kg_preVR (ci := 6) (q := (RX6, TX6, 30)) (q0 := 0) hPc hK hN rfl rfl) rfl rfl hl.1 rfl (lv_room (Nat.le_of_ble_eq_true rfl)) dX6_node_86 ⟨Nat.zero_le _, Nat.zero_le _⟩) ?_
            obtain rfl := Option.some.inj hf
            exact kg_iretW hx hb hr hlk rfl hP hD hS dX6_node_89
          · rw [if_neg hc3] at hf
            by_cases hc4 : v2 = 4
            · rw [if_pos hc4] at hf
              refine lv_tableIn (tgt := 90) (off := 66) hx hb dX6_node_24 (by rw [hc4]; decide) (by rw [hc4]; decide) (by rw [hc4]; rfl) (by decide) ?_
              refine lv_aload_n hx hb dX6_node_90 rfl (lv_at hl 0 rfl) ?_
              refine lv_iload_n hx hb dX6_node_91 rfl (lv_at hl 1 rfl) ?_
              refine lv_iconst (v := 0) hx hb dX6_node_92 (by decide) ?_
              obtain ⟨g93, hc, hf⟩ := ob_bind hf
              have hPc : va_P (dC, dI) vwCl (wMd cI cJ A g20) H := hP
              refine kg_retRi (va_runV (As := [.int v1, .int 0]) (rest := []) ⟨hx, hb, hml, hown, hts⟩ (c_X6_partsAt l dC dI cI cJ A H g20 v1 0 _ hc) (cwV 2 hts (gw_V wd_23_3 wd_23_0 wd_23_1 wd_23_2 wd_1_5) rfl rfl rfl qX6_partsAt ⟨Nat.le_of_ble_eq_true rfl, Nat.le_of_ble_eq_true rfl⟩) (kg_preVR (ci := 6) (q := (RX6, TX6, 30)) (q0 := 0) hPc hK hN rfl rfl) rfl rfl hl.1 rfl (lv_room (Nat.le_of_ble_eq_true rfl)) dX6_node_93 ⟨Nat.zero_le _, Nat.zero_le _⟩) ?_
              obtain rfl := Option.some.inj hf
              exact kg_iretW hx hb hr hlk rfl hP hD hS dX6_node_96
            · rw [if_neg hc4] at hf
              by_cases hc5 : v2 = 5
              · rw [if_pos hc5] at hf
                refine lv_tableIn (tgt := 97) (off := 73) hx hb dX6_node_24 (by rw [hc5]; decide) (by rw [hc5]; decide) (by rw [hc5]; rfl) (by decide) ?_
                refine lv_aload_n hx hb dX6_node_97 rfl (lv_at hl 0 rfl) ?_
                refine lv_iload_n hx hb dX6_node_98 rfl (lv_at hl 1 rfl) ?_
                obtain ⟨g99, hc, hf⟩ := ob_bind hf
                have hPc : va_P (dC, dI) vwCl (wMd cI cJ A g20) H := hP
                refine kg_retRi (va_runV (As := [.int v1]) (rest := []) ⟨hx, hb, hml, hown, hts⟩ (c_X6_isCut l dC dI cI cJ A H g20 v1 _ hc) (cwV 1 hts (gw_V wd_23_7 wd_23_4 wd_23_5 wd_23_6 wd_1_5) rfl rfl rfl qX6_isCut ⟨Nat.le_of_ble_eq_true rfl, Nat.le_of_ble_eq_true rfl⟩) (kg_preVR (ci := 6) (q := (RX6, TX6, 30)) (q0 := 0) hPc hK hN rfl rfl) rfl rfl hl.1 rfl (lv_room (Nat.le_of_ble_eq_true rfl)) dX6_node_99 ⟨Nat.zero_le _, Nat.zero_le _⟩) ?_
                refine kg_b_eq (tgt := 109) hx hb hf dX6_node_102 (by decide) (fun hc hf => ?_) (fun hc hf => ?_)
                · refine lv_iconst (v := 0) hx hb dX6_node_109 (by decide) ?_
                  obtain rfl := Option.some.inj hf
                  exact kg_iretW hx hb hr hlk rfl hP hD hS dX6_node_110
                · refine lv_iconst (v := 1) hx hb dX6_node_105 (by decide) ?_
                  refine lv_goto (tgt := 110) hx hb dX6_node_106 (by decide) ?_
                  obtain rfl := Option.some.inj hf
                  exact kg_iretW hx hb hr hlk rfl hP hD hS dX6_node_110
              · rw [if_neg hc5] at hf
                have ehc0 := ne_toInt hc0 (k := 0) (by decide)
                have ehc1 := ne_toInt hc1 (k := 1) (by decide)
                have ehc2 := ne_toInt hc2 (k := 2) (by decide)
                have ehc3 := ne_toInt hc3 (k := 3) (by decide)
                have ehc4 := ne_toInt hc4 (k := 4) (by decide)
                have ehc5 := ne_toInt hc5 (k := 5) (by decide)
                refine lv_tableOut (tgt := 111) hx hb dX6_node_24 (by omega) (by decide) ?_
                refine lv_iload_n hx hb dX6_node_111 rfl (lv_at hl 2 rfl) ?_
                refine lv_bipush (v := 6) hx hb dX6_node_112 (by decide) ?_
                refine kg_icmp_ne (tgt := 129) hx hb hf dX6_node_114 (by decide) (fun hc hf => ?_) (fun hc hf => ?_)
                · refine lv_iconst (v := (-1)) hx hb dX6_node_129 (by decide) ?_
                  obtain rfl := Option.some.inj hf
                  exact kg_iretW hx hb hr hlk rfl hP hD hS dX6_node_130
                · refine lv_aload_n hx hb dX6_node_117 rfl (lv_at hl 0 rfl) ?_
                  refine lv_aload_n hx hb dX6_node_118 rfl (lv_at hl 0 rfl) ?_
                  refine lv_iload_n hx hb dX6_node_119 rfl (lv_at hl 1 rfl) ?_
                  obtain ⟨g120, hc, hf⟩ := ob_bind hf
                  have hPc : va_P (dC, dI) vwCl (wMd cI cJ A g20) H := hP
                  refine kg_retRi (va_runV (As := [.int v1]) (rest := [.ref (A 0)]) ⟨hx, hb, hml, hown, hts⟩ (c_X6_blockAt l dC dI cI cJ A H g20 v1 _ hc) (cwV 1 hts (gw_V wd_13_13 wd_13_10 wd_13_11 wd_13_12 wd_1_5) rfl rfl rfl qX6_blockAt ⟨Nat.le_of_ble_eq_true rfl, Nat.le_of_ble_eq_true rfl⟩) (kg_preVR (ci := 6) (q := (RX6, TX6, 30)) (q0 := 0) hPc hK hN rfl rfl) rfl rfl hl.1 rfl (lv_room (Nat.le_of_ble_eq_true rfl)) dX6_node_120 ⟨Nat.zero_le _, Nat.zero_le _⟩) ?_
                  obtain ⟨g123, hc, hf⟩ := ob_bind hf
                  have hPc : va_P (dC, dI) vwCl (wMd cI cJ A g20) H := hP
                  refine kg_retRi (va_runV (As := [.int g120]) (rest := []) ⟨hx, hb, hml, hown, hts⟩ (c_X6_deep l dC dI cI cJ A H g20 g120 _ hc) (cwV 1 hts (gw_V wd_14_21 wd_14_18 wd_14_19 wd_14_20 wd_1_5) rfl rfl rfl qX6_deep ⟨Nat.le_of_ble_eq_true rfl, Nat.le_of_ble_eq_true rfl⟩) (kg_preVR (ci := 6) (q := (RX6, TX6, 30)) (q0 := 0) hPc hK hN rfl rfl) rfl rfl hl.1 rfl (lv_room (Nat.le_of_ble_eq_true rfl)) dX6_node_123 ⟨Nat.zero_le _, Nat.zero_le _⟩) ?_
                  refine lv_goto (tgt := 130) hx hb dX6_node_126 (by decide) ?_
                  obtain rfl := Option.some.inj hf
                  exact kg_iretW hx hb hr hlk rfl hP hD hS dX6_node_130
  · refine lv_iconst (v := (-1)) hx hb dX6_node_13 (by decide) ?_
    obtain rfl := Option.some.inj hf
    exact kg_iretW hx hb hr hlk rfl hP hD hS dX6_node_14
set_option maxHeartbeats 4000000 in
set_option maxRecDepth 100000 in
theorem c_X6_block (l : Launch) (dC : Nat → ClassId) (dI : Nat → Nat → Nat) (cI cJ : ClassId) (A : Nat → Nat) (hq : Nat) (x : MdS) (v1 : Int32) (v2 : Int32) (r0 : (Int32 × MdS)) (hf : Md_m_block x v1 v2 = some r0) : MWi l yX6_block (wAll yX6_block cX6_block 3 (some .int)) ({ frames := 7, cells := 0, slots := 0, locals := 183 } : Room) [.ref (A 0), .int v1, .int v2] hq (dC, dI) (vTy cI cJ) (wMd cI cJ A x) (wMd cI cJ A r0.2) r0.1 := by
  refine kg_metW (Qc := fun Q => QWi (dC, dI) Q (wMd cI cJ A r0.2) r0.1) (cc := cX6_block) (maxL := 3) (ret := (some .int)) (by decide) rfl (Nat.le_of_ble_eq_true rfl) ?_
  intro p e s m args below meth c Q hx hb hr hts hown hlk hml hP hK hN hD hA hS ls hl
  have hl : lv_has ls 3 [(0, .ref (A 0)), (1, .int v1), (2, .int v2)] := hl
  have ww0 := hts (.fieldLink RX6 71 "SafeBlocksModel" "told" "I") (List.mem_cons_of_mem _ wd_9_3)
  have ww1 := hts (.fieldLink RX6 26 "SafeBlocksModel" "parent" "[I") (List.mem_cons_of_mem _ wd_8_4)
  have ww2 := hts (.fieldLink RX6 29 "SafeBlocksModel" "up" "[I") (List.mem_cons_of_mem _ wd_8_5)
  have hiX6 : ∀ w ∈ u_ws RX6 TX6 30, w ∈ wAll yX6_block cX6_block 3 (some .int) := fun w h => List.mem_cons_of_mem _ (inlX6 w h)
  suffices hgo : ∀ (H : Heap) (locs : List Loc), va_P (dC, dI) vwCl (wMd cI cJ A x) H → va_S Q s.heap H locs → W p l e ({ frames := 7, cells := 0, slots := 0, locals := 183 } : Room) s m args below meth c H locs 0 0 (MQ below (QWi (dC, dI) Q (wMd cI cJ A r0.2) r0.1) args s 0 0 Q) (F0 m 0 ls []) from hgo _ _ hP hS
  clear hP hS
  intro H locs hP hS
  unfold Md_m_block at hf
  refine lv_aload_n hx hb dX6_block_0 rfl (lv_at hl 0 rfl) ?_
  refine lv_iconst (v := 0) hx hb dX6_block_1 (by decide) ?_
  refine kg_put (ci := 6) (v := .int 0) (ty := .int) (C := RX6) (T := TX6) (N := 30) (wz := (wMd cI cJ A (Md_set_told x 0))) hx hb hts hiX6 tyX6 tyX6_ok nmX6 hown hK hP hD hS 0 rfl rfl 0 (by decide) ww0 (fun _ h9 => h9) rfl (tyX6_ok 0 (by decide)) rfl rfl (Nat.le_of_ble_eq_true rfl) dX6_block_2 (sc_Md_told _ _ _ _ _) (fun H locs hP hD hS => ?_)
  refine lv_aload_n hx hb dX6_block_5 rfl (lv_at hl 0 rfl) ?_
  obtain ⟨g6, hc, hf⟩ := ob_bind hf
  have hPx := kg_eqP (kg_slf _) hP
  have hDx := kg_eqD (kg_slf _) hD
  refine kg_retWv (pre := ([] : va_W)) (wc := wMd cI cJ A (Md_set_told x 0)) (post := ([] : va_W)) (w1 := wMd cI cJ A g6) (wz := (wMd cI cJ A g6)) (kg_slf _).symm hPx hDx hS hA (va_runV (As := []) (rest := []) ⟨hx, hb, hml, hown, hts⟩ (c_X6_runsAll l dC dI cI cJ A H.size (Md_set_told x 0) _ hc) (cwV 0 hts (gw_V wd_12_17 wd_12_14 wd_12_15 wd_12_16 wd_1_5) rfl rfl rfl qX6_runsAll ⟨Nat.le_of_ble_eq_true rfl, Nat.le_of_ble_eq_true rfl⟩) (kg_preVW (ci := 6) (q := (RX6, TX6, 30)) (q0 := 0) (kg_cutP hPx) (kg_cutD hDx) hK hN rfl rfl) rfl rfl hl.1 rfl (lv_room (Nat.le_of_ble_eq_true rfl)) dX6_block_6 ⟨Nat.zero_le _, Nat.zero_le _⟩) (fun H locs hP hD hS => ?_)
  refine lv_aload_n hx hb dX6_block_9 rfl (lv_at hl 0 rfl) ?_
  refine lv_iload_n hx hb dX6_block_10 rfl (lv_at hl 1 rfl) ?_
  obtain ⟨g11, hc, hf⟩ := ob_bind hf
  have hPc : va_P (dC, dI) vwCl (wMd cI cJ A g6) H := hP
  refine kg_retRi (va_runV (As := [.int v1]) (rest := []) ⟨hx, hb, hml, hown, hts⟩ (c_X6_isBlock l dC dI cI cJ A H g6 v1 _ hc) (cwV 1 hts (gw_V wd_24_17 wd_24_14 wd_24_15 wd_24_16 wd_1_5) rfl rfl rfl qX6_isBlock ⟨Nat.le_of_ble_eq_true rfl, Nat.le_of_ble_eq_true rfl⟩) (kg_preVR (ci := 6) (q := (RX6, TX6, 30)) (q0 := 0) hPc hK hN rfl rfl) rfl rfl hl.1 rfl (lv_room (Nat.le_of_ble_eq_true rfl)) dX6_block_11 ⟨Nat.zero_le _, Nat.zero_le _⟩) ?_
  refine kg_b_ne (tgt := 19) hx hb hf dX6_block_14 (by decide) (fun hc hf => ?_) (fun hc hf => ?_)
  · refine lv_aload_n hx hb dX6_block_19 rfl (lv_at hl 0 rfl) ?_
    obtain ⟨g20, hc, hf⟩ := ob_bind hf
    have hPx := kg_eqP (kg_slf _) hP
    have hDx := kg_eqD (kg_slf _) hD
    refine kg_retWv (pre := ([] : va_W)) (wc := wMd cI cJ A g6) (post := ([] : va_W)) (w1 := wMd cI cJ A g20) (wz := (wMd cI cJ A g20)) (kg_slf _).symm hPx hDx hS hA (va_runV (As := []) (rest := []) ⟨hx, hb, hml, hown, hts⟩ (c_X6_laysAllParts l dC dI cI cJ A H.size g6 _ hc) (cwV 0 hts (gw_V wd_19_1 wd_18_22 wd_18_23 wd_19_0 wd_1_5) rfl rfl rfl qX6_laysAllParts ⟨Nat.le_of_ble_eq_true rfl, Nat.le_of_ble_eq_true rfl⟩) (kg_preVW (ci := 6) (q := (RX6, TX6, 30)) (q0 := 0) (kg_cutP hPx) (kg_cutD hDx) hK hN rfl rfl) rfl rfl hl.1 rfl (lv_room (Nat.le_of_ble_eq_true rfl)) dX6_block_20 ⟨Nat.zero_le _, Nat.zero_le _⟩) (fun H locs hP hD hS => ?_)
    refine lv_iload_n hx hb dX6_block_23 rfl (lv_at hl 2 rfl) ?_
    by_cases hc0 : v2 = 0
    · rw [if_pos hc0] at hf
      refine lv_tableIn (tgt := 80) (off := 56) hx hb dX6_block_24 (by rw [hc0]; decide) (by rw [hc0]; decide) (by rw [hc0]; rfl) (by decide) ?_
      refine lv_aload_n hx hb dX6_block_80 rfl (lv_at hl 0 rfl) ?_
      refine lv_iconst (v := 0) hx hb dX6_block_81 (by decide) ?_
      refine lv_iload_n hx hb dX6_block_82 rfl (lv_at hl 1 rfl) ?_
      obtain ⟨g83, hc, hf⟩ := ob_bind hf
      have hPc : va_P (dC, dI) vwCl (wMd cI cJ A g20) H := hP
      refine kg_retRi (va_runV (As := [.int 0, .int v1]) (rest := []) ⟨hx, hb, hml, hown, hts⟩ (c_X6_sizeOf l dC dI cI cJ A H g20 0 v1 _ hc) (cwV 2 hts (gw_V wd_13_21 wd_13_18 wd_13_19 wd_13_20 wd_1_5) rfl rfl rfl qX6_sizeOf ⟨Nat.le_of_ble_eq_true rfl, Nat.le_of_ble_eq_true rfl⟩) (kg_preVR (ci := 6) (q := (RX6, TX6, 30)) (q0 := 0) hPc hK hN rfl rfl) rfl rfl hl.1 rfl (lv_room (Nat.le_of_ble_eq_true rfl)) dX6_block_83 ⟨Nat.zero_le _, Nat.zero_le _⟩) ?_
      obtain rfl := Option.some.inj hf
      exact kg_iretW hx hb hr hlk rfl hP hD hS dX6_block_86
    · rw [if_neg hc0] at hf
      by_cases hc1 : v2 = 1
      · rw [if_pos hc1] at hf
        refine lv_tableIn (tgt := 87) (off := 63) hx hb dX6_block_24 (by rw [hc1]; decide) (by rw [hc1]; decide) (by rw [hc1]; rfl) (by decide) ?_
        refine lv_aload_n hx hb dX6_block_87 rfl (lv_at hl 0 rfl) ?_
        refine lv_aload_n hx hb dX6_block_88 rfl (lv_at hl 0 rfl) ?_
        refine lv_iconst (v := 0) hx hb dX6_block_89 (by decide) ?_
        refine lv_iload_n hx hb dX6_block_90 rfl (lv_at hl 1 rfl) ?_
        obtain ⟨g91, hc, hf⟩ := ob_bind hf
        have hPc : va_P (dC, dI) vwCl (wMd cI cJ A g20) H := hP
        refine kg_retRi (va_runV (As := [.int 0, .int v1]) (rest := [.ref (A 0)]) ⟨hx, hb, hml, hown, hts⟩ (c_X6_nodesOf l dC dI cI cJ A H g20 0 v1 _ hc) (cwV 2 hts (gw_V wd_24_21 wd_24_18 wd_24_19 wd_24_20 wd_1_5) rfl rfl rfl qX6_nodesOf ⟨Nat.le_of_ble_eq_true rfl, Nat.le_of_ble_eq_true rfl⟩) (kg_preVR (ci := 6) (q := (RX6, TX6, 30)) (q0 := 0) hPc hK hN rfl rfl) rfl rfl hl.1 rfl (lv_room (Nat.le_of_ble_eq_true rfl)) dX6_block_91 ⟨Nat.zero_le _, Nat.zero_le _⟩) ?_
        obtain ⟨g94, hc, hf⟩ := ob_bind hf
        have hPc : va_P (dC, dI) vwCl (wMd cI cJ A g20) H := hP
        refine kg_retRi (va_runV (As := [.int g91]) (rest := []) ⟨hx, hb, hml, hown, hts⟩ (c_X6_least l dC dI cI cJ A H g20 g91 _ hc) (cwV 1 hts (gw_V wd_25_1 wd_24_22 wd_24_23 wd_25_0 wd_1_5) rfl rfl rfl qX6_least ⟨Nat.le_of_ble_eq_true rfl, Nat.le_of_ble_eq_true rfl⟩) (kg_preVR (ci := 6) (q := (RX6, TX6, 30)) (q0 := 0) hPc hK hN rfl rfl) rfl rfl hl.1 rfl (lv_room (Nat.le_of_ble_eq_true rfl)) dX6_block_94 ⟨Nat.zero_le _, Nat.zero_le _⟩) ?_
        obtain rfl := Option.some.inj hf
        exact kg_iretW hx hb hr hlk rfl hP hD hS dX6_block_97
      · rw [if_neg hc1] at hf
        by_cases hc2 : v2 = 2
        · rw [if_pos hc2] at hf
          refine lv_tableIn (tgt := 98) (off := 74) hx hb dX6_block_24 (by rw [hc2]; decide) (by rw [hc2]; decide) (by rw [hc2]; rfl) (by decide) ?_
          refine lv_aload_n hx hb dX6_block_98 rfl (lv_at hl 0 rfl) ?_
          refine lv_iload_n hx hb dX6_block_99 rfl (lv_at hl 1 rfl) ?_
          obtain ⟨g100, hc, hf⟩ := ob_bind hf
          have hPc : va_P (dC, dI) vwCl (wMd cI cJ A g20) H := hP
          refine kg_retRi (va_runV (As := [.int v1]) (rest := []) ⟨hx, hb, hml, hown, hts⟩ (c_X6_linksIn l dC dI cI cJ A H g20 v1 _ hc) (cwV 1 hts (gw_V wd_25_5 wd_25_2 wd_25_3 wd_25_4 wd_1_5) rfl rfl rfl qX6_linksIn ⟨Nat.le_of_ble_eq_true rfl, Nat.le_of_ble_eq_true rfl⟩) (kg_preVR (ci := 6) (q := (RX6, TX6, 30)) (q0 := 0) hPc hK hN rfl rfl) rfl rfl hl.1 rfl (lv_room (Nat.le_of_ble_eq_true rfl)) dX6_block_100 ⟨Nat.zero_le _, Nat.zero_le _⟩) ?_
          obtain rfl := Option.some.inj hf
          exact kg_iretW hx hb hr hlk rfl hP hD hS dX6_block_103
        · rw [if_neg hc2] at hf
          by_cases hc3 : v2 = 3
          · rw [if_pos hc3] at hf
            refine lv_tableIn (tgt := 104) (off := 80) hx hb dX6_block_24 (by rw [hc3]; decide) (by rw [hc3]; decide) (by rw [hc3]; rfl) (by decide) ?_
            refine lv_aload_n hx hb dX6_block_104 rfl (lv_at hl 0 rfl) ?_
            refine lv_iload_n hx hb dX6_block_105 rfl (lv_at hl 1 rfl) ?_
            obtain ⟨g106, hc, hf⟩ := ob_bind hf
            have hPc : va_P (dC, dI) vwCl (wMd cI cJ A g20) H := hP
            refine kg_retRi (va_runV (As := [.int v1]) (rest := []) ⟨hx, hb, hml, hown, hts⟩ (c_X6_bridgesAt l dC dI cI cJ A H g20 v1 _ hc) (cwV 1 hts (gw_V wd_25_9 wd_25_6 wd_25_7 wd_25_8 wd_1_5) rfl rfl rfl qX6_bridgesAt ⟨Nat.le_of_ble_eq_true rfl, Nat.le_of_ble_eq_true rfl⟩) (kg_preVR (ci := 6) (q := (RX6, TX6, 30)) (q0 := 0) hPc hK hN rfl rfl) rfl rfl hl.1 rfl (lv_room (Nat.le_of_ble_eq_true rfl)) dX6_block_106 ⟨Nat.zero_le _, Nat.zero_le _⟩) ?_
            obtain rfl := Option.some.inj hf
            exact kg_iretW hx hb hr hlk rfl hP hD hS dX6_block_109
          · rw [if_neg hc3] at hf
            by_cases hc4 : v2 = 4
            · rw [if_pos hc4] at hf
              refine lv_tableIn (tgt := 110) (off := 86) hx hb dX6_block_24 (by rw [hc4]; decide) (by rw [hc4]; decide) (by rw [hc4]; rfl) (by decide) ?_
              refine lv_aload_n hx hb dX6_block_110 rfl (lv_at hl 0 rfl) ?_
              refine va_get (D := (dC, dI)) (ci := 6) (v := .ref (A 4)) (C := RX6) (T := TX6) (N := 30) hx hb hts hiX6 hown hK hP 0 rfl rfl 8 (by decide) ww1 (fun _ h9 => h9) rfl dX6_block_111 ?_
              refine lv_iload_n hx hb dX6_block_114 rfl (lv_at hl 1 rfl) ?_
              obtain ⟨g115, hv, hf⟩ := ob_bind hf
              refine kg_iald hx hb hK hP 4 0 rfl rfl hv dX6_block_115 ?_
              obtain rfl := Option.some.inj hf
              exact kg_iretW hx hb hr hlk rfl hP hD hS dX6_block_116
            · rw [if_neg hc4] at hf
              by_cases hc5 : v2 = 5
              · rw [if_pos hc5] at hf
                refine lv_tableIn (tgt := 117) (off := 93) hx hb dX6_block_24 (by rw [hc5]; decide) (by rw [hc5]; decide) (by rw [hc5]; rfl) (by decide) ?_
                refine lv_aload_n hx hb dX6_block_117 rfl (lv_at hl 0 rfl) ?_
                refine va_get (D := (dC, dI)) (ci := 6) (v := .ref (A 5)) (C := RX6) (T := TX6) (N := 30) hx hb hts hiX6 hown hK hP 0 rfl rfl 9 (by decide) ww2 (fun _ h9 => h9) rfl dX6_block_118 ?_
                refine lv_iload_n hx hb dX6_block_121 rfl (lv_at hl 1 rfl) ?_
                obtain ⟨g122, hv, hf⟩ := ob_bind hf
                refine kg_iald hx hb hK hP 5 0 rfl rfl hv dX6_block_122 ?_
                obtain rfl := Option.some.inj hf
                exact kg_iretW hx hb hr hlk rfl hP hD hS dX6_block_123
              · rw [if_neg hc5] at hf
                by_cases hc6 : v2 = 6
                · rw [if_pos hc6] at hf
                  refine lv_tableIn (tgt := 124) (off := 100) hx hb dX6_block_24 (by rw [hc6]; decide) (by rw [hc6]; decide) (by rw [hc6]; rfl) (by decide) ?_
                  refine lv_aload_n hx hb dX6_block_124 rfl (lv_at hl 0 rfl) ?_
                  refine lv_iload_n hx hb dX6_block_125 rfl (lv_at hl 1 rfl) ?_
                  obtain ⟨g126, hc, hf⟩ := ob_bind hf
                  have hPc : va_P (dC, dI) vwCl (wMd cI cJ A g20) H := hP
                  refine kg_retRi (va_runV (As := [.int v1]) (rest := []) ⟨hx, hb, hml, hown, hts⟩ (c_X6_deep l dC dI cI cJ A H g20 v1 _ hc) (cwV 1 hts (gw_V wd_14_21 wd_14_18 wd_14_19 wd_14_20 wd_1_5) rfl rfl rfl qX6_deep ⟨Nat.le_of_ble_eq_true rfl, Nat.le_of_ble_eq_true rfl⟩) (kg_preVR (ci := 6) (q := (RX6, TX6, 30)) (q0 := 0) hPc hK hN rfl rfl) rfl rfl hl.1 rfl (lv_room (Nat.le_of_ble_eq_true rfl)) dX6_block_126 ⟨Nat.zero_le _, Nat.zero_le _⟩) ?_
                  obtain rfl := Option.some.inj hf
                  exact kg_iretW hx hb hr hlk rfl hP hD hS dX6_block_129
                · rw [if_neg hc6] at hf
                  by_cases hc7 : v2 = 7
                  · rw [if_pos hc7] at hf
                    refine lv_tableIn (tgt := 130) (off := 106) hx hb dX6_block_24 (by rw [hc7]; decide) (by rw [hc7]; decide) (by rw [hc7]; rfl) (by decide) ?_
                    refine lv_aload_n hx hb dX6_block_130 rfl (lv_at hl 0 rfl) ?_
                    refine lv_iload_n hx hb dX6_block_131 rfl (lv_at hl 1 rfl) ?_
                    obtain ⟨g132, hc, hf⟩ := ob_bind hf
                    have hPc : va_P (dC, dI) vwCl (wMd cI cJ A g20) H := hP
                    refine kg_retRi (va_runV (As := [.int v1]) (rest := []) ⟨hx, hb, hml, hown, hts⟩ (c_X6_children l dC dI cI cJ A H g20 v1 _ hc) (cwV 1 hts (gw_V wd_25_13 wd_25_10 wd_25_11 wd_25_12 wd_1_5) rfl rfl rfl qX6_children ⟨Nat.le_of_ble_eq_true rfl, Nat.le_of_ble_eq_true rfl⟩) (kg_preVR (ci := 6) (q := (RX6, TX6, 30)) (q0 := 0) hPc hK hN rfl rfl) rfl rfl hl.1 rfl (lv_room (Nat.le_of_ble_eq_true rfl)) dX6_block_132 ⟨Nat.zero_le _, Nat.zero_le _⟩) ?_
                    obtain rfl := Option.some.inj hf
                    exact kg_iretW hx hb hr hlk rfl hP hD hS dX6_block_135
                  · rw [if_neg hc7] at hf
                    by_cases hc8 : v2 = 8
                    · rw [if_pos hc8] at hf
                      refine lv_tableIn (tgt := 136) (off := 112) hx hb dX6_block_24 (by rw [hc8]; decide) (by rw [hc8]; decide) (by rw [hc8]; rfl) (by decide) ?_
                      refine lv_aload_n hx hb dX6_block_136 rfl (lv_at hl 0 rfl) ?_
                      refine lv_iload_n hx hb dX6_block_137 rfl (lv_at hl 1 rfl) ?_
                      obtain ⟨g138, hc, hf⟩ := ob_bind hf
                      have hPc : va_P (dC, dI) vwCl (wMd cI cJ A g20) H := hP
                      refine kg_retRi (va_runV (As := [.int v1]) (rest := []) ⟨hx, hb, hml, hown, hts⟩ (c_X6_cutsIn l dC dI cI cJ A H g20 v1 _ hc) (cwV 1 hts (gw_V wd_25_17 wd_25_14 wd_25_15 wd_25_16 wd_1_5) rfl rfl rfl qX6_cutsIn ⟨Nat.le_of_ble_eq_true rfl, Nat.le_of_ble_eq_true rfl⟩) (kg_preVR (ci := 6) (q := (RX6, TX6, 30)) (q0 := 0) hPc hK hN rfl rfl) rfl rfl hl.1 rfl (lv_room (Nat.le_of_ble_eq_true rfl)) dX6_block_138 ⟨Nat.zero_le _, Nat.zero_le _⟩) ?_
                      obtain rfl := Option.some.inj hf
                      exact kg_iretW hx hb hr hlk rfl hP hD hS dX6_block_141
                    · rw [if_neg hc8] at hf
                      by_cases hc9 : v2 = 9
                      · rw [if_pos hc9] at hf
                        refine lv_tableIn (tgt := 142) (off := 118) hx hb dX6_block_24 (by rw [hc9]; decide) (by rw [hc9]; decide) (by rw [hc9]; rfl) (by decide) ?_
                        refine lv_aload_n hx hb dX6_block_142 rfl (lv_at hl 0 rfl) ?_
                        refine lv_iconst (v := 0) hx hb dX6_block_143 (by decide) ?_
                        refine lv_iload_n hx hb dX6_block_144 rfl (lv_at hl 1 rfl) ?_
                        obtain ⟨g145, hc, hf⟩ := ob_bind hf
                        have hPc : va_P (dC, dI) vwCl (wMd cI cJ A g20) H := hP
                        refine kg_retRi (va_runV (As := [.int 0, .int v1]) (rest := []) ⟨hx, hb, hml, hown, hts⟩ (c_X6_partsIn l dC dI cI cJ A H g20 0 v1 _ hc) (cwV 2 hts (gw_V wd_25_21 wd_25_18 wd_25_19 wd_25_20 wd_1_5) rfl rfl rfl qX6_partsIn ⟨Nat.le_of_ble_eq_true rfl, Nat.le_of_ble_eq_true rfl⟩) (kg_preVR (ci := 6) (q := (RX6, TX6, 30)) (q0 := 0) hPc hK hN rfl rfl) rfl rfl hl.1 rfl (lv_room (Nat.le_of_ble_eq_true rfl)) dX6_block_145 ⟨Nat.zero_le _, Nat.zero_le _⟩) ?_
                        obtain rfl := Option.some.inj hf
                        exact kg_iretW hx hb hr hlk rfl hP hD hS dX6_block_148
                      · rw [if_neg hc9] at hf
                        have ehc0 := ne_toInt hc0 (k := 0) (by decide)
                        have ehc1 := ne_toInt hc1 (k := 1) (by decide)
                        have ehc2 := ne_toInt hc2 (k := 2) (by decide)
                        have ehc3 := ne_toInt hc3 (k := 3) (by decide)
                        have ehc4 := ne_toInt hc4 (k := 4) (by decide)
                        have ehc5 := ne_toInt hc5 (k := 5) (by decide)
                        have ehc6 := ne_toInt hc6 (k := 6) (by decide)
                        have ehc7 := ne_toInt hc7 (k := 7) (by decide)
                        have ehc8 := ne_toInt hc8 (k := 8) (by decide)
                        have ehc9 := ne_toInt hc9 (k := 9) (by decide)
                        refine lv_tableOut (tgt := 149) hx hb dX6_block_24 (by omega) (by decide) ?_
                        refine lv_iload_n hx hb dX6_block_149 rfl (lv_at hl 2 rfl) ?_
                        refine lv_bipush (v := 10) hx hb dX6_block_150 (by decide) ?_
                        refine kg_icmp_ne (tgt := 163) hx hb hf dX6_block_152 (by decide) (fun hc hf => ?_) (fun hc hf => ?_)
                        · refine lv_iconst (v := (-1)) hx hb dX6_block_163 (by decide) ?_
                          obtain rfl := Option.some.inj hf
                          exact kg_iretW hx hb hr hlk rfl hP hD hS dX6_block_164
                        · refine lv_aload_n hx hb dX6_block_155 rfl (lv_at hl 0 rfl) ?_
                          refine lv_iload_n hx hb dX6_block_156 rfl (lv_at hl 1 rfl) ?_
                          obtain ⟨g157, hc, hf⟩ := ob_bind hf
                          have hPc : va_P (dC, dI) vwCl (wMd cI cJ A g20) H := hP
                          refine kg_retRi (va_runV (As := [.int v1]) (rest := []) ⟨hx, hb, hml, hown, hts⟩ (c_X6_below l dC dI cI cJ A H g20 v1 _ hc) (cwV 1 hts (gw_V wd_26_1 wd_25_22 wd_25_23 wd_26_0 wd_1_5) rfl rfl rfl qX6_below ⟨Nat.le_of_ble_eq_true rfl, Nat.le_of_ble_eq_true rfl⟩) (kg_preVR (ci := 6) (q := (RX6, TX6, 30)) (q0 := 0) hPc hK hN rfl rfl) rfl rfl hl.1 rfl (lv_room (Nat.le_of_ble_eq_true rfl)) dX6_block_157 ⟨Nat.zero_le _, Nat.zero_le _⟩) ?_
                          refine lv_goto (tgt := 164) hx hb dX6_block_160 (by decide) ?_
                          obtain rfl := Option.some.inj hf
                          exact kg_iretW hx hb hr hlk rfl hP hD hS dX6_block_164
  · refine lv_iconst (v := (-1)) hx hb dX6_block_17 (by decide) ?_
    obtain rfl := Option.some.inj hf
    exact kg_iretW hx hb hr hlk rfl hP hD hS dX6_block_18
set_option maxHeartbeats 4000000 in
set_option maxRecDepth 100000 in
theorem c_X6_member (l : Launch) (dC : Nat → ClassId) (dI : Nat → Nat → Nat) (cI cJ : ClassId) (A : Nat → Nat) (hq : Nat) (x : MdS) (v1 : Int32) (v2 : Int32) (r0 : (Int32 × MdS)) (hf : Md_m_member x v1 v2 = some r0) : MWi l yX6_member (wAll yX6_member cX6_member 5 (some .int)) ({ frames := 7, cells := 0, slots := 0, locals := 183 } : Room) [.ref (A 0), .int v1, .int v2] hq (dC, dI) (vTy cI cJ) (wMd cI cJ A x) (wMd cI cJ A r0.2) r0.1 := by
  refine kg_metW (Qc := fun Q => QWi (dC, dI) Q (wMd cI cJ A r0.2) r0.1) (cc := cX6_member) (maxL := 5) (ret := (some .int)) (by decide) rfl (Nat.le_of_ble_eq_true rfl) ?_
  intro p e s m args below meth c Q hx hb hr hts hown hlk hml hP hK hN hD hA hS ls hl
  have hl : lv_has ls 5 [(0, .ref (A 0)), (1, .int v1), (2, .int v2)] := hl
  have ww0 := hts (.fieldLink RX6 71 "SafeBlocksModel" "told" "I") (List.mem_cons_of_mem _ wd_9_3)
  have ww1 := hts (.fieldLink RX6 7 "SafeBlocksModel" "n" "I") (List.mem_cons_of_mem _ wd_7_23)
  have hiX6 : ∀ w ∈ u_ws RX6 TX6 30, w ∈ wAll yX6_member cX6_member 5 (some .int) := fun w h => List.mem_cons_of_mem _ (inlX6 w h)
  suffices hgo : ∀ (H : Heap) (locs : List Loc), va_P (dC, dI) vwCl (wMd cI cJ A x) H → va_S Q s.heap H locs → W p l e ({ frames := 7, cells := 0, slots := 0, locals := 183 } : Room) s m args below meth c H locs 0 0 (MQ below (QWi (dC, dI) Q (wMd cI cJ A r0.2) r0.1) args s 0 0 Q) (F0 m 0 ls []) from hgo _ _ hP hS
  clear hP hS
  intro H locs hP hS
  unfold Md_m_member at hf
  refine lv_aload_n hx hb dX6_member_0 rfl (lv_at hl 0 rfl) ?_
  refine lv_iconst (v := 0) hx hb dX6_member_1 (by decide) ?_
  refine kg_put (ci := 6) (v := .int 0) (ty := .int) (C := RX6) (T := TX6) (N := 30) (wz := (wMd cI cJ A (Md_set_told x 0))) hx hb hts hiX6 tyX6 tyX6_ok nmX6 hown hK hP hD hS 0 rfl rfl 0 (by decide) ww0 (fun _ h9 => h9) rfl (tyX6_ok 0 (by decide)) rfl rfl (Nat.le_of_ble_eq_true rfl) dX6_member_2 (sc_Md_told _ _ _ _ _) (fun H locs hP hD hS => ?_)
  refine lv_aload_n hx hb dX6_member_5 rfl (lv_at hl 0 rfl) ?_
  obtain ⟨g6, hc, hf⟩ := ob_bind hf
  have hPx := kg_eqP (kg_slf _) hP
  have hDx := kg_eqD (kg_slf _) hD
  refine kg_retWv (pre := ([] : va_W)) (wc := wMd cI cJ A (Md_set_told x 0)) (post := ([] : va_W)) (w1 := wMd cI cJ A g6) (wz := (wMd cI cJ A g6)) (kg_slf _).symm hPx hDx hS hA (va_runV (As := []) (rest := []) ⟨hx, hb, hml, hown, hts⟩ (c_X6_runsAll l dC dI cI cJ A H.size (Md_set_told x 0) _ hc) (cwV 0 hts (gw_V wd_12_17 wd_12_14 wd_12_15 wd_12_16 wd_1_5) rfl rfl rfl qX6_runsAll ⟨Nat.le_of_ble_eq_true rfl, Nat.le_of_ble_eq_true rfl⟩) (kg_preVW (ci := 6) (q := (RX6, TX6, 30)) (q0 := 0) (kg_cutP hPx) (kg_cutD hDx) hK hN rfl rfl) rfl rfl hl.1 rfl (lv_room (Nat.le_of_ble_eq_true rfl)) dX6_member_6 ⟨Nat.zero_le _, Nat.zero_le _⟩) (fun H locs hP hD hS => ?_)
  refine lv_aload_n hx hb dX6_member_9 rfl (lv_at hl 0 rfl) ?_
  refine lv_iload_n hx hb dX6_member_10 rfl (lv_at hl 1 rfl) ?_
  obtain ⟨g11, hc, hf⟩ := ob_bind hf
  have hPc : va_P (dC, dI) vwCl (wMd cI cJ A g6) H := hP
  refine kg_retRi (va_runV (As := [.int v1]) (rest := []) ⟨hx, hb, hml, hown, hts⟩ (c_X6_isBlock l dC dI cI cJ A H g6 v1 _ hc) (cwV 1 hts (gw_V wd_24_17 wd_24_14 wd_24_15 wd_24_16 wd_1_5) rfl rfl rfl qX6_isBlock ⟨Nat.le_of_ble_eq_true rfl, Nat.le_of_ble_eq_true rfl⟩) (kg_preVR (ci := 6) (q := (RX6, TX6, 30)) (q0 := 0) hPc hK hN rfl rfl) rfl rfl hl.1 rfl (lv_room (Nat.le_of_ble_eq_true rfl)) dX6_member_11 ⟨Nat.zero_le _, Nat.zero_le _⟩) ?_
  refine kg_b_ne (tgt := 19) hx hb hf dX6_member_14 (by decide) (fun hc hf => ?_) (fun hc hf => ?_)
  · refine lv_iload_n hx hb dX6_member_19 rfl (lv_at hl 2 rfl) ?_
    refine lv_istore_n (lv' := [(3, .int v2), (0, .ref (A 0)), (1, .int v1), (2, .int v2)]) hx hb dX6_member_20 rfl hl (by decide) rfl (fun ls hl => ?_)
    refine lv_iconst (v := 0) hx hb dX6_member_21 (by decide) ?_
    refine lv_istore (lv' := [(4, .int 0), (3, .int v2), (0, .ref (A 0)), (1, .int v1), (2, .int v2)]) hx hb dX6_member_22 hl (by decide) rfl (fun ls hl => ?_)
    have hlp24 : ∀ (x : MdS), ∀ (n : Nat) (v3 : Int32) (v4 : Int32), iter (fun p : Int32 × Int32 => Md_m_member_s24 x v1 p.1 p.2) n (v3, v4) = some r0 → ∀ (H : Heap) (locs : List Loc) (ls : Array Slot), va_P (dC, dI) vwCl (wMd cI cJ A x) H → va_D Q (wMd cI cJ A x) → va_S Q s.heap H locs → lv_has ls 5 [(0, .ref (A 0)), (1, .int v1), (3, .int v3), (4, .int v4)] → W p l e ({ frames := 7, cells := 0, slots := 0, locals := 183 } : Room) s m args below meth c H locs 0 0 (MQ below (QWi (dC, dI) Q (wMd cI cJ A r0.2) r0.1) args s 0 0 Q) (F0 m 24 ls []) := by
      intro x n
      induction n with
      | zero => intro v3 v4 hf; exact iter_zero hf
      | succ n ih1 =>
        intro v3 v4 hf H locs ls hP hD hS hl
        obtain ⟨q1, hf, hk1⟩ := iter_succ hf
        have hf : Md_m_member_s24 x v1 v3 v4 = some q1 := hf
        unfold Md_m_member_s24 at hf
        refine lv_iload hx hb dX6_member_24 (lv_at hl 3 rfl) ?_
        refine lv_aload_n hx hb dX6_member_26 rfl (lv_at hl 0 rfl) ?_
        refine va_get (D := (dC, dI)) (ci := 6) (v := .int (Md_n x)) (C := RX6) (T := TX6) (N := 30) hx hb hts hiX6 hown hK hP 0 rfl rfl 1 (by decide) ww1 (fun _ h9 => h9) rfl dX6_member_27 ?_
        refine kg_icmp_ge (tgt := 63) hx hb hf dX6_member_30 (by decide) (fun hc hf => ?_) (fun hc hf => ?_)
        · obtain ⟨qq, hf, hqq⟩ := omap_some hf
          have hkq : qq = r0 := by rw [← hqq] at hk1; exact hk1
          rw [hkq] at hf
          clear hkq hqq
          refine lv_iconst (v := (-1)) hx hb dX6_member_63 (by decide) ?_
          obtain rfl := Option.some.inj hf
          exact kg_iretW hx hb hr hlk rfl hP hD hS dX6_member_64
        · refine lv_aload_n hx hb dX6_member_33 rfl (lv_at hl 0 rfl) ?_
          refine lv_iload hx hb dX6_member_34 (lv_at hl 3 rfl) ?_
          obtain ⟨g36, hc, hf⟩ := ob_bind hf
          have hPc : va_P (dC, dI) vwCl (wMd cI cJ A x) H := hP
          refine kg_retRi (va_runV (As := [.int v4]) (rest := []) ⟨hx, hb, hml, hown, hts⟩ (c_X6_blockAt l dC dI cI cJ A H x v4 _ hc) (cwV 1 hts (gw_V wd_13_13 wd_13_10 wd_13_11 wd_13_12 wd_1_5) rfl rfl rfl qX6_blockAt ⟨Nat.le_of_ble_eq_true rfl, Nat.le_of_ble_eq_true rfl⟩) (kg_preVR (ci := 6) (q := (RX6, TX6, 30)) (q0 := 0) hPc hK hN rfl rfl) rfl rfl hl.1 rfl (lv_room (Nat.le_of_ble_eq_true rfl)) dX6_member_36 ⟨Nat.zero_le _, Nat.zero_le _⟩) ?_
          refine lv_iload_n hx hb dX6_member_39 rfl (lv_at hl 1 rfl) ?_
          refine kg_icmp_eq (tgt := 46) hx hb hf dX6_member_40 (by decide) (fun hc hf => ?_) (fun hc hf => ?_)
          · refine lv_iload_n hx hb dX6_member_46 rfl (lv_at hl 2 rfl) ?_
            refine kg_if_ne (tgt := 53) hx hb hf dX6_member_47 (by decide) (fun hc hf => ?_) (fun hc hf => ?_)
            · refine lv_iload_n hx hb dX6_member_53 rfl (lv_at hl 2 rfl) ?_
              refine lv_iconst (v := 1) hx hb dX6_member_54 (by decide) ?_
              refine lv_isub hx hb dX6_member_55 ?_
              refine lv_istore_n (lv' := [(3, .int (v3 - 1)), (0, .ref (A 0)), (1, .int v1), (4, .int v4)]) hx hb dX6_member_56 rfl hl (by decide) rfl (fun ls hl => ?_)
              refine lv_iinc (v := (v4 + 1)) (lv' := [(4, .int (v4 + 1)), (3, .int (v3 - 1)), (0, .ref (A 0)), (1, .int v1)]) hx hb dX6_member_57 hl (k := 3) rfl rfl (by decide) rfl (fun ls hl => ?_)
              refine lv_goto (tgt := 24) hx hb dX6_member_60 (by decide) ?_
              obtain rfl := Option.some.inj hf
              exact ih1 (v3 - 1) (v4 + 1) hk1 _ _ _ hP hD hS (lv_sub hl [2, 3, 1, 0] rfl)
            · obtain ⟨qq, hf, hqq⟩ := omap_some hf
              have hkq : qq = r0 := by rw [← hqq] at hk1; exact hk1
              rw [hkq] at hf
              clear hkq hqq
              refine lv_iload hx hb dX6_member_50 (lv_at hl 3 rfl) ?_
              obtain rfl := Option.some.inj hf
              exact kg_iretW hx hb hr hlk rfl hP hD hS dX6_member_52
          · refine lv_goto (tgt := 57) hx hb dX6_member_43 (by decide) ?_
            refine lv_iinc (v := (v4 + 1)) (lv' := [(4, .int (v4 + 1)), (0, .ref (A 0)), (1, .int v1), (3, .int v3)]) hx hb dX6_member_57 hl (k := 3) rfl rfl (by decide) rfl (fun ls hl => ?_)
            refine lv_goto (tgt := 24) hx hb dX6_member_60 (by decide) ?_
            obtain rfl := Option.some.inj hf
            exact ih1 v3 (v4 + 1) hk1 _ _ _ hP hD hS (lv_sub hl [1, 2, 3, 0] rfl)
    exact hlp24 g6 FU v2 0 hf _ _ _ hP hD hS (lv_sub hl [2, 3, 1, 0] rfl)
  · refine lv_iconst (v := (-1)) hx hb dX6_member_17 (by decide) ?_
    obtain rfl := Option.some.inj hf
    exact kg_iretW hx hb hr hlk rfl hP hD hS dX6_member_18
set_option maxHeartbeats 4000000 in
set_option maxRecDepth 100000 in
theorem c_X6_child (l : Launch) (dC : Nat → ClassId) (dI : Nat → Nat → Nat) (cI cJ : ClassId) (A : Nat → Nat) (hq : Nat) (x : MdS) (v1 : Int32) (v2 : Int32) (r0 : (Int32 × MdS)) (hf : Md_m_child x v1 v2 = some r0) : MWi l yX6_child (wAll yX6_child cX6_child 3 (some .int)) ({ frames := 7, cells := 0, slots := 0, locals := 183 } : Room) [.ref (A 0), .int v1, .int v2] hq (dC, dI) (vTy cI cJ) (wMd cI cJ A x) (wMd cI cJ A r0.2) r0.1 := by
  refine kg_metW (Qc := fun Q => QWi (dC, dI) Q (wMd cI cJ A r0.2) r0.1) (cc := cX6_child) (maxL := 3) (ret := (some .int)) (by decide) rfl (Nat.le_of_ble_eq_true rfl) ?_
  intro p e s m args below meth c Q hx hb hr hts hown hlk hml hP hK hN hD hA hS ls hl
  have hl : lv_has ls 3 [(0, .ref (A 0)), (1, .int v1), (2, .int v2)] := hl
  have ww0 := hts (.fieldLink RX6 71 "SafeBlocksModel" "told" "I") (List.mem_cons_of_mem _ wd_9_3)
  have hiX6 : ∀ w ∈ u_ws RX6 TX6 30, w ∈ wAll yX6_child cX6_child 3 (some .int) := fun w h => List.mem_cons_of_mem _ (inlX6 w h)
  suffices hgo : ∀ (H : Heap) (locs : List Loc), va_P (dC, dI) vwCl (wMd cI cJ A x) H → va_S Q s.heap H locs → W p l e ({ frames := 7, cells := 0, slots := 0, locals := 183 } : Room) s m args below meth c H locs 0 0 (MQ below (QWi (dC, dI) Q (wMd cI cJ A r0.2) r0.1) args s 0 0 Q) (F0 m 0 ls []) from hgo _ _ hP hS
  clear hP hS
  intro H locs hP hS
  unfold Md_m_child at hf
  refine lv_aload_n hx hb dX6_child_0 rfl (lv_at hl 0 rfl) ?_
  refine lv_iconst (v := 0) hx hb dX6_child_1 (by decide) ?_
  refine kg_put (ci := 6) (v := .int 0) (ty := .int) (C := RX6) (T := TX6) (N := 30) (wz := (wMd cI cJ A (Md_set_told x 0))) hx hb hts hiX6 tyX6 tyX6_ok nmX6 hown hK hP hD hS 0 rfl rfl 0 (by decide) ww0 (fun _ h9 => h9) rfl (tyX6_ok 0 (by decide)) rfl rfl (Nat.le_of_ble_eq_true rfl) dX6_child_2 (sc_Md_told _ _ _ _ _) (fun H locs hP hD hS => ?_)
  refine lv_aload_n hx hb dX6_child_5 rfl (lv_at hl 0 rfl) ?_
  obtain ⟨g6, hc, hf⟩ := ob_bind hf
  have hPx := kg_eqP (kg_slf _) hP
  have hDx := kg_eqD (kg_slf _) hD
  refine kg_retWv (pre := ([] : va_W)) (wc := wMd cI cJ A (Md_set_told x 0)) (post := ([] : va_W)) (w1 := wMd cI cJ A g6) (wz := (wMd cI cJ A g6)) (kg_slf _).symm hPx hDx hS hA (va_runV (As := []) (rest := []) ⟨hx, hb, hml, hown, hts⟩ (c_X6_runsAll l dC dI cI cJ A H.size (Md_set_told x 0) _ hc) (cwV 0 hts (gw_V wd_12_17 wd_12_14 wd_12_15 wd_12_16 wd_1_5) rfl rfl rfl qX6_runsAll ⟨Nat.le_of_ble_eq_true rfl, Nat.le_of_ble_eq_true rfl⟩) (kg_preVW (ci := 6) (q := (RX6, TX6, 30)) (q0 := 0) (kg_cutP hPx) (kg_cutD hDx) hK hN rfl rfl) rfl rfl hl.1 rfl (lv_room (Nat.le_of_ble_eq_true rfl)) dX6_child_6 ⟨Nat.zero_le _, Nat.zero_le _⟩) (fun H locs hP hD hS => ?_)
  refine lv_aload_n hx hb dX6_child_9 rfl (lv_at hl 0 rfl) ?_
  refine lv_iload_n hx hb dX6_child_10 rfl (lv_at hl 1 rfl) ?_
  obtain ⟨g11, hc, hf⟩ := ob_bind hf
  have hPc : va_P (dC, dI) vwCl (wMd cI cJ A g6) H := hP
  refine kg_retRi (va_runV (As := [.int v1]) (rest := []) ⟨hx, hb, hml, hown, hts⟩ (c_X6_isBlock l dC dI cI cJ A H g6 v1 _ hc) (cwV 1 hts (gw_V wd_24_17 wd_24_14 wd_24_15 wd_24_16 wd_1_5) rfl rfl rfl qX6_isBlock ⟨Nat.le_of_ble_eq_true rfl, Nat.le_of_ble_eq_true rfl⟩) (kg_preVR (ci := 6) (q := (RX6, TX6, 30)) (q0 := 0) hPc hK hN rfl rfl) rfl rfl hl.1 rfl (lv_room (Nat.le_of_ble_eq_true rfl)) dX6_child_11 ⟨Nat.zero_le _, Nat.zero_le _⟩) ?_
  refine kg_b_eq (tgt := 26) hx hb hf dX6_child_14 (by decide) (fun hc hf => ?_) (fun hc hf => ?_)
  · refine lv_iconst (v := (-1)) hx hb dX6_child_26 (by decide) ?_
    obtain rfl := Option.some.inj hf
    exact kg_iretW hx hb hr hlk rfl hP hD hS dX6_child_27
  · refine lv_aload_n hx hb dX6_child_17 rfl (lv_at hl 0 rfl) ?_
    refine lv_iload_n hx hb dX6_child_18 rfl (lv_at hl 1 rfl) ?_
    refine lv_iload_n hx hb dX6_child_19 rfl (lv_at hl 2 rfl) ?_
    obtain ⟨g20, hc, hf⟩ := ob_bind hf
    have hPc : va_P (dC, dI) vwCl (wMd cI cJ A g6) H := hP
    refine kg_retRi (va_runV (As := [.int v1, .int v2]) (rest := []) ⟨hx, hb, hml, hown, hts⟩ (c_X6_childOf l dC dI cI cJ A H g6 v1 v2 _ hc) (cwV 2 hts (gw_V wd_26_18 wd_26_15 wd_26_16 wd_26_17 wd_1_5) rfl rfl rfl qX6_childOf ⟨Nat.le_of_ble_eq_true rfl, Nat.le_of_ble_eq_true rfl⟩) (kg_preVR (ci := 6) (q := (RX6, TX6, 30)) (q0 := 0) hPc hK hN rfl rfl) rfl rfl hl.1 rfl (lv_room (Nat.le_of_ble_eq_true rfl)) dX6_child_20 ⟨Nat.zero_le _, Nat.zero_le _⟩) ?_
    refine lv_goto (tgt := 27) hx hb dX6_child_23 (by decide) ?_
    obtain rfl := Option.some.inj hf
    exact kg_iretW hx hb hr hlk rfl hP hD hS dX6_child_27
set_option maxHeartbeats 4000000 in
set_option maxRecDepth 100000 in
theorem c_X6_land (l : Launch) (dC : Nat → ClassId) (dI : Nat → Nat → Nat) (cI cJ : ClassId) (A : Nat → Nat) (hq : Nat) (x : MdS) (v1 : Int32) (v2 : Int32) (r0 : (Int32 × MdS)) (hf : Md_m_land x v1 v2 = some r0) : MWi l yX6_land (wAll yX6_land cX6_land 3 (some .int)) ({ frames := 7, cells := 0, slots := 0, locals := 183 } : Room) [.ref (A 0), .int v1, .int v2] hq (dC, dI) (vTy cI cJ) (wMd cI cJ A x) (wMd cI cJ A r0.2) r0.1 := by
  refine kg_metW (Qc := fun Q => QWi (dC, dI) Q (wMd cI cJ A r0.2) r0.1) (cc := cX6_land) (maxL := 3) (ret := (some .int)) (by decide) rfl (Nat.le_of_ble_eq_true rfl) ?_
  intro p e s m args below meth c Q hx hb hr hts hown hlk hml hP hK hN hD hA hS ls hl
  have hl : lv_has ls 3 [(0, .ref (A 0)), (1, .int v1), (2, .int v2)] := hl
  have ww0 := hts (.fieldLink RX6 71 "SafeBlocksModel" "told" "I") (List.mem_cons_of_mem _ wd_9_3)
  have hiX6 : ∀ w ∈ u_ws RX6 TX6 30, w ∈ wAll yX6_land cX6_land 3 (some .int) := fun w h => List.mem_cons_of_mem _ (inlX6 w h)
  suffices hgo : ∀ (H : Heap) (locs : List Loc), va_P (dC, dI) vwCl (wMd cI cJ A x) H → va_S Q s.heap H locs → W p l e ({ frames := 7, cells := 0, slots := 0, locals := 183 } : Room) s m args below meth c H locs 0 0 (MQ below (QWi (dC, dI) Q (wMd cI cJ A r0.2) r0.1) args s 0 0 Q) (F0 m 0 ls []) from hgo _ _ hP hS
  clear hP hS
  intro H locs hP hS
  unfold Md_m_land at hf
  have hj125 : ∀ (x : MdS), Md_m_land_j125 x v1 v2 = some r0 → ∀ (H : Heap) (locs : List Loc) (ls : Array Slot), va_P (dC, dI) vwCl (wMd cI cJ A x) H → va_D Q (wMd cI cJ A x) → va_S Q s.heap H locs → lv_has ls 3 [(0, .ref (A 0)), (1, .int v1), (2, .int v2)] → W p l e ({ frames := 7, cells := 0, slots := 0, locals := 183 } : Room) s m args below meth c H locs 0 0 (MQ below (QWi (dC, dI) Q (wMd cI cJ A r0.2) r0.1) args s 0 0 Q) (F0 m 125 ls []) := by
    intro x hf H locs ls hP hD hS hl
    unfold Md_m_land_j125 at hf
    refine lv_aload_n hx hb dX6_land_125 rfl (lv_at hl 0 rfl) ?_
    refine lv_iload_n hx hb dX6_land_126 rfl (lv_at hl 1 rfl) ?_
    refine lv_iload_n hx hb dX6_land_127 rfl (lv_at hl 2 rfl) ?_
    refine lv_bipush (v := 7) hx hb dX6_land_128 (by decide) ?_
    refine lv_isub hx hb dX6_land_130 ?_
    obtain ⟨g131, hc, hf⟩ := ob_bind hf
    have hPc : va_P (dC, dI) vwCl (wMd cI cJ A x) H := hP
    refine kg_retRi (va_runV (As := [.int v1, .int (v2 - 7)]) (rest := []) ⟨hx, hb, hml, hown, hts⟩ (c_X6_longest l dC dI cI cJ A H x v1 (v2 - 7) _ hc) (cwV 2 hts (gw_V wd_30_23 wd_30_20 wd_30_21 wd_30_22 wd_1_5) rfl rfl rfl qX6_longest ⟨Nat.le_of_ble_eq_true rfl, Nat.le_of_ble_eq_true rfl⟩) (kg_preVR (ci := 6) (q := (RX6, TX6, 30)) (q0 := 0) hPc hK hN rfl rfl) rfl rfl hl.1 rfl (lv_room (Nat.le_of_ble_eq_true rfl)) dX6_land_131 ⟨Nat.zero_le _, Nat.zero_le _⟩) ?_
    obtain rfl := Option.some.inj hf
    exact kg_iretW hx hb hr hlk rfl hP hD hS dX6_land_134
  refine lv_aload_n hx hb dX6_land_0 rfl (lv_at hl 0 rfl) ?_
  refine lv_iconst (v := 0) hx hb dX6_land_1 (by decide) ?_
  refine kg_put (ci := 6) (v := .int 0) (ty := .int) (C := RX6) (T := TX6) (N := 30) (wz := (wMd cI cJ A (Md_set_told x 0))) hx hb hts hiX6 tyX6 tyX6_ok nmX6 hown hK hP hD hS 0 rfl rfl 0 (by decide) ww0 (fun _ h9 => h9) rfl (tyX6_ok 0 (by decide)) rfl rfl (Nat.le_of_ble_eq_true rfl) dX6_land_2 (sc_Md_told _ _ _ _ _) (fun H locs hP hD hS => ?_)
  refine lv_aload_n hx hb dX6_land_5 rfl (lv_at hl 0 rfl) ?_
  obtain ⟨g6, hc, hf⟩ := ob_bind hf
  have hPx := kg_eqP (kg_slf _) hP
  have hDx := kg_eqD (kg_slf _) hD
  refine kg_retWv (pre := ([] : va_W)) (wc := wMd cI cJ A (Md_set_told x 0)) (post := ([] : va_W)) (w1 := wMd cI cJ A g6) (wz := (wMd cI cJ A g6)) (kg_slf _).symm hPx hDx hS hA (va_runV (As := []) (rest := []) ⟨hx, hb, hml, hown, hts⟩ (c_X6_runsAll l dC dI cI cJ A H.size (Md_set_told x 0) _ hc) (cwV 0 hts (gw_V wd_12_17 wd_12_14 wd_12_15 wd_12_16 wd_1_5) rfl rfl rfl qX6_runsAll ⟨Nat.le_of_ble_eq_true rfl, Nat.le_of_ble_eq_true rfl⟩) (kg_preVW (ci := 6) (q := (RX6, TX6, 30)) (q0 := 0) (kg_cutP hPx) (kg_cutD hDx) hK hN rfl rfl) rfl rfl hl.1 rfl (lv_room (Nat.le_of_ble_eq_true rfl)) dX6_land_6 ⟨Nat.zero_le _, Nat.zero_le _⟩) (fun H locs hP hD hS => ?_)
  refine lv_aload_n hx hb dX6_land_9 rfl (lv_at hl 0 rfl) ?_
  refine lv_iload_n hx hb dX6_land_10 rfl (lv_at hl 1 rfl) ?_
  obtain ⟨g11, hc, hf⟩ := ob_bind hf
  have hPc : va_P (dC, dI) vwCl (wMd cI cJ A g6) H := hP
  refine kg_retRi (va_runV (As := [.int v1]) (rest := []) ⟨hx, hb, hml, hown, hts⟩ (c_X6_isLand l dC dI cI cJ A H g6 v1 _ hc) (cwV 1 hts (gw_V wd_29_15 wd_29_12 wd_29_13 wd_29_14 wd_1_5) rfl rfl rfl qX6_isLand ⟨Nat.le_of_ble_eq_true rfl, Nat.le_of_ble_eq_true rfl⟩) (kg_preVR (ci := 6) (q := (RX6, TX6, 30)) (q0 := 0) hPc hK hN rfl rfl) rfl rfl hl.1 rfl (lv_room (Nat.le_of_ble_eq_true rfl)) dX6_land_11 ⟨Nat.zero_le _, Nat.zero_le _⟩) ?_
  refine kg_b_ne (tgt := 19) hx hb hf dX6_land_14 (by decide) (fun hc hf => ?_) (fun hc hf => ?_)
  · refine lv_aload_n hx hb dX6_land_19 rfl (lv_at hl 0 rfl) ?_
    obtain ⟨g20, hc, hf⟩ := ob_bind hf
    have hPx := kg_eqP (kg_slf _) hP
    have hDx := kg_eqD (kg_slf _) hD
    refine kg_retWv (pre := ([] : va_W)) (wc := wMd cI cJ A g6) (post := ([] : va_W)) (w1 := wMd cI cJ A g20) (wz := (wMd cI cJ A g20)) (kg_slf _).symm hPx hDx hS hA (va_runV (As := []) (rest := []) ⟨hx, hb, hml, hown, hts⟩ (c_X6_laysAllParts l dC dI cI cJ A H.size g6 _ hc) (cwV 0 hts (gw_V wd_19_1 wd_18_22 wd_18_23 wd_19_0 wd_1_5) rfl rfl rfl qX6_laysAllParts ⟨Nat.le_of_ble_eq_true rfl, Nat.le_of_ble_eq_true rfl⟩) (kg_preVW (ci := 6) (q := (RX6, TX6, 30)) (q0 := 0) (kg_cutP hPx) (kg_cutD hDx) hK hN rfl rfl) rfl rfl hl.1 rfl (lv_room (Nat.le_of_ble_eq_true rfl)) dX6_land_20 ⟨Nat.zero_le _, Nat.zero_le _⟩) (fun H locs hP hD hS => ?_)
    refine lv_iload_n hx hb dX6_land_23 rfl (lv_at hl 2 rfl) ?_
    by_cases hc0 : v2 = 0
    · rw [if_pos hc0] at hf
      refine lv_tableIn (tgt := 80) (off := 56) hx hb dX6_land_24 (by rw [hc0]; decide) (by rw [hc0]; decide) (by rw [hc0]; rfl) (by decide) ?_
      refine lv_aload_n hx hb dX6_land_80 rfl (lv_at hl 0 rfl) ?_
      refine lv_iconst (v := 1) hx hb dX6_land_81 (by decide) ?_
      refine lv_iload_n hx hb dX6_land_82 rfl (lv_at hl 1 rfl) ?_
      obtain ⟨g83, hc, hf⟩ := ob_bind hf
      have hPc : va_P (dC, dI) vwCl (wMd cI cJ A g20) H := hP
      refine kg_retRi (va_runV (As := [.int 1, .int v1]) (rest := []) ⟨hx, hb, hml, hown, hts⟩ (c_X6_sizeOf l dC dI cI cJ A H g20 1 v1 _ hc) (cwV 2 hts (gw_V wd_13_21 wd_13_18 wd_13_19 wd_13_20 wd_1_5) rfl rfl rfl qX6_sizeOf ⟨Nat.le_of_ble_eq_true rfl, Nat.le_of_ble_eq_true rfl⟩) (kg_preVR (ci := 6) (q := (RX6, TX6, 30)) (q0 := 0) hPc hK hN rfl rfl) rfl rfl hl.1 rfl (lv_room (Nat.le_of_ble_eq_true rfl)) dX6_land_83 ⟨Nat.zero_le _, Nat.zero_le _⟩) ?_
      obtain rfl := Option.some.inj hf
      exact kg_iretW hx hb hr hlk rfl hP hD hS dX6_land_86
    · rw [if_neg hc0] at hf
      by_cases hc1 : v2 = 1
      · rw [if_pos hc1] at hf
        refine lv_tableIn (tgt := 87) (off := 63) hx hb dX6_land_24 (by rw [hc1]; decide) (by rw [hc1]; decide) (by rw [hc1]; rfl) (by decide) ?_
        refine lv_aload_n hx hb dX6_land_87 rfl (lv_at hl 0 rfl) ?_
        refine lv_iload_n hx hb dX6_land_88 rfl (lv_at hl 1 rfl) ?_
        obtain ⟨g89, hc, hf⟩ := ob_bind hf
        have hPc : va_P (dC, dI) vwCl (wMd cI cJ A g20) H := hP
        refine kg_retRi (va_runV (As := [.int v1]) (rest := []) ⟨hx, hb, hml, hown, hts⟩ (c_X6_blocksOf l dC dI cI cJ A H g20 v1 _ hc) (cwV 1 hts (gw_V wd_29_19 wd_29_16 wd_29_17 wd_29_18 wd_1_5) rfl rfl rfl qX6_blocksOf ⟨Nat.le_of_ble_eq_true rfl, Nat.le_of_ble_eq_true rfl⟩) (kg_preVR (ci := 6) (q := (RX6, TX6, 30)) (q0 := 0) hPc hK hN rfl rfl) rfl rfl hl.1 rfl (lv_room (Nat.le_of_ble_eq_true rfl)) dX6_land_89 ⟨Nat.zero_le _, Nat.zero_le _⟩) ?_
        obtain rfl := Option.some.inj hf
        exact kg_iretW hx hb hr hlk rfl hP hD hS dX6_land_92
      · rw [if_neg hc1] at hf
        by_cases hc2 : v2 = 2
        · rw [if_pos hc2] at hf
          refine lv_tableIn (tgt := 93) (off := 69) hx hb dX6_land_24 (by rw [hc2]; decide) (by rw [hc2]; decide) (by rw [hc2]; rfl) (by decide) ?_
          refine lv_aload_n hx hb dX6_land_93 rfl (lv_at hl 0 rfl) ?_
          refine lv_iload_n hx hb dX6_land_94 rfl (lv_at hl 1 rfl) ?_
          refine lv_iconst (v := 1) hx hb dX6_land_95 (by decide) ?_
          obtain ⟨g96, hc, hf⟩ := ob_bind hf
          have hPc : va_P (dC, dI) vwCl (wMd cI cJ A g20) H := hP
          refine kg_retRi (va_runV (As := [.int v1, .int 1]) (rest := []) ⟨hx, hb, hml, hown, hts⟩ (c_X6_linksOf l dC dI cI cJ A H g20 v1 1 _ hc) (cwV 2 hts (gw_V wd_30_3 wd_30_0 wd_30_1 wd_30_2 wd_1_5) rfl rfl rfl qX6_linksOf ⟨Nat.le_of_ble_eq_true rfl, Nat.le_of_ble_eq_true rfl⟩) (kg_preVR (ci := 6) (q := (RX6, TX6, 30)) (q0 := 0) hPc hK hN rfl rfl) rfl rfl hl.1 rfl (lv_room (Nat.le_of_ble_eq_true rfl)) dX6_land_96 ⟨Nat.zero_le _, Nat.zero_le _⟩) ?_
          obtain rfl := Option.some.inj hf
          exact kg_iretW hx hb hr hlk rfl hP hD hS dX6_land_99
        · rw [if_neg hc2] at hf
          by_cases hc3 : v2 = 3
          · rw [if_pos hc3] at hf
            refine lv_tableIn (tgt := 100) (off := 76) hx hb dX6_land_24 (by rw [hc3]; decide) (by rw [hc3]; decide) (by rw [hc3]; rfl) (by decide) ?_
            refine lv_aload_n hx hb dX6_land_100 rfl (lv_at hl 0 rfl) ?_
            refine lv_iload_n hx hb dX6_land_101 rfl (lv_at hl 1 rfl) ?_
            refine lv_iconst (v := 0) hx hb dX6_land_102 (by decide) ?_
            obtain ⟨g103, hc, hf⟩ := ob_bind hf
            have hPc : va_P (dC, dI) vwCl (wMd cI cJ A g20) H := hP
            refine kg_retRi (va_runV (As := [.int v1, .int 0]) (rest := []) ⟨hx, hb, hml, hown, hts⟩ (c_X6_linksOf l dC dI cI cJ A H g20 v1 0 _ hc) (cwV 2 hts (gw_V wd_30_3 wd_30_0 wd_30_1 wd_30_2 wd_1_5) rfl rfl rfl qX6_linksOf ⟨Nat.le_of_ble_eq_true rfl, Nat.le_of_ble_eq_true rfl⟩) (kg_preVR (ci := 6) (q := (RX6, TX6, 30)) (q0 := 0) hPc hK hN rfl rfl) rfl rfl hl.1 rfl (lv_room (Nat.le_of_ble_eq_true rfl)) dX6_land_103 ⟨Nat.zero_le _, Nat.zero_le _⟩) ?_
            obtain rfl := Option.some.inj hf
            exact kg_iretW hx hb hr hlk rfl hP hD hS dX6_land_106
          · rw [if_neg hc3] at hf
            by_cases hc4 : v2 = 4
            · rw [if_pos hc4] at hf
              refine lv_tableIn (tgt := 107) (off := 83) hx hb dX6_land_24 (by rw [hc4]; decide) (by rw [hc4]; decide) (by rw [hc4]; rfl) (by decide) ?_
              refine lv_aload_n hx hb dX6_land_107 rfl (lv_at hl 0 rfl) ?_
              refine lv_iload_n hx hb dX6_land_108 rfl (lv_at hl 1 rfl) ?_
              obtain ⟨g109, hc, hf⟩ := ob_bind hf
              have hPc : va_P (dC, dI) vwCl (wMd cI cJ A g20) H := hP
              refine kg_retRi (va_runV (As := [.int v1]) (rest := []) ⟨hx, hb, hml, hown, hts⟩ (c_X6_rootOf l dC dI cI cJ A H g20 v1 _ hc) (cwV 1 hts (gw_V wd_30_7 wd_30_4 wd_30_5 wd_30_6 wd_1_5) rfl rfl rfl qX6_rootOf ⟨Nat.le_of_ble_eq_true rfl, Nat.le_of_ble_eq_true rfl⟩) (kg_preVR (ci := 6) (q := (RX6, TX6, 30)) (q0 := 0) hPc hK hN rfl rfl) rfl rfl hl.1 rfl (lv_room (Nat.le_of_ble_eq_true rfl)) dX6_land_109 ⟨Nat.zero_le _, Nat.zero_le _⟩) ?_
              obtain rfl := Option.some.inj hf
              exact kg_iretW hx hb hr hlk rfl hP hD hS dX6_land_112
            · rw [if_neg hc4] at hf
              by_cases hc5 : v2 = 5
              · rw [if_pos hc5] at hf
                refine lv_tableIn (tgt := 113) (off := 89) hx hb dX6_land_24 (by rw [hc5]; decide) (by rw [hc5]; decide) (by rw [hc5]; rfl) (by decide) ?_
                refine lv_aload_n hx hb dX6_land_113 rfl (lv_at hl 0 rfl) ?_
                refine lv_iload_n hx hb dX6_land_114 rfl (lv_at hl 1 rfl) ?_
                obtain ⟨g115, hc, hf⟩ := ob_bind hf
                have hPc : va_P (dC, dI) vwCl (wMd cI cJ A g20) H := hP
                refine kg_retRi (va_runV (As := [.int v1]) (rest := []) ⟨hx, hb, hml, hown, hts⟩ (c_X6_mend l dC dI cI cJ A H g20 v1 _ hc) (cwV 1 hts (gw_V wd_30_11 wd_30_8 wd_30_9 wd_30_10 wd_1_5) rfl rfl rfl qX6_mend ⟨Nat.le_of_ble_eq_true rfl, Nat.le_of_ble_eq_true rfl⟩) (kg_preVR (ci := 6) (q := (RX6, TX6, 30)) (q0 := 0) hPc hK hN rfl rfl) rfl rfl hl.1 rfl (lv_room (Nat.le_of_ble_eq_true rfl)) dX6_land_115 ⟨Nat.zero_le _, Nat.zero_le _⟩) ?_
                obtain rfl := Option.some.inj hf
                exact kg_iretW hx hb hr hlk rfl hP hD hS dX6_land_118
              · rw [if_neg hc5] at hf
                by_cases hc6 : v2 = 6
                · rw [if_pos hc6] at hf
                  refine lv_tableIn (tgt := 119) (off := 95) hx hb dX6_land_24 (by rw [hc6]; decide) (by rw [hc6]; decide) (by rw [hc6]; rfl) (by decide) ?_
                  refine lv_aload_n hx hb dX6_land_119 rfl (lv_at hl 0 rfl) ?_
                  refine lv_iload_n hx hb dX6_land_120 rfl (lv_at hl 1 rfl) ?_
                  obtain ⟨g121, hc, hf⟩ := ob_bind hf
                  have hPc : va_P (dC, dI) vwCl (wMd cI cJ A g20) H := hP
                  refine kg_retRi (va_runV (As := [.int v1]) (rest := []) ⟨hx, hb, hml, hown, hts⟩ (c_X6_cutsOf l dC dI cI cJ A H g20 v1 _ hc) (cwV 1 hts (gw_V wd_30_19 wd_30_16 wd_30_17 wd_30_18 wd_1_5) rfl rfl rfl qX6_cutsOf ⟨Nat.le_of_ble_eq_true rfl, Nat.le_of_ble_eq_true rfl⟩) (kg_preVR (ci := 6) (q := (RX6, TX6, 30)) (q0 := 0) hPc hK hN rfl rfl) rfl rfl hl.1 rfl (lv_room (Nat.le_of_ble_eq_true rfl)) dX6_land_121 ⟨Nat.zero_le _, Nat.zero_le _⟩) ?_
                  obtain rfl := Option.some.inj hf
                  exact kg_iretW hx hb hr hlk rfl hP hD hS dX6_land_124
                · rw [if_neg hc6] at hf
                  by_cases hc7 : v2 = 7
                  · rw [if_pos hc7] at hf
                    refine lv_tableIn (tgt := 125) (off := 101) hx hb dX6_land_24 (by rw [hc7]; decide) (by rw [hc7]; decide) (by rw [hc7]; rfl) (by decide) ?_
                    exact hj125 g20 hf _ _ _ hP hD hS (lv_sub hl [0, 1, 2] rfl)
                  · rw [if_neg hc7] at hf
                    by_cases hc8 : v2 = 8
                    · rw [if_pos hc8] at hf
                      refine lv_tableIn (tgt := 125) (off := 101) hx hb dX6_land_24 (by rw [hc8]; decide) (by rw [hc8]; decide) (by rw [hc8]; rfl) (by decide) ?_
                      exact hj125 g20 hf _ _ _ hP hD hS (lv_sub hl [0, 1, 2] rfl)
                    · rw [if_neg hc8] at hf
                      by_cases hc9 : v2 = 9
                      · rw [if_pos hc9] at hf
                        refine lv_tableIn (tgt := 125) (off := 101) hx hb dX6_land_24 (by rw [hc9]; decide) (by rw [hc9]; decide) (by rw [hc9]; rfl) (by decide) ?_
                        exact hj125 g20 hf _ _ _ hP hD hS (lv_sub hl [0, 1, 2] rfl)
                      · rw [if_neg hc9] at hf
                        have ehc0 := ne_toInt hc0 (k := 0) (by decide)
                        have ehc1 := ne_toInt hc1 (k := 1) (by decide)
                        have ehc2 := ne_toInt hc2 (k := 2) (by decide)
                        have ehc3 := ne_toInt hc3 (k := 3) (by decide)
                        have ehc4 := ne_toInt hc4 (k := 4) (by decide)
                        have ehc5 := ne_toInt hc5 (k := 5) (by decide)
                        have ehc6 := ne_toInt hc6 (k := 6) (by decide)
                        have ehc7 := ne_toInt hc7 (k := 7) (by decide)
                        have ehc8 := ne_toInt hc8 (k := 8) (by decide)
                        have ehc9 := ne_toInt hc9 (k := 9) (by decide)
                        refine lv_tableOut (tgt := 135) hx hb dX6_land_24 (by omega) (by decide) ?_
                        refine lv_iload_n hx hb dX6_land_135 rfl (lv_at hl 2 rfl) ?_
                        refine lv_bipush (v := 10) hx hb dX6_land_136 (by decide) ?_
                        refine kg_icmp_ne (tgt := 150) hx hb hf dX6_land_138 (by decide) (fun hc hf => ?_) (fun hc hf => ?_)
                        · refine lv_iconst (v := (-1)) hx hb dX6_land_150 (by decide) ?_
                          obtain rfl := Option.some.inj hf
                          exact kg_iretW hx hb hr hlk rfl hP hD hS dX6_land_151
                        · refine lv_aload_n hx hb dX6_land_141 rfl (lv_at hl 0 rfl) ?_
                          refine lv_iconst (v := 1) hx hb dX6_land_142 (by decide) ?_
                          refine lv_iload_n hx hb dX6_land_143 rfl (lv_at hl 1 rfl) ?_
                          obtain ⟨g144, hc, hf⟩ := ob_bind hf
                          have hPc : va_P (dC, dI) vwCl (wMd cI cJ A g20) H := hP
                          refine kg_retRi (va_runV (As := [.int 1, .int v1]) (rest := []) ⟨hx, hb, hml, hown, hts⟩ (c_X6_partsIn l dC dI cI cJ A H g20 1 v1 _ hc) (cwV 2 hts (gw_V wd_25_21 wd_25_18 wd_25_19 wd_25_20 wd_1_5) rfl rfl rfl qX6_partsIn ⟨Nat.le_of_ble_eq_true rfl, Nat.le_of_ble_eq_true rfl⟩) (kg_preVR (ci := 6) (q := (RX6, TX6, 30)) (q0 := 0) hPc hK hN rfl rfl) rfl rfl hl.1 rfl (lv_room (Nat.le_of_ble_eq_true rfl)) dX6_land_144 ⟨Nat.zero_le _, Nat.zero_le _⟩) ?_
                          refine lv_goto (tgt := 151) hx hb dX6_land_147 (by decide) ?_
                          obtain rfl := Option.some.inj hf
                          exact kg_iretW hx hb hr hlk rfl hP hD hS dX6_land_151
  · refine lv_iconst (v := (-1)) hx hb dX6_land_17 (by decide) ?_
    obtain rfl := Option.some.inj hf
    exact kg_iretW hx hb hr hlk rfl hP hD hS dX6_land_18
set_option maxHeartbeats 4000000 in
set_option maxRecDepth 100000 in
theorem c_X6_centre (l : Launch) (dC : Nat → ClassId) (dI : Nat → Nat → Nat) (cI cJ : ClassId) (A : Nat → Nat) (hq : Nat) (x : MdS) (v1 : Int32) (r0 : (Int32 × MdS)) (hf : Md_m_centre x v1 = some r0) : MWi l yX6_centre (wAll yX6_centre cX6_centre 7 (some .int)) ({ frames := 7, cells := 0, slots := 0, locals := 183 } : Room) [.ref (A 0), .int v1] hq (dC, dI) (vTy cI cJ) (wMd cI cJ A x) (wMd cI cJ A r0.2) r0.1 := by
  refine kg_metW (Qc := fun Q => QWi (dC, dI) Q (wMd cI cJ A r0.2) r0.1) (cc := cX6_centre) (maxL := 7) (ret := (some .int)) (by decide) rfl (Nat.le_of_ble_eq_true rfl) ?_
  intro p e s m args below meth c Q hx hb hr hts hown hlk hml hP hK hN hD hA hS ls hl
  have hl : lv_has ls 7 [(0, .ref (A 0)), (1, .int v1)] := hl
  have ww0 := hts (.fieldLink RX6 71 "SafeBlocksModel" "told" "I") (List.mem_cons_of_mem _ wd_9_3)
  have ww1 := hts (.fieldLink RX6 7 "SafeBlocksModel" "n" "I") (List.mem_cons_of_mem _ wd_7_23)
  have ww2 := hts (.methodLink RX6 93 Lib.Math.max.name) (List.mem_cons_of_mem _ wd_14_6)
  have ww3 := hts (.static Lib.Math.max.name) (List.mem_cons_of_mem _ wd_14_7)
  have ww4 := hts (.initialized "java/lang/Math") (List.mem_cons_of_mem _ wd_14_8)
  have ww5 := hts (.code Lib.Math.max.name Lib.Math.max.code 2 (some .int)) (List.mem_cons_of_mem _ wd_14_9)
  have hiX6 : ∀ w ∈ u_ws RX6 TX6 30, w ∈ wAll yX6_centre cX6_centre 7 (some .int) := fun w h => List.mem_cons_of_mem _ (inlX6 w h)
  suffices hgo : ∀ (H : Heap) (locs : List Loc), va_P (dC, dI) vwCl (wMd cI cJ A x) H → va_S Q s.heap H locs → W p l e ({ frames := 7, cells := 0, slots := 0, locals := 183 } : Room) s m args below meth c H locs 0 0 (MQ below (QWi (dC, dI) Q (wMd cI cJ A r0.2) r0.1) args s 0 0 Q) (F0 m 0 ls []) from hgo _ _ hP hS
  clear hP hS
  intro H locs hP hS
  unfold Md_m_centre at hf
  refine lv_aload_n hx hb dX6_centre_0 rfl (lv_at hl 0 rfl) ?_
  refine lv_iconst (v := 0) hx hb dX6_centre_1 (by decide) ?_
  refine kg_put (ci := 6) (v := .int 0) (ty := .int) (C := RX6) (T := TX6) (N := 30) (wz := (wMd cI cJ A (Md_set_told x 0))) hx hb hts hiX6 tyX6 tyX6_ok nmX6 hown hK hP hD hS 0 rfl rfl 0 (by decide) ww0 (fun _ h9 => h9) rfl (tyX6_ok 0 (by decide)) rfl rfl (Nat.le_of_ble_eq_true rfl) dX6_centre_2 (sc_Md_told _ _ _ _ _) (fun H locs hP hD hS => ?_)
  refine lv_aload_n hx hb dX6_centre_5 rfl (lv_at hl 0 rfl) ?_
  obtain ⟨g6, hc, hf⟩ := ob_bind hf
  have hPx := kg_eqP (kg_slf _) hP
  have hDx := kg_eqD (kg_slf _) hD
  refine kg_retWv (pre := ([] : va_W)) (wc := wMd cI cJ A (Md_set_told x 0)) (post := ([] : va_W)) (w1 := wMd cI cJ A g6) (wz := (wMd cI cJ A g6)) (kg_slf _).symm hPx hDx hS hA (va_runV (As := []) (rest := []) ⟨hx, hb, hml, hown, hts⟩ (c_X6_runsAll l dC dI cI cJ A H.size (Md_set_told x 0) _ hc) (cwV 0 hts (gw_V wd_12_17 wd_12_14 wd_12_15 wd_12_16 wd_1_5) rfl rfl rfl qX6_runsAll ⟨Nat.le_of_ble_eq_true rfl, Nat.le_of_ble_eq_true rfl⟩) (kg_preVW (ci := 6) (q := (RX6, TX6, 30)) (q0 := 0) (kg_cutP hPx) (kg_cutD hDx) hK hN rfl rfl) rfl rfl hl.1 rfl (lv_room (Nat.le_of_ble_eq_true rfl)) dX6_centre_6 ⟨Nat.zero_le _, Nat.zero_le _⟩) (fun H locs hP hD hS => ?_)
  refine lv_aload_n hx hb dX6_centre_9 rfl (lv_at hl 0 rfl) ?_
  refine lv_iload_n hx hb dX6_centre_10 rfl (lv_at hl 1 rfl) ?_
  obtain ⟨g11, hc, hf⟩ := ob_bind hf
  have hPc : va_P (dC, dI) vwCl (wMd cI cJ A g6) H := hP
  refine kg_retRi (va_runV (As := [.int v1]) (rest := []) ⟨hx, hb, hml, hown, hts⟩ (c_X6_isLand l dC dI cI cJ A H g6 v1 _ hc) (cwV 1 hts (gw_V wd_29_15 wd_29_12 wd_29_13 wd_29_14 wd_1_5) rfl rfl rfl qX6_isLand ⟨Nat.le_of_ble_eq_true rfl, Nat.le_of_ble_eq_true rfl⟩) (kg_preVR (ci := 6) (q := (RX6, TX6, 30)) (q0 := 0) hPc hK hN rfl rfl) rfl rfl hl.1 rfl (lv_room (Nat.le_of_ble_eq_true rfl)) dX6_centre_11 ⟨Nat.zero_le _, Nat.zero_le _⟩) ?_
  refine kg_b_ne (tgt := 19) hx hb hf dX6_centre_14 (by decide) (fun hc hf => ?_) (fun hc hf => ?_)
  · refine lv_iconst (v := (-1)) hx hb dX6_centre_19 (by decide) ?_
    refine lv_istore_n (lv' := [(2, .int (-1)), (0, .ref (A 0)), (1, .int v1)]) hx hb dX6_centre_20 rfl hl (by decide) rfl (fun ls hl => ?_)
    refine lv_iconst (v := 0) hx hb dX6_centre_21 (by decide) ?_
    refine lv_istore_n (lv' := [(3, .int 0), (2, .int (-1)), (0, .ref (A 0)), (1, .int v1)]) hx hb dX6_centre_22 rfl hl (by decide) rfl (fun ls hl => ?_)
    refine lv_iconst (v := 0) hx hb dX6_centre_23 (by decide) ?_
    refine lv_istore (lv' := [(4, .int 0), (3, .int 0), (2, .int (-1)), (0, .ref (A 0)), (1, .int v1)]) hx hb dX6_centre_24 hl (by decide) rfl (fun ls hl => ?_)
    have hlp26 : ∀ (x : MdS), ∀ (n : Nat) (v2 : Int32) (v3 : Int32) (v4 : Int32), iter (fun p : Int32 × Int32 × Int32 => Md_m_centre_s26 x v1 p.1 p.2.1 p.2.2) n (v2, v3, v4) = some r0 → ∀ (H : Heap) (locs : List Loc) (ls : Array Slot), va_P (dC, dI) vwCl (wMd cI cJ A x) H → va_D Q (wMd cI cJ A x) → va_S Q s.heap H locs → lv_has ls 7 [(0, .ref (A 0)), (1, .int v1), (2, .int v2), (3, .int v3), (4, .int v4)] → W p l e ({ frames := 7, cells := 0, slots := 0, locals := 183 } : Room) s m args below meth c H locs 0 0 (MQ below (QWi (dC, dI) Q (wMd cI cJ A r0.2) r0.1) args s 0 0 Q) (F0 m 26 ls []) := by
      intro x n
      induction n with
      | zero => intro v2 v3 v4 hf; exact iter_zero hf
      | succ n ih1 =>
        intro v2 v3 v4 hf H locs ls hP hD hS hl
        obtain ⟨q1, hf, hk1⟩ := iter_succ hf
        have hf : Md_m_centre_s26 x v1 v2 v3 v4 = some q1 := hf
        unfold Md_m_centre_s26 at hf
        have hj108 : ∀ (v4 : Int32) (v5 : Int32), Md_m_centre_j108 x v1 v4 v5 = some q1 → ∀ (H : Heap) (locs : List Loc) (ls : Array Slot), va_P (dC, dI) vwCl (wMd cI cJ A x) H → va_D Q (wMd cI cJ A x) → va_S Q s.heap H locs → lv_has ls 7 [(0, .ref (A 0)), (1, .int v1), (4, .int v4), (5, .int v5)] → W p l e ({ frames := 7, cells := 0, slots := 0, locals := 183 } : Room) s m args below meth c H locs 0 0 (MQ below (QWi (dC, dI) Q (wMd cI cJ A r0.2) r0.1) args s 0 0 Q) (F0 m 108 ls []) := by
          intro v4 v5 hf H locs ls hP hD hS hl
          unfold Md_m_centre_j108 at hf
          refine lv_iload hx hb dX6_centre_108 (lv_at hl 2 rfl) ?_
          refine lv_istore_n (lv' := [(2, .int v4), (0, .ref (A 0)), (1, .int v1), (4, .int v4), (5, .int v5)]) hx hb dX6_centre_110 rfl hl (by decide) rfl (fun ls hl => ?_)
          refine lv_iload hx hb dX6_centre_111 (lv_at hl 4 rfl) ?_
          refine lv_istore_n (lv' := [(3, .int v5), (2, .int v4), (0, .ref (A 0)), (1, .int v1), (4, .int v4), (5, .int v5)]) hx hb dX6_centre_113 rfl hl (by decide) rfl (fun ls hl => ?_)
          refine lv_iinc (v := (v4 + 1)) (lv' := [(4, .int (v4 + 1)), (3, .int v5), (2, .int v4), (0, .ref (A 0)), (1, .int v1), (5, .int v5)]) hx hb dX6_centre_114 hl (k := 4) rfl rfl (by decide) rfl (fun ls hl => ?_)
          refine lv_goto (tgt := 26) hx hb dX6_centre_117 (by decide) ?_
          obtain rfl := Option.some.inj hf
          exact ih1 v4 v5 (v4 + 1) hk1 _ _ _ hP hD hS (lv_sub hl [3, 4, 2, 1, 0] rfl)
        refine lv_iload hx hb dX6_centre_26 (lv_at hl 4 rfl) ?_
        refine lv_aload_n hx hb dX6_centre_28 rfl (lv_at hl 0 rfl) ?_
        refine va_get (D := (dC, dI)) (ci := 6) (v := .int (Md_n x)) (C := RX6) (T := TX6) (N := 30) hx hb hts hiX6 hown hK hP 0 rfl rfl 1 (by decide) ww1 (fun _ h9 => h9) rfl dX6_centre_29 ?_
        refine kg_icmp_ge (tgt := 120) hx hb hf dX6_centre_32 (by decide) (fun hc hf => ?_) (fun hc hf => ?_)
        · obtain ⟨qq, hf, hqq⟩ := omap_some hf
          have hkq : qq = r0 := by rw [← hqq] at hk1; exact hk1
          rw [hkq] at hf
          clear hkq hqq
          refine lv_iload_n hx hb dX6_centre_120 rfl (lv_at hl 2 rfl) ?_
          obtain rfl := Option.some.inj hf
          exact kg_iretW hx hb hr hlk rfl hP hD hS dX6_centre_121
        · refine lv_aload_n hx hb dX6_centre_35 rfl (lv_at hl 0 rfl) ?_
          refine lv_iload hx hb dX6_centre_36 (lv_at hl 4 rfl) ?_
          refine lv_iload_n hx hb dX6_centre_38 rfl (lv_at hl 1 rfl) ?_
          obtain ⟨g39, hc, hf⟩ := ob_bind hf
          have hPc : va_P (dC, dI) vwCl (wMd cI cJ A x) H := hP
          refine kg_retRi (va_runV (As := [.int v4, .int v1]) (rest := []) ⟨hx, hb, hml, hown, hts⟩ (c_X6_isBlockOf l dC dI cI cJ A H x v4 v1 _ hc) (cwV 2 hts (gw_V wd_29_23 wd_29_20 wd_29_21 wd_29_22 wd_1_5) rfl rfl rfl qX6_isBlockOf ⟨Nat.le_of_ble_eq_true rfl, Nat.le_of_ble_eq_true rfl⟩) (kg_preVR (ci := 6) (q := (RX6, TX6, 30)) (q0 := 0) hPc hK hN rfl rfl) rfl rfl hl.1 rfl (lv_room (Nat.le_of_ble_eq_true rfl)) dX6_centre_39 ⟨Nat.zero_le _, Nat.zero_le _⟩) ?_
          refine kg_b_ne (tgt := 48) hx hb hf dX6_centre_42 (by decide) (fun hc hf => ?_) (fun hc hf => ?_)
          · refine lv_iconst (v := 0) hx hb dX6_centre_48 (by decide) ?_
            refine lv_istore (lv' := [(5, .int 0), (0, .ref (A 0)), (1, .int v1), (2, .int v2), (3, .int v3), (4, .int v4)]) hx hb dX6_centre_49 hl (by decide) rfl (fun ls hl => ?_)
            refine lv_iconst (v := 0) hx hb dX6_centre_51 (by decide) ?_
            refine lv_istore (lv' := [(6, .int 0), (5, .int 0), (0, .ref (A 0)), (1, .int v1), (2, .int v2), (3, .int v3), (4, .int v4)]) hx hb dX6_centre_52 hl (by decide) rfl (fun ls hl => ?_)
            have hlp54 : ∀ (v2 : Int32) (v3 : Int32) (v4 : Int32), ∀ (n : Nat) (v5 : Int32) (v6 : Int32), iter (fun p : Int32 × Int32 => Md_m_centre_s54 x v1 v2 v3 v4 p.1 p.2) n (v5, v6) = some q1 → ∀ (H : Heap) (locs : List Loc) (ls : Array Slot), va_P (dC, dI) vwCl (wMd cI cJ A x) H → va_D Q (wMd cI cJ A x) → va_S Q s.heap H locs → lv_has ls 7 [(0, .ref (A 0)), (1, .int v1), (2, .int v2), (3, .int v3), (4, .int v4), (5, .int v5), (6, .int v6)] → W p l e ({ frames := 7, cells := 0, slots := 0, locals := 183 } : Room) s m args below meth c H locs 0 0 (MQ below (QWi (dC, dI) Q (wMd cI cJ A r0.2) r0.1) args s 0 0 Q) (F0 m 54 ls []) := by
              intro v2 v3 v4 n
              induction n with
              | zero => intro v5 v6 hf; exact iter_zero hf
              | succ n ih2 =>
                intro v5 v6 hf H locs ls hP hD hS hl
                obtain ⟨q2, hf, hk2⟩ := iter_succ hf
                have hf : Md_m_centre_s54 x v1 v2 v3 v4 v5 v6 = some q2 := hf
                unfold Md_m_centre_s54 at hf
                refine lv_iload hx hb dX6_centre_54 (lv_at hl 6 rfl) ?_
                refine lv_aload_n hx hb dX6_centre_56 rfl (lv_at hl 0 rfl) ?_
                refine va_get (D := (dC, dI)) (ci := 6) (v := .int (Md_n x)) (C := RX6) (T := TX6) (N := 30) hx hb hts hiX6 hown hK hP 0 rfl rfl 1 (by decide) ww1 (fun _ h9 => h9) rfl dX6_centre_57 ?_
                refine kg_icmp_ge (tgt := 94) hx hb hf dX6_centre_60 (by decide) (fun hc hf => ?_) (fun hc hf => ?_)
                · obtain ⟨qq, hf, hqq⟩ := omap_some hf
                  have hkq : qq = q1 := by rw [← hqq] at hk2; exact hk2
                  rw [hkq] at hf
                  clear hkq hqq
                  refine lv_iload_n hx hb dX6_centre_94 rfl (lv_at hl 2 rfl) ?_
                  refine lv_iconst (v := (-1)) hx hb dX6_centre_95 (by decide) ?_
                  refine kg_icmp_eq (tgt := 108) hx hb hf dX6_centre_96 (by decide) (fun hc hf => ?_) (fun hc hf => ?_)
                  · exact hj108 v4 v5 hf _ _ _ hP hD hS (lv_sub hl [0, 1, 4, 5] rfl)
                  · refine lv_iload hx hb dX6_centre_99 (lv_at hl 5 rfl) ?_
                    refine lv_iload_n hx hb dX6_centre_101 rfl (lv_at hl 3 rfl) ?_
                    refine kg_icmp_lt (tgt := 108) hx hb hf dX6_centre_102 (by decide) (fun hc hf => ?_) (fun hc hf => ?_)
                    · exact hj108 v4 v5 hf _ _ _ hP hD hS (lv_sub hl [0, 1, 4, 5] rfl)
                    · refine lv_goto (tgt := 114) hx hb dX6_centre_105 (by decide) ?_
                      refine lv_iinc (v := (v4 + 1)) (lv' := [(4, .int (v4 + 1)), (0, .ref (A 0)), (1, .int v1), (2, .int v2), (3, .int v3), (5, .int v5), (6, .int v6)]) hx hb dX6_centre_114 hl (k := 4) rfl rfl (by decide) rfl (fun ls hl => ?_)
                      refine lv_goto (tgt := 26) hx hb dX6_centre_117 (by decide) ?_
                      obtain rfl := Option.some.inj hf
                      exact ih1 v2 v3 (v4 + 1) hk1 _ _ _ hP hD hS (lv_sub hl [1, 2, 3, 4, 0] rfl)
                · refine lv_aload_n hx hb dX6_centre_63 rfl (lv_at hl 0 rfl) ?_
                  refine lv_iload hx hb dX6_centre_64 (lv_at hl 6 rfl) ?_
                  refine lv_iload_n hx hb dX6_centre_66 rfl (lv_at hl 1 rfl) ?_
                  obtain ⟨g67, hc, hf⟩ := ob_bind hf
                  have hPc : va_P (dC, dI) vwCl (wMd cI cJ A x) H := hP
                  refine kg_retRi (va_runV (As := [.int v6, .int v1]) (rest := []) ⟨hx, hb, hml, hown, hts⟩ (c_X6_isBlockOf l dC dI cI cJ A H x v6 v1 _ hc) (cwV 2 hts (gw_V wd_29_23 wd_29_20 wd_29_21 wd_29_22 wd_1_5) rfl rfl rfl qX6_isBlockOf ⟨Nat.le_of_ble_eq_true rfl, Nat.le_of_ble_eq_true rfl⟩) (kg_preVR (ci := 6) (q := (RX6, TX6, 30)) (q0 := 0) hPc hK hN rfl rfl) rfl rfl hl.1 rfl (lv_room (Nat.le_of_ble_eq_true rfl)) dX6_centre_67 ⟨Nat.zero_le _, Nat.zero_le _⟩) ?_
                  refine kg_b_eq (tgt := 88) hx hb hf dX6_centre_70 (by decide) (fun hc hf => ?_) (fun hc hf => ?_)
                  · refine lv_iinc (v := (v6 + 1)) (lv' := [(6, .int (v6 + 1)), (0, .ref (A 0)), (1, .int v1), (2, .int v2), (3, .int v3), (4, .int v4), (5, .int v5)]) hx hb dX6_centre_88 hl (k := 6) rfl rfl (by decide) rfl (fun ls hl => ?_)
                    refine lv_goto (tgt := 54) hx hb dX6_centre_91 (by decide) ?_
                    obtain rfl := Option.some.inj hf
                    exact ih2 v5 (v6 + 1) hk2 _ _ _ hP hD hS (lv_sub hl [1, 2, 3, 4, 5, 6, 0] rfl)
                  · refine lv_iload hx hb dX6_centre_73 (lv_at hl 5 rfl) ?_
                    refine lv_aload_n hx hb dX6_centre_75 rfl (lv_at hl 0 rfl) ?_
                    refine lv_iload hx hb dX6_centre_76 (lv_at hl 4 rfl) ?_
                    refine lv_iload hx hb dX6_centre_78 (lv_at hl 6 rfl) ?_
                    obtain ⟨g80, hc, hf⟩ := ob_bind hf
                    have hPc : va_P (dC, dI) vwCl (wMd cI cJ A x) H := hP
                    refine kg_retRi (va_runV (As := [.int v4, .int v6]) (rest := [.int v5]) ⟨hx, hb, hml, hown, hts⟩ (c_X6_apart l dC dI cI cJ A H x v4 v6 _ hc) (cwV 2 hts (gw_V wd_31_3 wd_31_0 wd_31_1 wd_31_2 wd_1_5) rfl rfl rfl qX6_apart ⟨Nat.le_of_ble_eq_true rfl, Nat.le_of_ble_eq_true rfl⟩) (kg_preVR (ci := 6) (q := (RX6, TX6, 30)) (q0 := 0) hPc hK hN rfl rfl) rfl rfl hl.1 rfl (lv_room (Nat.le_of_ble_eq_true rfl)) dX6_centre_80 ⟨Nat.zero_le _, Nat.zero_le _⟩) ?_
                    refine va_mmax hx hb (by rw [hml]; exact hl.1.symm) hown ww2 ww3 ww4 ww5 (Nat.le_of_ble_eq_true rfl) (Nat.le_of_ble_eq_true rfl) (Nat.zero_le _) (Nat.zero_le _) dX6_centre_83 ?_
                    refine lv_istore (lv' := [(5, .int (if v5 < g80 then g80 else v5)), (0, .ref (A 0)), (1, .int v1), (2, .int v2), (3, .int v3), (4, .int v4), (6, .int v6)]) hx hb dX6_centre_86 hl (by decide) rfl (fun ls hl => ?_)
                    refine lv_iinc (v := (v6 + 1)) (lv' := [(6, .int (v6 + 1)), (5, .int (if v5 < g80 then g80 else v5)), (0, .ref (A 0)), (1, .int v1), (2, .int v2), (3, .int v3), (4, .int v4)]) hx hb dX6_centre_88 hl (k := 6) rfl rfl (by decide) rfl (fun ls hl => ?_)
                    refine lv_goto (tgt := 54) hx hb dX6_centre_91 (by decide) ?_
                    obtain rfl := Option.some.inj hf
                    exact ih2 (if v5 < g80 then g80 else v5) (v6 + 1) hk2 _ _ _ hP hD hS (lv_sub hl [2, 3, 4, 5, 6, 1, 0] rfl)
            exact hlp54 v2 v3 v4 FU 0 0 hf _ _ _ hP hD hS (lv_sub hl [2, 3, 4, 5, 6, 1, 0] rfl)
          · refine lv_goto (tgt := 114) hx hb dX6_centre_45 (by decide) ?_
            refine lv_iinc (v := (v4 + 1)) (lv' := [(4, .int (v4 + 1)), (0, .ref (A 0)), (1, .int v1), (2, .int v2), (3, .int v3)]) hx hb dX6_centre_114 hl (k := 4) rfl rfl (by decide) rfl (fun ls hl => ?_)
            refine lv_goto (tgt := 26) hx hb dX6_centre_117 (by decide) ?_
            obtain rfl := Option.some.inj hf
            exact ih1 v2 v3 (v4 + 1) hk1 _ _ _ hP hD hS (lv_sub hl [1, 2, 3, 4, 0] rfl)
    exact hlp26 g6 FU (-1) 0 0 hf _ _ _ hP hD hS (lv_sub hl [3, 4, 2, 1, 0] rfl)
  · refine lv_iconst (v := (-1)) hx hb dX6_centre_17 (by decide) ?_
    obtain rfl := Option.some.inj hf
    exact kg_iretW hx hb hr hlk rfl hP hD hS dX6_centre_18
set_option maxHeartbeats 4000000 in
set_option maxRecDepth 100000 in
theorem c_X6_goesDown (l : Launch) (dC : Nat → ClassId) (dI : Nat → Nat → Nat) (cI cJ : ClassId) (A : Nat → Nat) : ∀ (d : Nat) (hq : Nat) (x : MdS) (v1 : Int32) (r0 : MdS), Md_m_goesDown d x v1 = some r0 → MWv l yX6_goesDown (wAll yX6_goesDown cX6_goesDown 3 none) ({ frames := 5 + d, cells := 0, slots := 0, locals := 132 + 22 * d } : Room) [.ref (A 0), .int v1] hq (dC, dI) (vTy cI cJ) (wMd cI cJ A x) (wMd cI cJ A r0) := by
  intro d
  induction d with
  | zero => intro hq x v1 r0 hf; cases hf
  | succ d ihR =>
  intro hq x v1 r0 hf
  have hf : Md_m_goesDown_b (Md_m_goesDown d) x v1 = some r0 := hf
  generalize Md_m_goesDown d = rec at hf ihR
  refine kg_metW (Qc := fun Q => QWv (dC, dI) Q (wMd cI cJ A r0)) (cc := cX6_goesDown) (maxL := 3) (ret := none) (by decide) rfl (Nat.le_of_ble_eq_true rfl) ?_
  intro p e s m args below meth c Q hx hb hr hts hown hlk hml hP hK hN hD hA hS ls hl
  have hl : lv_has ls 3 [(0, .ref (A 0)), (1, .int v1)] := hl
  have ww0 := hts (.fieldLink RX6 62 "SafeBlocksModel" "row" "[I") (List.mem_cons_of_mem _ wd_8_16)
  have ww1 := hts (.fieldLink RX6 299 "SafeBlocksModel" "rowLong" "I") (List.mem_cons_of_mem _ wd_40_0)
  have hiX6 : ∀ w ∈ u_ws RX6 TX6 30, w ∈ wAll yX6_goesDown cX6_goesDown 3 none := fun w h => List.mem_cons_of_mem _ (inlX6 w h)
  suffices hgo : ∀ (H : Heap) (locs : List Loc), va_P (dC, dI) vwCl (wMd cI cJ A x) H → va_S Q s.heap H locs → W p l e ({ frames := 5 + (d + 1), cells := 0, slots := 0, locals := 132 + 22 * (d + 1) } : Room) s m args below meth c H locs 0 0 (MQ below (QWv (dC, dI) Q (wMd cI cJ A r0)) args s 0 0 Q) (F0 m 0 ls []) from hgo _ _ hP hS
  clear hP hS
  intro H locs hP hS
  unfold Md_m_goesDown_b at hf
  refine lv_aload_n hx hb dX6_goesDown_0 rfl (lv_at hl 0 rfl) ?_
  refine lv_iload_n hx hb dX6_goesDown_1 rfl (lv_at hl 1 rfl) ?_
  obtain ⟨g2, hc, hf⟩ := ob_bind hf
  have hPc : va_P (dC, dI) vwCl (wMd cI cJ A x) H := hP
  refine kg_retRi (va_runV (As := [.int v1]) (rest := []) ⟨hx, hb, hml, hown, hts⟩ (c_X6_bridgesAt l dC dI cI cJ A H x v1 _ hc) (cwV 1 hts (gw_V wd_25_9 wd_25_6 wd_25_7 wd_25_8 wd_1_5) rfl rfl rfl qX6_bridgesAt ⟨by dsimp only; omega, by dsimp only; omega⟩) (kg_preVR (ci := 6) (q := (RX6, TX6, 30)) (q0 := 0) hPc hK hN rfl rfl) rfl rfl hl.1 rfl (lv_room (Nat.le_of_ble_eq_true rfl)) dX6_goesDown_2 ⟨Nat.zero_le _, Nat.zero_le _⟩) ?_
  refine lv_iconst (v := 1) hx hb dX6_goesDown_5 (by decide) ?_
  refine kg_icmp_ne (tgt := 29) hx hb hf dX6_goesDown_6 (by decide) (fun hc hf => ?_) (fun hc hf => ?_)
  · refine lv_iconst (v := 0) hx hb dX6_goesDown_29 (by decide) ?_
    refine lv_istore_n (lv' := [(2, .int 0), (0, .ref (A 0)), (1, .int v1)]) hx hb dX6_goesDown_30 rfl hl (by decide) rfl (fun ls hl => ?_)
    have hlp31 : ∀ (n : Nat) (x : MdS) (v2 : Int32), iter (fun p : MdS × Int32 => Md_m_goesDown_s31 rec v1 p.1 p.2) n (x, v2) = some r0 → ∀ (H : Heap) (locs : List Loc) (ls : Array Slot), va_P (dC, dI) vwCl (wMd cI cJ A x) H → va_D Q (wMd cI cJ A x) → va_S Q s.heap H locs → lv_has ls 3 [(0, .ref (A 0)), (1, .int v1), (2, .int v2)] → W p l e ({ frames := 5 + (d + 1), cells := 0, slots := 0, locals := 132 + 22 * (d + 1) } : Room) s m args below meth c H locs 0 0 (MQ below (QWv (dC, dI) Q (wMd cI cJ A r0)) args s 0 0 Q) (F0 m 31 ls []) := by
      intro  n
      induction n with
      | zero => intro x v2 hf; exact iter_zero hf
      | succ n ih1 =>
        intro x v2 hf H locs ls hP hD hS hl
        obtain ⟨q1, hf, hk1⟩ := iter_succ hf
        have hf : Md_m_goesDown_s31 rec v1 x v2 = some q1 := hf
        unfold Md_m_goesDown_s31 at hf
        refine lv_iload_n hx hb dX6_goesDown_31 rfl (lv_at hl 2 rfl) ?_
        refine lv_aload_n hx hb dX6_goesDown_32 rfl (lv_at hl 0 rfl) ?_
        refine lv_iload_n hx hb dX6_goesDown_33 rfl (lv_at hl 1 rfl) ?_
        obtain ⟨g34, hc, hf⟩ := ob_bind hf
        have hPc : va_P (dC, dI) vwCl (wMd cI cJ A x) H := hP
        refine kg_retRi (va_runV (As := [.int v1]) (rest := [.int v2]) ⟨hx, hb, hml, hown, hts⟩ (c_X6_children l dC dI cI cJ A H x v1 _ hc) (cwV 1 hts (gw_V wd_25_13 wd_25_10 wd_25_11 wd_25_12 wd_1_5) rfl rfl rfl qX6_children ⟨by dsimp only; omega, by dsimp only; omega⟩) (kg_preVR (ci := 6) (q := (RX6, TX6, 30)) (q0 := 0) hPc hK hN rfl rfl) rfl rfl hl.1 rfl (lv_room (Nat.le_of_ble_eq_true rfl)) dX6_goesDown_34 ⟨Nat.zero_le _, Nat.zero_le _⟩) ?_
        refine kg_icmp_ge (tgt := 56) hx hb hf dX6_goesDown_37 (by decide) (fun hc hf => ?_) (fun hc hf => ?_)
        · obtain ⟨qq, hf, hqq⟩ := omap_some hf
          have hkq : qq = r0 := by rw [← hqq] at hk1; exact hk1
          rw [hkq] at hf
          clear hkq hqq
          obtain rfl := Option.some.inj hf
          exact kg_vretW hx hb hr hlk hP hD hS dX6_goesDown_56
        · refine lv_aload_n hx hb dX6_goesDown_40 rfl (lv_at hl 0 rfl) ?_
          refine lv_aload_n hx hb dX6_goesDown_41 rfl (lv_at hl 0 rfl) ?_
          refine lv_iload_n hx hb dX6_goesDown_42 rfl (lv_at hl 1 rfl) ?_
          refine lv_iload_n hx hb dX6_goesDown_43 rfl (lv_at hl 2 rfl) ?_
          obtain ⟨g44, hc, hf⟩ := ob_bind hf
          have hPc : va_P (dC, dI) vwCl (wMd cI cJ A x) H := hP
          refine kg_retRi (va_runV (As := [.int v1, .int v2]) (rest := [.ref (A 0)]) ⟨hx, hb, hml, hown, hts⟩ (c_X6_childOf l dC dI cI cJ A H x v1 v2 _ hc) (cwV 2 hts (gw_V wd_26_18 wd_26_15 wd_26_16 wd_26_17 wd_1_5) rfl rfl rfl qX6_childOf ⟨by dsimp only; omega, by dsimp only; omega⟩) (kg_preVR (ci := 6) (q := (RX6, TX6, 30)) (q0 := 0) hPc hK hN rfl rfl) rfl rfl hl.1 rfl (lv_room (Nat.le_of_ble_eq_true rfl)) dX6_goesDown_44 ⟨Nat.zero_le _, Nat.zero_le _⟩) ?_
          obtain ⟨g47, hc, hf⟩ := ob_bind hf
          have hPx := kg_eqP (kg_slf _) hP
          have hDx := kg_eqD (kg_slf _) hD
          refine kg_retWv (pre := ([] : va_W)) (wc := wMd cI cJ A x) (post := ([] : va_W)) (w1 := wMd cI cJ A g47) (wz := (wMd cI cJ A g47)) (kg_slf _).symm hPx hDx hS hA (va_runV (As := [.int g44]) (rest := []) ⟨hx, hb, hml, hown, hts⟩ (ihR H.size x g44 _ hc) (cwV 1 hts (gw_V wd_40_4 wd_40_1 wd_40_2 wd_40_3 wd_1_5) rfl rfl rfl qX6_goesDown ⟨by dsimp only; omega, by dsimp only; omega⟩) (kg_preVW (ci := 6) (q := (RX6, TX6, 30)) (q0 := 0) (kg_cutP hPx) (kg_cutD hDx) hK hN rfl rfl) rfl rfl hl.1 rfl (lv_room (Nat.le_of_ble_eq_true rfl)) dX6_goesDown_47 ⟨Nat.zero_le _, Nat.zero_le _⟩) (fun H locs hP hD hS => ?_)
          refine lv_iinc (v := (v2 + 1)) (lv' := [(2, .int (v2 + 1)), (0, .ref (A 0)), (1, .int v1)]) hx hb dX6_goesDown_50 hl (k := 2) rfl rfl (by decide) rfl (fun ls hl => ?_)
          refine lv_goto (tgt := 31) hx hb dX6_goesDown_53 (by decide) ?_
          obtain rfl := Option.some.inj hf
          exact ih1 g47 (v2 + 1) hk1 _ _ _ hP hD hS (lv_sub hl [1, 2, 0] rfl)
    exact hlp31  FU x 0 hf _ _ _ hP hD hS (lv_sub hl [1, 2, 0] rfl)
  · refine lv_aload_n hx hb dX6_goesDown_9 rfl (lv_at hl 0 rfl) ?_
    refine va_get (D := (dC, dI)) (ci := 6) (v := .ref (A 15)) (C := RX6) (T := TX6) (N := 30) hx hb hts hiX6 hown hK hP 0 rfl rfl 25 (by decide) ww0 (fun _ h9 => h9) rfl dX6_goesDown_10 ?_
    refine lv_aload_n hx hb dX6_goesDown_13 rfl (lv_at hl 0 rfl) ?_
    refine va_get (D := (dC, dI)) (ci := 6) (v := .int (Md_rowLong x)) (C := RX6) (T := TX6) (N := 30) hx hb hts hiX6 hown hK hP 0 rfl rfl 26 (by decide) ww1 (fun _ h9 => h9) rfl dX6_goesDown_14 ?_
    refine lv_iload_n hx hb dX6_goesDown_17 rfl (lv_at hl 1 rfl) ?_
    obtain ⟨f18, hv, hf⟩ := ob_bind hf
    refine kg_iast (wz := (wMd cI cJ A (Md_set_row x f18))) hx hb hK hP hD hS 15 0 rfl rfl hv dX6_goesDown_18 (sc_Md_row _ _ _ _ _) (fun H locs hP hD hS => ?_)
    refine lv_aload_n hx hb dX6_goesDown_19 rfl (lv_at hl 0 rfl) ?_
    refine lv_aload_n hx hb dX6_goesDown_20 rfl (lv_at hl 0 rfl) ?_
    refine va_get (D := (dC, dI)) (ci := 6) (v := .int (Md_rowLong (Md_set_row x f18))) (C := RX6) (T := TX6) (N := 30) hx hb hts hiX6 hown hK hP 0 rfl rfl 26 (by decide) ww1 (fun _ h9 => h9) rfl dX6_goesDown_21 ?_
    refine lv_iconst (v := 1) hx hb dX6_goesDown_24 (by decide) ?_
    refine lv_iadd hx hb dX6_goesDown_25 ?_
    refine kg_put (ci := 6) (v := .int ((Md_rowLong (Md_set_row x f18)) + 1)) (ty := .int) (C := RX6) (T := TX6) (N := 30) (wz := (wMd cI cJ A (Md_set_rowLong (Md_set_row x f18) ((Md_rowLong (Md_set_row x f18)) + 1)))) hx hb hts hiX6 tyX6 tyX6_ok nmX6 hown hK hP hD hS 0 rfl rfl 26 (by decide) ww1 (fun _ h9 => h9) rfl (tyX6_ok 26 (by decide)) rfl rfl (Nat.le_of_ble_eq_true rfl) dX6_goesDown_26 (sc_Md_rowLong _ _ _ _ _) (fun H locs hP hD hS => ?_)
    refine lv_iconst (v := 0) hx hb dX6_goesDown_29 (by decide) ?_
    refine lv_istore_n (lv' := [(2, .int 0), (0, .ref (A 0)), (1, .int v1)]) hx hb dX6_goesDown_30 rfl hl (by decide) rfl (fun ls hl => ?_)
    have hlp31 : ∀ (n : Nat) (x : MdS) (v2 : Int32), iter (fun p : MdS × Int32 => Md_m_goesDown_s31 rec v1 p.1 p.2) n (x, v2) = some r0 → ∀ (H : Heap) (locs : List Loc) (ls : Array Slot), va_P (dC, dI) vwCl (wMd cI cJ A x) H → va_D Q (wMd cI cJ A x) → va_S Q s.heap H locs → lv_has ls 3 [(0, .ref (A 0)), (1, .int v1), (2, .int v2)] → W p l e ({ frames := 5 + (d + 1), cells := 0, slots := 0, locals := 132 + 22 * (d + 1) } : Room) s m args below meth c H locs 0 0 (MQ below (QWv (dC, dI) Q (wMd cI cJ A r0)) args s 0 0 Q) (F0 m 31 ls []) := by
      intro  n
      induction n with
      | zero => intro x v2 hf; exact iter_zero hf
      | succ n ih1 =>
        intro x v2 hf H locs ls hP hD hS hl
        obtain ⟨q1, hf, hk1⟩ := iter_succ hf
        have hf : Md_m_goesDown_s31 rec v1 x v2 = some q1 := hf
        unfold Md_m_goesDown_s31 at hf
        refine lv_iload_n hx hb dX6_goesDown_31 rfl (lv_at hl 2 rfl) ?_
        refine lv_aload_n hx hb dX6_goesDown_32 rfl (lv_at hl 0 rfl) ?_
        refine lv_iload_n hx hb dX6_goesDown_33 rfl (lv_at hl 1 rfl) ?_
        obtain ⟨g34, hc, hf⟩ := ob_bind hf
        have hPc : va_P (dC, dI) vwCl (wMd cI cJ A x) H := hP
        refine kg_retRi (va_runV (As := [.int v1]) (rest := [.int v2]) ⟨hx, hb, hml, hown, hts⟩ (c_X6_children l dC dI cI cJ A H x v1 _ hc) (cwV 1 hts (gw_V wd_25_13 wd_25_10 wd_25_11 wd_25_12 wd_1_5) rfl rfl rfl qX6_children ⟨by dsimp only; omega, by dsimp only; omega⟩) (kg_preVR (ci := 6) (q := (RX6, TX6, 30)) (q0 := 0) hPc hK hN rfl rfl) rfl rfl hl.1 rfl (lv_room (Nat.le_of_ble_eq_true rfl)) dX6_goesDown_34 ⟨Nat.zero_le _, Nat.zero_le _⟩) ?_
        refine kg_icmp_ge (tgt := 56) hx hb hf dX6_goesDown_37 (by decide) (fun hc hf => ?_) (fun hc hf => ?_)
        · obtain ⟨qq, hf, hqq⟩ := omap_some hf
          have hkq : qq = r0 := by rw [← hqq] at hk1; exact hk1
          rw [hkq] at hf
          clear hkq hqq
          obtain rfl := Option.some.inj hf
          exact kg_vretW hx hb hr hlk hP hD hS dX6_goesDown_56
        · refine lv_aload_n hx hb dX6_goesDown_40 rfl (lv_at hl 0 rfl) ?_
          refine lv_aload_n hx hb dX6_goesDown_41 rfl (lv_at hl 0 rfl) ?_
          refine lv_iload_n hx hb dX6_goesDown_42 rfl (lv_at hl 1 rfl) ?_
          refine lv_iload_n hx hb dX6_goesDown_43 rfl (lv_at hl 2 rfl) ?_
          obtain ⟨g44, hc, hf⟩ := ob_bind hf
          have hPc : va_P (dC, dI) vwCl (wMd cI cJ A x) H := hP
          refine kg_retRi (va_runV (As := [.int v1, .int v2]) (rest := [.ref (A 0)]) ⟨hx, hb, hml, hown, hts⟩ (c_X6_childOf l dC dI cI cJ A H x v1 v2 _ hc) (cwV 2 hts (gw_V wd_26_18 wd_26_15 wd_26_16 wd_26_17 wd_1_5) rfl rfl rfl qX6_childOf ⟨by dsimp only; omega, by dsimp only; omega⟩) (kg_preVR (ci := 6) (q := (RX6, TX6, 30)) (q0 := 0) hPc hK hN rfl rfl) rfl rfl hl.1 rfl (lv_room (Nat.le_of_ble_eq_true rfl)) dX6_goesDown_44 ⟨Nat.zero_le _, Nat.zero_le _⟩) ?_
          obtain ⟨g47, hc, hf⟩ := ob_bind hf
          have hPx := kg_eqP (kg_slf _) hP
          have hDx := kg_eqD (kg_slf _) hD
          refine kg_retWv (pre := ([] : va_W)) (wc := wMd cI cJ A x) (post := ([] : va_W)) (w1 := wMd cI cJ A g47) (wz := (wMd cI cJ A g47)) (kg_slf _).symm hPx hDx hS hA (va_runV (As := [.int g44]) (rest := []) ⟨hx, hb, hml, hown, hts⟩ (ihR H.size x g44 _ hc) (cwV 1 hts (gw_V wd_40_4 wd_40_1 wd_40_2 wd_40_3 wd_1_5) rfl rfl rfl qX6_goesDown ⟨by dsimp only; omega, by dsimp only; omega⟩) (kg_preVW (ci := 6) (q := (RX6, TX6, 30)) (q0 := 0) (kg_cutP hPx) (kg_cutD hDx) hK hN rfl rfl) rfl rfl hl.1 rfl (lv_room (Nat.le_of_ble_eq_true rfl)) dX6_goesDown_47 ⟨Nat.zero_le _, Nat.zero_le _⟩) (fun H locs hP hD hS => ?_)
          refine lv_iinc (v := (v2 + 1)) (lv' := [(2, .int (v2 + 1)), (0, .ref (A 0)), (1, .int v1)]) hx hb dX6_goesDown_50 hl (k := 2) rfl rfl (by decide) rfl (fun ls hl => ?_)
          refine lv_goto (tgt := 31) hx hb dX6_goesDown_53 (by decide) ?_
          obtain rfl := Option.some.inj hf
          exact ih1 g47 (v2 + 1) hk1 _ _ _ hP hD hS (lv_sub hl [1, 2, 0] rfl)
    exact hlp31  FU (Md_set_rowLong (Md_set_row x f18) ((Md_rowLong (Md_set_row x f18)) + 1)) 0 hf _ _ _ hP hD hS (lv_sub hl [1, 2, 0] rfl)
set_option maxHeartbeats 4000000 in
set_option maxRecDepth 100000 in
theorem c_X6_mending (l : Launch) (dC : Nat → ClassId) (dI : Nat → Nat → Nat) (cI cJ : ClassId) (A : Nat → Nat) (hq : Nat) (x : MdS) (v1 : Int32) (v2 : Int32) (v3 : Int32) (r0 : (Int32 × MdS)) (hf : Md_m_mending x v1 v2 v3 = some r0) : MWi l yX6_mending (wAll yX6_mending cX6_mending 4 (some .int)) ({ frames := 46, cells := 0, slots := 0, locals := 1034 } : Room) [.ref (A 0), .int v1, .int v2, .int v3] hq (dC, dI) (vTy cI cJ) (wMd cI cJ A x) (wMd cI cJ A r0.2) r0.1 := by
  refine kg_metW (Qc := fun Q => QWi (dC, dI) Q (wMd cI cJ A r0.2) r0.1) (cc := cX6_mending) (maxL := 4) (ret := (some .int)) (by decide) rfl (Nat.le_of_ble_eq_true rfl) ?_
  intro p e s m args below meth c Q hx hb hr hts hown hlk hml hP hK hN hD hA hS ls hl
  have hl : lv_has ls 4 [(0, .ref (A 0)), (1, .int v1), (2, .int v2), (3, .int v3)] := hl
  have ww0 := hts (.fieldLink RX6 71 "SafeBlocksModel" "told" "I") (List.mem_cons_of_mem _ wd_9_3)
  have ww1 := hts (.fieldLink RX6 299 "SafeBlocksModel" "rowLong" "I") (List.mem_cons_of_mem _ wd_40_0)
  have ww2 := hts (.fieldLink RX6 62 "SafeBlocksModel" "row" "[I") (List.mem_cons_of_mem _ wd_8_16)
  have hiX6 : ∀ w ∈ u_ws RX6 TX6 30, w ∈ wAll yX6_mending cX6_mending 4 (some .int) := fun w h => List.mem_cons_of_mem _ (inlX6 w h)
  suffices hgo : ∀ (H : Heap) (locs : List Loc), va_P (dC, dI) vwCl (wMd cI cJ A x) H → va_S Q s.heap H locs → W p l e ({ frames := 46, cells := 0, slots := 0, locals := 1034 } : Room) s m args below meth c H locs 0 0 (MQ below (QWi (dC, dI) Q (wMd cI cJ A r0.2) r0.1) args s 0 0 Q) (F0 m 0 ls []) from hgo _ _ hP hS
  clear hP hS
  intro H locs hP hS
  unfold Md_m_mending at hf
  have hj85 : ∀ (x : MdS) (w2 : Int32) (w4 : Int32), Md_m_mending_j85 x w2 w4 = some r0 → ∀ (H : Heap) (locs : List Loc) (ls : Array Slot), va_P (dC, dI) vwCl (wMd cI cJ A x) H → va_D Q (wMd cI cJ A x) → va_S Q s.heap H locs → lv_has ls 4 [] → W p l e ({ frames := 46, cells := 0, slots := 0, locals := 1034 } : Room) s m args below meth c H locs 0 0 (MQ below (QWi (dC, dI) Q (wMd cI cJ A r0.2) r0.1) args s 0 0 Q) (F0 m 85 ls [.int w4, .ref (A 15), .int w2, .ref (A 0), .ref (A 0)]) := by
    intro x w2 w4 hf H locs ls hP hD hS hl
    unfold Md_m_mending_j85 at hf
    obtain ⟨g85, hv, hf⟩ := ob_bind hf
    refine kg_iald hx hb hK hP 15 0 rfl rfl hv dX6_mending_85 ?_
    obtain ⟨g86, hc, hf⟩ := ob_bind hf
    have hPc : va_P (dC, dI) vwCl (wMd cI cJ A x) H := hP
    refine kg_retRi (va_runV (As := [.int w2, .int g85]) (rest := [.ref (A 0)]) ⟨hx, hb, hml, hown, hts⟩ (c_X6_nodesOf l dC dI cI cJ A H x w2 g85 _ hc) (cwV 2 hts (gw_V wd_24_21 wd_24_18 wd_24_19 wd_24_20 wd_1_5) rfl rfl rfl qX6_nodesOf ⟨Nat.le_of_ble_eq_true rfl, Nat.le_of_ble_eq_true rfl⟩) (kg_preVR (ci := 6) (q := (RX6, TX6, 30)) (q0 := 0) hPc hK hN rfl rfl) rfl rfl hl.1 rfl (lv_room (Nat.le_of_ble_eq_true rfl)) dX6_mending_86 ⟨Nat.zero_le _, Nat.zero_le _⟩) ?_
    obtain ⟨g89, hc, hf⟩ := ob_bind hf
    have hPc : va_P (dC, dI) vwCl (wMd cI cJ A x) H := hP
    refine kg_retRi (va_runV (As := [.int g86]) (rest := []) ⟨hx, hb, hml, hown, hts⟩ (c_X6_least l dC dI cI cJ A H x g86 _ hc) (cwV 1 hts (gw_V wd_25_1 wd_24_22 wd_24_23 wd_25_0 wd_1_5) rfl rfl rfl qX6_least ⟨Nat.le_of_ble_eq_true rfl, Nat.le_of_ble_eq_true rfl⟩) (kg_preVR (ci := 6) (q := (RX6, TX6, 30)) (q0 := 0) hPc hK hN rfl rfl) rfl rfl hl.1 rfl (lv_room (Nat.le_of_ble_eq_true rfl)) dX6_mending_89 ⟨Nat.zero_le _, Nat.zero_le _⟩) ?_
    obtain rfl := Option.some.inj hf
    exact kg_iretW hx hb hr hlk rfl hP hD hS dX6_mending_92
  refine lv_aload_n hx hb dX6_mending_0 rfl (lv_at hl 0 rfl) ?_
  refine lv_iconst (v := 0) hx hb dX6_mending_1 (by decide) ?_
  refine kg_put (ci := 6) (v := .int 0) (ty := .int) (C := RX6) (T := TX6) (N := 30) (wz := (wMd cI cJ A (Md_set_told x 0))) hx hb hts hiX6 tyX6 tyX6_ok nmX6 hown hK hP hD hS 0 rfl rfl 0 (by decide) ww0 (fun _ h9 => h9) rfl (tyX6_ok 0 (by decide)) rfl rfl (Nat.le_of_ble_eq_true rfl) dX6_mending_2 (sc_Md_told _ _ _ _ _) (fun H locs hP hD hS => ?_)
  refine lv_aload_n hx hb dX6_mending_5 rfl (lv_at hl 0 rfl) ?_
  obtain ⟨g6, hc, hf⟩ := ob_bind hf
  have hPx := kg_eqP (kg_slf _) hP
  have hDx := kg_eqD (kg_slf _) hD
  refine kg_retWv (pre := ([] : va_W)) (wc := wMd cI cJ A (Md_set_told x 0)) (post := ([] : va_W)) (w1 := wMd cI cJ A g6) (wz := (wMd cI cJ A g6)) (kg_slf _).symm hPx hDx hS hA (va_runV (As := []) (rest := []) ⟨hx, hb, hml, hown, hts⟩ (c_X6_runsAll l dC dI cI cJ A H.size (Md_set_told x 0) _ hc) (cwV 0 hts (gw_V wd_12_17 wd_12_14 wd_12_15 wd_12_16 wd_1_5) rfl rfl rfl qX6_runsAll ⟨Nat.le_of_ble_eq_true rfl, Nat.le_of_ble_eq_true rfl⟩) (kg_preVW (ci := 6) (q := (RX6, TX6, 30)) (q0 := 0) (kg_cutP hPx) (kg_cutD hDx) hK hN rfl rfl) rfl rfl hl.1 rfl (lv_room (Nat.le_of_ble_eq_true rfl)) dX6_mending_6 ⟨Nat.zero_le _, Nat.zero_le _⟩) (fun H locs hP hD hS => ?_)
  refine lv_aload_n hx hb dX6_mending_9 rfl (lv_at hl 0 rfl) ?_
  refine lv_iload_n hx hb dX6_mending_10 rfl (lv_at hl 1 rfl) ?_
  obtain ⟨g11, hc, hf⟩ := ob_bind hf
  have hPc : va_P (dC, dI) vwCl (wMd cI cJ A g6) H := hP
  refine kg_retRi (va_runV (As := [.int v1]) (rest := []) ⟨hx, hb, hml, hown, hts⟩ (c_X6_isLand l dC dI cI cJ A H g6 v1 _ hc) (cwV 1 hts (gw_V wd_29_15 wd_29_12 wd_29_13 wd_29_14 wd_1_5) rfl rfl rfl qX6_isLand ⟨Nat.le_of_ble_eq_true rfl, Nat.le_of_ble_eq_true rfl⟩) (kg_preVR (ci := 6) (q := (RX6, TX6, 30)) (q0 := 0) hPc hK hN rfl rfl) rfl rfl hl.1 rfl (lv_room (Nat.le_of_ble_eq_true rfl)) dX6_mending_11 ⟨Nat.zero_le _, Nat.zero_le _⟩) ?_
  refine kg_b_eq (tgt := 46) hx hb hf dX6_mending_14 (by decide) (fun hc hf => ?_) (fun hc hf => ?_)
  · refine lv_iconst (v := (-1)) hx hb dX6_mending_46 (by decide) ?_
    obtain rfl := Option.some.inj hf
    exact kg_iretW hx hb hr hlk rfl hP hD hS dX6_mending_47
  · refine lv_aload_n hx hb dX6_mending_17 rfl (lv_at hl 0 rfl) ?_
    refine lv_iload_n hx hb dX6_mending_18 rfl (lv_at hl 3 rfl) ?_
    refine lv_i2l hx hb dX6_mending_19 rfl ?_
    refine lv_lconst (v := 0) hx hb dX6_mending_20 (by decide) ?_
    refine lv_lconst (v := 1) hx hb dX6_mending_21 (by decide) ?_
    obtain ⟨g22, hc, hf⟩ := ob_bind hf
    have hPc : va_P (dC, dI) vwCl (wMd cI cJ A g6) H := hP
    refine kg_retRi (va_runV (As := [.long ((v3 : Int32).toInt64), .long 0, .long 1]) (rest := []) ⟨hx, hb, hml, hown, hts⟩ (c_X6_isIn l dC dI cI cJ A H g6 ((v3 : Int32).toInt64) 0 1 _ hc) (cwV 3 hts (gw_V wd_9_10 wd_9_7 wd_9_8 wd_9_9 wd_1_5) rfl rfl rfl qX6_isIn ⟨Nat.le_of_ble_eq_true rfl, Nat.le_of_ble_eq_true rfl⟩) (kg_preVR (ci := 6) (q := (RX6, TX6, 30)) (q0 := 0) hPc hK hN rfl rfl) rfl rfl hl.1 rfl (lv_room (Nat.le_of_ble_eq_true rfl)) dX6_mending_22 ⟨Nat.zero_le _, Nat.zero_le _⟩) ?_
    refine kg_b_eq (tgt := 46) hx hb hf dX6_mending_25 (by decide) (fun hc hf => ?_) (fun hc hf => ?_)
    · refine lv_iconst (v := (-1)) hx hb dX6_mending_46 (by decide) ?_
      obtain rfl := Option.some.inj hf
      exact kg_iretW hx hb hr hlk rfl hP hD hS dX6_mending_47
    · refine lv_aload_n hx hb dX6_mending_28 rfl (lv_at hl 0 rfl) ?_
      refine lv_iload_n hx hb dX6_mending_29 rfl (lv_at hl 2 rfl) ?_
      refine lv_i2l hx hb dX6_mending_30 rfl ?_
      refine lv_lconst (v := 0) hx hb dX6_mending_31 (by decide) ?_
      refine lv_aload_n hx hb dX6_mending_32 rfl (lv_at hl 0 rfl) ?_
      refine lv_iload_n hx hb dX6_mending_33 rfl (lv_at hl 1 rfl) ?_
      obtain ⟨g34, hc, hf⟩ := ob_bind hf
      have hPc : va_P (dC, dI) vwCl (wMd cI cJ A g6) H := hP
      refine kg_retRi (va_runV (As := [.int v1]) (rest := [.long 0, .long ((v2 : Int32).toInt64), .ref (A 0)]) ⟨hx, hb, hml, hown, hts⟩ (c_X6_mend l dC dI cI cJ A H g6 v1 _ hc) (cwV 1 hts (gw_V wd_30_11 wd_30_8 wd_30_9 wd_30_10 wd_1_5) rfl rfl rfl qX6_mend ⟨Nat.le_of_ble_eq_true rfl, Nat.le_of_ble_eq_true rfl⟩) (kg_preVR (ci := 6) (q := (RX6, TX6, 30)) (q0 := 0) hPc hK hN rfl rfl) rfl rfl hl.1 rfl (lv_room (Nat.le_of_ble_eq_true rfl)) dX6_mending_34 ⟨Nat.zero_le _, Nat.zero_le _⟩) ?_
      refine lv_i2l hx hb dX6_mending_37 rfl ?_
      refine lv_lconst (v := 1) hx hb dX6_mending_38 (by decide) ?_
      refine lv_lsub hx hb dX6_mending_39 ?_
      obtain ⟨g40, hc, hf⟩ := ob_bind hf
      have hPc : va_P (dC, dI) vwCl (wMd cI cJ A g6) H := hP
      refine kg_retRi (va_runV (As := [.long ((v2 : Int32).toInt64), .long 0, .long (((g34 : Int32).toInt64) - 1)]) (rest := []) ⟨hx, hb, hml, hown, hts⟩ (c_X6_isIn l dC dI cI cJ A H g6 ((v2 : Int32).toInt64) 0 (((g34 : Int32).toInt64) - 1) _ hc) (cwV 3 hts (gw_V wd_9_10 wd_9_7 wd_9_8 wd_9_9 wd_1_5) rfl rfl rfl qX6_isIn ⟨Nat.le_of_ble_eq_true rfl, Nat.le_of_ble_eq_true rfl⟩) (kg_preVR (ci := 6) (q := (RX6, TX6, 30)) (q0 := 0) hPc hK hN rfl rfl) rfl rfl hl.1 rfl (lv_room (Nat.le_of_ble_eq_true rfl)) dX6_mending_40 ⟨Nat.zero_le _, Nat.zero_le _⟩) ?_
      refine kg_b_ne (tgt := 48) hx hb hf dX6_mending_43 (by decide) (fun hc hf => ?_) (fun hc hf => ?_)
      · refine lv_aload_n hx hb dX6_mending_48 rfl (lv_at hl 0 rfl) ?_
        refine lv_iconst (v := 0) hx hb dX6_mending_49 (by decide) ?_
        refine kg_put (ci := 6) (v := .int 0) (ty := .int) (C := RX6) (T := TX6) (N := 30) (wz := (wMd cI cJ A (Md_set_rowLong g6 0))) hx hb hts hiX6 tyX6 tyX6_ok nmX6 hown hK hP hD hS 0 rfl rfl 26 (by decide) ww1 (fun _ h9 => h9) rfl (tyX6_ok 26 (by decide)) rfl rfl (Nat.le_of_ble_eq_true rfl) dX6_mending_50 (sc_Md_rowLong _ _ _ _ _) (fun H locs hP hD hS => ?_)
        refine lv_aload_n hx hb dX6_mending_53 rfl (lv_at hl 0 rfl) ?_
        refine lv_aload_n hx hb dX6_mending_54 rfl (lv_at hl 0 rfl) ?_
        refine lv_iload_n hx hb dX6_mending_55 rfl (lv_at hl 1 rfl) ?_
        obtain ⟨g56, hc, hf⟩ := ob_bind hf
        have hPc : va_P (dC, dI) vwCl (wMd cI cJ A (Md_set_rowLong g6 0)) H := hP
        refine kg_retRi (va_runV (As := [.int v1]) (rest := [.ref (A 0)]) ⟨hx, hb, hml, hown, hts⟩ (c_X6_rootOf l dC dI cI cJ A H (Md_set_rowLong g6 0) v1 _ hc) (cwV 1 hts (gw_V wd_30_7 wd_30_4 wd_30_5 wd_30_6 wd_1_5) rfl rfl rfl qX6_rootOf ⟨Nat.le_of_ble_eq_true rfl, Nat.le_of_ble_eq_true rfl⟩) (kg_preVR (ci := 6) (q := (RX6, TX6, 30)) (q0 := 0) hPc hK hN rfl rfl) rfl rfl hl.1 rfl (lv_room (Nat.le_of_ble_eq_true rfl)) dX6_mending_56 ⟨Nat.zero_le _, Nat.zero_le _⟩) ?_
        obtain ⟨g59, hc, hf⟩ := ob_bind hf
        have hPx := kg_eqP (kg_slf _) hP
        have hDx := kg_eqD (kg_slf _) hD
        refine kg_retWv (pre := ([] : va_W)) (wc := wMd cI cJ A (Md_set_rowLong g6 0)) (post := ([] : va_W)) (w1 := wMd cI cJ A g59) (wz := (wMd cI cJ A g59)) (kg_slf _).symm hPx hDx hS hA (va_runV (As := [.int g56]) (rest := []) ⟨hx, hb, hml, hown, hts⟩ (c_X6_goesDown l dC dI cI cJ A 40 H.size (Md_set_rowLong g6 0) g56 _ hc) (cwV 1 hts (gw_V wd_40_4 wd_40_1 wd_40_2 wd_40_3 wd_1_5) rfl rfl rfl qX6_goesDown ⟨Nat.le_of_ble_eq_true rfl, Nat.le_of_ble_eq_true rfl⟩) (kg_preVW (ci := 6) (q := (RX6, TX6, 30)) (q0 := 0) (kg_cutP hPx) (kg_cutD hDx) hK hN rfl rfl) rfl rfl hl.1 rfl (lv_room (Nat.le_of_ble_eq_true rfl)) dX6_mending_59 ⟨Nat.zero_le _, Nat.zero_le _⟩) (fun H locs hP hD hS => ?_)
        refine lv_aload_n hx hb dX6_mending_62 rfl (lv_at hl 0 rfl) ?_
        refine lv_aload_n hx hb dX6_mending_63 rfl (lv_at hl 0 rfl) ?_
        refine lv_iconst (v := 0) hx hb dX6_mending_64 (by decide) ?_
        refine lv_aload_n hx hb dX6_mending_65 rfl (lv_at hl 0 rfl) ?_
        refine va_get (D := (dC, dI)) (ci := 6) (v := .ref (A 15)) (C := RX6) (T := TX6) (N := 30) hx hb hts hiX6 hown hK hP 0 rfl rfl 25 (by decide) ww2 (fun _ h9 => h9) rfl dX6_mending_66 ?_
        refine lv_iload_n hx hb dX6_mending_69 rfl (lv_at hl 3 rfl) ?_
        refine kg_if_ne (tgt := 77) hx hb hf dX6_mending_70 (by decide) (fun hc hf => ?_) (fun hc hf => ?_)
        · refine lv_iload_n hx hb dX6_mending_77 rfl (lv_at hl 2 rfl) ?_
          refine lv_aload_n hx hb dX6_mending_78 rfl (lv_at hl 0 rfl) ?_
          refine va_get (D := (dC, dI)) (ci := 6) (v := .int (Md_rowLong g59)) (C := RX6) (T := TX6) (N := 30) hx hb hts hiX6 hown hK hP 0 rfl rfl 26 (by decide) ww1 (fun _ h9 => h9) rfl dX6_mending_79 ?_
          refine lv_iconst (v := 2) hx hb dX6_mending_82 (by decide) ?_
          obtain ⟨g83, hv, hf⟩ := ob_bind hf
          refine kg_idiv hx hb hv dX6_mending_83 ?_
          refine lv_iadd hx hb dX6_mending_84 ?_
          exact hj85 g59 0 (v2 + g83) hf _ _ _ hP hD hS (lv_sub hl [] rfl)
        · refine lv_iload_n hx hb dX6_mending_73 rfl (lv_at hl 2 rfl) ?_
          refine lv_goto (tgt := 85) hx hb dX6_mending_74 (by decide) ?_
          exact hj85 g59 0 v2 hf _ _ _ hP hD hS (lv_sub hl [] rfl)
      · refine lv_iconst (v := (-1)) hx hb dX6_mending_46 (by decide) ?_
        obtain rfl := Option.some.inj hf
        exact kg_iretW hx hb hr hlk rfl hP hD hS dX6_mending_47
set_option maxHeartbeats 4000000 in
set_option maxRecDepth 100000 in
theorem c_X6_story (l : Launch) (dC : Nat → ClassId) (dI : Nat → Nat → Nat) (cI cJ : ClassId) (A : Nat → Nat) (hq : Nat) (x : MdS) (v1 : Int32) (v2 : Int32) (v3 : Int32) (r0 : (Int32 × MdS)) (hf : Md_m_story x v1 v2 v3 = some r0) : MWi l yX6_story (wAll yX6_story cX6_story 6 (some .int)) ({ frames := 7, cells := 0, slots := 0, locals := 187 } : Room) [.ref (A 0), .int v1, .int v2, .int v3] hq (dC, dI) (vTy cI cJ) (wMd cI cJ A x) (wMd cI cJ A r0.2) r0.1 := by
  refine kg_metW (Qc := fun Q => QWi (dC, dI) Q (wMd cI cJ A r0.2) r0.1) (cc := cX6_story) (maxL := 6) (ret := (some .int)) (by decide) rfl (Nat.le_of_ble_eq_true rfl) ?_
  intro p e s m args below meth c Q hx hb hr hts hown hlk hml hP hK hN hD hA hS ls hl
  have hl : lv_has ls 6 [(0, .ref (A 0)), (1, .int v1), (2, .int v2), (3, .int v3)] := hl
  have ww0 := hts (.fieldLink RX6 71 "SafeBlocksModel" "told" "I") (List.mem_cons_of_mem _ wd_9_3)
  have ww1 := hts (.fieldLink RX6 35 "SafeBlocksModel" "into" "[I") (List.mem_cons_of_mem _ wd_8_7)
  have ww2 := hts (.fieldLink RX6 32 "SafeBlocksModel" "endedBy" "[I") (List.mem_cons_of_mem _ wd_8_6)
  have ww3 := hts (.fieldLink RX6 38 "SafeBlocksModel" "most" "[I") (List.mem_cons_of_mem _ wd_8_8)
  have hiX6 : ∀ w ∈ u_ws RX6 TX6 30, w ∈ wAll yX6_story cX6_story 6 (some .int) := fun w h => List.mem_cons_of_mem _ (inlX6 w h)
  suffices hgo : ∀ (H : Heap) (locs : List Loc), va_P (dC, dI) vwCl (wMd cI cJ A x) H → va_S Q s.heap H locs → W p l e ({ frames := 7, cells := 0, slots := 0, locals := 187 } : Room) s m args below meth c H locs 0 0 (MQ below (QWi (dC, dI) Q (wMd cI cJ A r0.2) r0.1) args s 0 0 Q) (F0 m 0 ls []) from hgo _ _ hP hS
  clear hP hS
  intro H locs hP hS
  unfold Md_m_story at hf
  refine lv_aload_n hx hb dX6_story_0 rfl (lv_at hl 0 rfl) ?_
  refine lv_iconst (v := 0) hx hb dX6_story_1 (by decide) ?_
  refine kg_put (ci := 6) (v := .int 0) (ty := .int) (C := RX6) (T := TX6) (N := 30) (wz := (wMd cI cJ A (Md_set_told x 0))) hx hb hts hiX6 tyX6 tyX6_ok nmX6 hown hK hP hD hS 0 rfl rfl 0 (by decide) ww0 (fun _ h9 => h9) rfl (tyX6_ok 0 (by decide)) rfl rfl (Nat.le_of_ble_eq_true rfl) dX6_story_2 (sc_Md_told _ _ _ _ _) (fun H locs hP hD hS => ?_)
  refine lv_iload_n hx hb dX6_story_5 rfl (lv_at hl 1 rfl) ?_
  refine lv_iconst (v := 2) hx hb dX6_story_6 (by decide) ?_
  refine kg_icmp_ne (tgt := 17) hx hb hf dX6_story_7 (by decide) (fun hc hf => ?_) (fun hc hf => ?_)
  · refine lv_aload_n hx hb dX6_story_17 rfl (lv_at hl 0 rfl) ?_
    refine lv_iload_n hx hb dX6_story_18 rfl (lv_at hl 1 rfl) ?_
    refine lv_i2l hx hb dX6_story_19 rfl ?_
    refine lv_lconst (v := 0) hx hb dX6_story_20 (by decide) ?_
    refine lv_lconst (v := 1) hx hb dX6_story_21 (by decide) ?_
    obtain ⟨g22, hc, hf⟩ := ob_bind hf
    have hPc : va_P (dC, dI) vwCl (wMd cI cJ A (Md_set_told x 0)) H := hP
    refine kg_retRi (va_runV (As := [.long ((v1 : Int32).toInt64), .long 0, .long 1]) (rest := []) ⟨hx, hb, hml, hown, hts⟩ (c_X6_isIn l dC dI cI cJ A H (Md_set_told x 0) ((v1 : Int32).toInt64) 0 1 _ hc) (cwV 3 hts (gw_V wd_9_10 wd_9_7 wd_9_8 wd_9_9 wd_1_5) rfl rfl rfl qX6_isIn ⟨Nat.le_of_ble_eq_true rfl, Nat.le_of_ble_eq_true rfl⟩) (kg_preVR (ci := 6) (q := (RX6, TX6, 30)) (q0 := 0) hPc hK hN rfl rfl) rfl rfl hl.1 rfl (lv_room (Nat.le_of_ble_eq_true rfl)) dX6_story_22 ⟨Nat.zero_le _, Nat.zero_le _⟩) ?_
    refine kg_b_eq (tgt := 36) hx hb hf dX6_story_25 (by decide) (fun hc hf => ?_) (fun hc hf => ?_)
    · refine lv_iconst (v := (-1)) hx hb dX6_story_36 (by decide) ?_
      obtain rfl := Option.some.inj hf
      exact kg_iretW hx hb hr hlk rfl hP hD hS dX6_story_37
    · refine lv_aload_n hx hb dX6_story_28 rfl (lv_at hl 0 rfl) ?_
      refine lv_iload_n hx hb dX6_story_29 rfl (lv_at hl 2 rfl) ?_
      obtain ⟨g30, hc, hf⟩ := ob_bind hf
      have hPc : va_P (dC, dI) vwCl (wMd cI cJ A (Md_set_told x 0)) H := hP
      refine kg_retRi (va_runV (As := [.int v2]) (rest := []) ⟨hx, hb, hml, hown, hts⟩ (c_X6_isNode l dC dI cI cJ A H (Md_set_told x 0) v2 _ hc) (cwV 1 hts (gw_V wd_12_13 wd_12_10 wd_12_11 wd_12_12 wd_1_5) rfl rfl rfl qX6_isNode ⟨Nat.le_of_ble_eq_true rfl, Nat.le_of_ble_eq_true rfl⟩) (kg_preVR (ci := 6) (q := (RX6, TX6, 30)) (q0 := 0) hPc hK hN rfl rfl) rfl rfl hl.1 rfl (lv_room (Nat.le_of_ble_eq_true rfl)) dX6_story_30 ⟨Nat.zero_le _, Nat.zero_le _⟩) ?_
      refine kg_b_ne (tgt := 38) hx hb hf dX6_story_33 (by decide) (fun hc hf => ?_) (fun hc hf => ?_)
      · refine lv_aload_n hx hb dX6_story_38 rfl (lv_at hl 0 rfl) ?_
        obtain ⟨g39, hc, hf⟩ := ob_bind hf
        have hPx := kg_eqP (kg_slf _) hP
        have hDx := kg_eqD (kg_slf _) hD
        refine kg_retWv (pre := ([] : va_W)) (wc := wMd cI cJ A (Md_set_told x 0)) (post := ([] : va_W)) (w1 := wMd cI cJ A g39) (wz := (wMd cI cJ A g39)) (kg_slf _).symm hPx hDx hS hA (va_runV (As := []) (rest := []) ⟨hx, hb, hml, hown, hts⟩ (c_X6_runsAll l dC dI cI cJ A H.size (Md_set_told x 0) _ hc) (cwV 0 hts (gw_V wd_12_17 wd_12_14 wd_12_15 wd_12_16 wd_1_5) rfl rfl rfl qX6_runsAll ⟨Nat.le_of_ble_eq_true rfl, Nat.le_of_ble_eq_true rfl⟩) (kg_preVW (ci := 6) (q := (RX6, TX6, 30)) (q0 := 0) (kg_cutP hPx) (kg_cutD hDx) hK hN rfl rfl) rfl rfl hl.1 rfl (lv_room (Nat.le_of_ble_eq_true rfl)) dX6_story_39 ⟨Nat.zero_le _, Nat.zero_le _⟩) (fun H locs hP hD hS => ?_)
        refine lv_bipush (v := 32) hx hb dX6_story_42 (by decide) ?_
        refine lv_iload_n hx hb dX6_story_44 rfl (lv_at hl 1 rfl) ?_
        refine lv_imul hx hb dX6_story_45 ?_
        refine lv_iload_n hx hb dX6_story_46 rfl (lv_at hl 2 rfl) ?_
        refine lv_iadd hx hb dX6_story_47 ?_
        refine lv_istore (lv' := [(4, .int ((32 * v1) + v2)), (0, .ref (A 0)), (1, .int v1), (2, .int v2), (3, .int v3)]) hx hb dX6_story_48 hl (by decide) rfl (fun ls hl => ?_)
        refine lv_iload_n hx hb dX6_story_50 rfl (lv_at hl 3 rfl) ?_
        refine lv_istore (lv' := [(5, .int v2), (4, .int ((32 * v1) + v2)), (0, .ref (A 0)), (1, .int v1), (2, .int v2), (3, .int v3)]) hx hb dX6_story_51 hl (by decide) rfl (fun ls hl => ?_)
        have hlp53 : ∀ (x : MdS) (v4 : Int32), ∀ (n : Nat) (v5 : Int32), iter (fun p : Int32 => Md_m_story_s53 x v1 v3 v4 p) n (v5) = some r0 → ∀ (H : Heap) (locs : List Loc) (ls : Array Slot), va_P (dC, dI) vwCl (wMd cI cJ A x) H → va_D Q (wMd cI cJ A x) → va_S Q s.heap H locs → lv_has ls 6 [(0, .ref (A 0)), (1, .int v1), (3, .int v3), (4, .int v4), (5, .int v5)] → W p l e ({ frames := 7, cells := 0, slots := 0, locals := 187 } : Room) s m args below meth c H locs 0 0 (MQ below (QWi (dC, dI) Q (wMd cI cJ A r0.2) r0.1) args s 0 0 Q) (F0 m 53 ls []) := by
          intro x v4 n
          induction n with
          | zero => intro v5 hf; exact iter_zero hf
          | succ n ih1 =>
            intro v5 hf H locs ls hP hD hS hl
            obtain ⟨q1, hf, hk1⟩ := iter_succ hf
            have hf : Md_m_story_s53 x v1 v3 v4 v5 = some q1 := hf
            unfold Md_m_story_s53 at hf
            refine lv_aload_n hx hb dX6_story_53 rfl (lv_at hl 0 rfl) ?_
            refine va_get (D := (dC, dI)) (ci := 6) (v := .ref (A 7)) (C := RX6) (T := TX6) (N := 30) hx hb hts hiX6 hown hK hP 0 rfl rfl 11 (by decide) ww1 (fun _ h9 => h9) rfl dX6_story_54 ?_
            refine lv_bipush (v := 32) hx hb dX6_story_57 (by decide) ?_
            refine lv_iload_n hx hb dX6_story_59 rfl (lv_at hl 1 rfl) ?_
            refine lv_imul hx hb dX6_story_60 ?_
            refine lv_iload hx hb dX6_story_61 (lv_at hl 4 rfl) ?_
            refine lv_iadd hx hb dX6_story_63 ?_
            obtain ⟨g64, hv, hf⟩ := ob_bind hf
            refine kg_iald hx hb hK hP 7 0 rfl rfl hv dX6_story_64 ?_
            refine lv_iconst (v := (-1)) hx hb dX6_story_65 (by decide) ?_
            refine kg_icmp_eq (tgt := 86) hx hb hf dX6_story_66 (by decide) (fun hc hf => ?_) (fun hc hf => ?_)
            · obtain ⟨qq, hf, hqq⟩ := omap_some hf
              have hkq : qq = r0 := by rw [← hqq] at hk1; exact hk1
              rw [hkq] at hf
              clear hkq hqq
              refine lv_iload_n hx hb dX6_story_86 rfl (lv_at hl 2 rfl) ?_
              by_cases hc0 : v3 = 0
              · rw [if_pos hc0] at hf
                refine lv_tableIn (tgt := 116) (off := 29) hx hb dX6_story_87 (by rw [hc0]; decide) (by rw [hc0]; decide) (by rw [hc0]; rfl) (by decide) ?_
                refine lv_aload_n hx hb dX6_story_116 rfl (lv_at hl 0 rfl) ?_
                refine va_get (D := (dC, dI)) (ci := 6) (v := .ref (A 6)) (C := RX6) (T := TX6) (N := 30) hx hb hts hiX6 hown hK hP 0 rfl rfl 10 (by decide) ww2 (fun _ h9 => h9) rfl dX6_story_117 ?_
                refine lv_iload hx hb dX6_story_120 (lv_at hl 3 rfl) ?_
                obtain ⟨g122, hv, hf⟩ := ob_bind hf
                refine kg_iald hx hb hK hP 6 0 rfl rfl hv dX6_story_122 ?_
                refine lv_iconst (v := (-1)) hx hb dX6_story_123 (by decide) ?_
                refine kg_icmp_ne (tgt := 131) hx hb hf dX6_story_124 (by decide) (fun hc hf => ?_) (fun hc hf => ?_)
                · refine lv_iconst (v := 0) hx hb dX6_story_131 (by decide) ?_
                  obtain rfl := Option.some.inj hf
                  exact kg_iretW hx hb hr hlk rfl hP hD hS dX6_story_132
                · refine lv_iconst (v := 1) hx hb dX6_story_127 (by decide) ?_
                  refine lv_goto (tgt := 132) hx hb dX6_story_128 (by decide) ?_
                  obtain rfl := Option.some.inj hf
                  exact kg_iretW hx hb hr hlk rfl hP hD hS dX6_story_132
              · rw [if_neg hc0] at hf
                by_cases hc1 : v3 = 1
                · rw [if_pos hc1] at hf
                  refine lv_tableIn (tgt := 133) (off := 46) hx hb dX6_story_87 (by rw [hc1]; decide) (by rw [hc1]; decide) (by rw [hc1]; rfl) (by decide) ?_
                  refine lv_aload_n hx hb dX6_story_133 rfl (lv_at hl 0 rfl) ?_
                  refine va_get (D := (dC, dI)) (ci := 6) (v := .ref (A 6)) (C := RX6) (T := TX6) (N := 30) hx hb hts hiX6 hown hK hP 0 rfl rfl 10 (by decide) ww2 (fun _ h9 => h9) rfl dX6_story_134 ?_
                  refine lv_iload hx hb dX6_story_137 (lv_at hl 3 rfl) ?_
                  obtain ⟨g139, hv, hf⟩ := ob_bind hf
                  refine kg_iald hx hb hK hP 6 0 rfl rfl hv dX6_story_139 ?_
                  obtain rfl := Option.some.inj hf
                  exact kg_iretW hx hb hr hlk rfl hP hD hS dX6_story_140
                · rw [if_neg hc1] at hf
                  by_cases hc2 : v3 = 2
                  · rw [if_pos hc2] at hf
                    refine lv_tableIn (tgt := 141) (off := 54) hx hb dX6_story_87 (by rw [hc2]; decide) (by rw [hc2]; decide) (by rw [hc2]; rfl) (by decide) ?_
                    refine lv_aload_n hx hb dX6_story_141 rfl (lv_at hl 0 rfl) ?_
                    refine va_get (D := (dC, dI)) (ci := 6) (v := .ref (A 7)) (C := RX6) (T := TX6) (N := 30) hx hb hts hiX6 hown hK hP 0 rfl rfl 11 (by decide) ww1 (fun _ h9 => h9) rfl dX6_story_142 ?_
                    refine lv_iload hx hb dX6_story_145 (lv_at hl 3 rfl) ?_
                    obtain ⟨g147, hv, hf⟩ := ob_bind hf
                    refine kg_iald hx hb hK hP 7 0 rfl rfl hv dX6_story_147 ?_
                    obtain rfl := Option.some.inj hf
                    exact kg_iretW hx hb hr hlk rfl hP hD hS dX6_story_148
                  · rw [if_neg hc2] at hf
                    by_cases hc3 : v3 = 3
                    · rw [if_pos hc3] at hf
                      refine lv_tableIn (tgt := 149) (off := 62) hx hb dX6_story_87 (by rw [hc3]; decide) (by rw [hc3]; decide) (by rw [hc3]; rfl) (by decide) ?_
                      refine lv_aload_n hx hb dX6_story_149 rfl (lv_at hl 0 rfl) ?_
                      refine va_get (D := (dC, dI)) (ci := 6) (v := .ref (A 8)) (C := RX6) (T := TX6) (N := 30) hx hb hts hiX6 hown hK hP 0 rfl rfl 12 (by decide) ww3 (fun _ h9 => h9) rfl dX6_story_150 ?_
                      refine lv_iload hx hb dX6_story_153 (lv_at hl 3 rfl) ?_
                      obtain ⟨g155, hv, hf⟩ := ob_bind hf
                      refine kg_iald hx hb hK hP 8 0 rfl rfl hv dX6_story_155 ?_
                      obtain rfl := Option.some.inj hf
                      exact kg_iretW hx hb hr hlk rfl hP hD hS dX6_story_156
                    · rw [if_neg hc3] at hf
                      have ehc0 := ne_toInt hc0 (k := 0) (by decide)
                      have ehc1 := ne_toInt hc1 (k := 1) (by decide)
                      have ehc2 := ne_toInt hc2 (k := 2) (by decide)
                      have ehc3 := ne_toInt hc3 (k := 3) (by decide)
                      refine lv_tableOut (tgt := 157) hx hb dX6_story_87 (by omega) (by decide) ?_
                      refine lv_iload_n hx hb dX6_story_157 rfl (lv_at hl 2 rfl) ?_
                      refine lv_iconst (v := 4) hx hb dX6_story_158 (by decide) ?_
                      refine kg_icmp_ne (tgt := 167) hx hb hf dX6_story_159 (by decide) (fun hc hf => ?_) (fun hc hf => ?_)
                      · refine lv_iconst (v := (-1)) hx hb dX6_story_167 (by decide) ?_
                        obtain rfl := Option.some.inj hf
                        exact kg_iretW hx hb hr hlk rfl hP hD hS dX6_story_168
                      · refine lv_iload hx hb dX6_story_162 (lv_at hl 4 rfl) ?_
                        refine lv_goto (tgt := 168) hx hb dX6_story_164 (by decide) ?_
                        obtain rfl := Option.some.inj hf
                        exact kg_iretW hx hb hr hlk rfl hP hD hS dX6_story_168
            · refine lv_aload_n hx hb dX6_story_69 rfl (lv_at hl 0 rfl) ?_
              refine va_get (D := (dC, dI)) (ci := 6) (v := .ref (A 7)) (C := RX6) (T := TX6) (N := 30) hx hb hts hiX6 hown hK hP 0 rfl rfl 11 (by decide) ww1 (fun _ h9 => h9) rfl dX6_story_70 ?_
              refine lv_bipush (v := 32) hx hb dX6_story_73 (by decide) ?_
              refine lv_iload_n hx hb dX6_story_75 rfl (lv_at hl 1 rfl) ?_
              refine lv_imul hx hb dX6_story_76 ?_
              refine lv_iload hx hb dX6_story_77 (lv_at hl 4 rfl) ?_
              refine lv_iadd hx hb dX6_story_79 ?_
              obtain ⟨g80, hv, hf⟩ := ob_bind hf
              refine kg_iald hx hb hK hP 7 0 rfl rfl hv dX6_story_80 ?_
              refine lv_istore (lv' := [(5, .int g80), (0, .ref (A 0)), (1, .int v1), (3, .int v3), (4, .int v4)]) hx hb dX6_story_81 hl (by decide) rfl (fun ls hl => ?_)
              refine lv_goto (tgt := 53) hx hb dX6_story_83 (by decide) ?_
              obtain rfl := Option.some.inj hf
              exact ih1 g80 hk1 _ _ _ hP hD hS (lv_sub hl [1, 2, 3, 4, 0] rfl)
        exact hlp53 g39 ((32 * v1) + v2) FU v2 hf _ _ _ hP hD hS (lv_sub hl [2, 3, 5, 1, 0] rfl)
      · refine lv_iconst (v := (-1)) hx hb dX6_story_36 (by decide) ?_
        obtain rfl := Option.some.inj hf
        exact kg_iretW hx hb hr hlk rfl hP hD hS dX6_story_37
  · refine lv_aload_n hx hb dX6_story_10 rfl (lv_at hl 0 rfl) ?_
    refine lv_iload_n hx hb dX6_story_11 rfl (lv_at hl 2 rfl) ?_
    refine lv_iload_n hx hb dX6_story_12 rfl (lv_at hl 3 rfl) ?_
    obtain ⟨g13, hc, hf⟩ := ob_bind hf
    have hPx := kg_eqP (kg_slf _) hP
    have hDx := kg_eqD (kg_slf _) hD
    refine kg_retWi (pre := ([] : va_W)) (wc := wMd cI cJ A (Md_set_told x 0)) (post := ([] : va_W)) (w1 := wMd cI cJ A g13.2) (wz := (wMd cI cJ A g13.2)) (kg_slf _).symm hPx hDx hS hA (va_runV (As := [.int v2, .int v3]) (rest := []) ⟨hx, hb, hml, hown, hts⟩ (c_X6_storyOfPart l dC dI cI cJ A H.size (Md_set_told x 0) v2 v3 _ hc) (cwV 2 hts (gw_V wd_32_2 wd_31_23 wd_32_0 wd_32_1 wd_1_5) rfl rfl rfl qX6_storyOfPart ⟨Nat.le_of_ble_eq_true rfl, Nat.le_of_ble_eq_true rfl⟩) (kg_preVW (ci := 6) (q := (RX6, TX6, 30)) (q0 := 0) (kg_cutP hPx) (kg_cutD hDx) hK hN rfl rfl) rfl rfl hl.1 rfl (lv_room (Nat.le_of_ble_eq_true rfl)) dX6_story_13 ⟨Nat.zero_le _, Nat.zero_le _⟩) (fun H locs hP hD hS => ?_)
    obtain rfl := Option.some.inj hf
    exact kg_iretW hx hb hr hlk rfl hP hD hS dX6_story_16
set_option maxHeartbeats 4000000 in
set_option maxRecDepth 100000 in
theorem c_X6_latest (l : Launch) (dC : Nat → ClassId) (dI : Nat → Nat → Nat) (cI cJ : ClassId) (A : Nat → Nat) (hq : Nat) (x : MdS) (v1 : Int32) (r0 : (Int32 × MdS)) (hf : Md_m_latest x v1 = some r0) : MWi l yX6_latest (wAll yX6_latest cX6_latest 2 (some .int)) ({ frames := 7, cells := 0, slots := 0, locals := 183 } : Room) [.ref (A 0), .int v1] hq (dC, dI) (vTy cI cJ) (wMd cI cJ A x) (wMd cI cJ A r0.2) r0.1 := by
  refine kg_metW (Qc := fun Q => QWi (dC, dI) Q (wMd cI cJ A r0.2) r0.1) (cc := cX6_latest) (maxL := 2) (ret := (some .int)) (by decide) rfl (Nat.le_of_ble_eq_true rfl) ?_
  intro p e s m args below meth c Q hx hb hr hts hown hlk hml hP hK hN hD hA hS ls hl
  have hl : lv_has ls 2 [(0, .ref (A 0)), (1, .int v1)] := hl
  have ww0 := hts (.fieldLink RX6 71 "SafeBlocksModel" "told" "I") (List.mem_cons_of_mem _ wd_9_3)
  have ww1 := hts (.fieldLink RX6 78 "SafeBlocksModel" "m" "I") (List.mem_cons_of_mem _ wd_9_6)
  have ww2 := hts (.fieldLink RX6 20 "SafeBlocksModel" "run" "I") (List.mem_cons_of_mem _ wd_8_2)
  have ww3 := hts (.fieldLink RX6 118 "SafeBlocksModel" "secondName" "I") (List.mem_cons_of_mem _ wd_13_9)
  have ww4 := hts (.fieldLink RX6 115 "SafeBlocksModel" "firstName" "I") (List.mem_cons_of_mem _ wd_13_8)
  have ww5 := hts (.fieldLink RX6 112 "SafeBlocksModel" "became" "I") (List.mem_cons_of_mem _ wd_13_7)
  have ww6 := hts (.fieldLink RX6 102 "SafeBlocksModel" "turned" "I") (List.mem_cons_of_mem _ wd_13_6)
  have hiX6 : ∀ w ∈ u_ws RX6 TX6 30, w ∈ wAll yX6_latest cX6_latest 2 (some .int) := fun w h => List.mem_cons_of_mem _ (inlX6 w h)
  suffices hgo : ∀ (H : Heap) (locs : List Loc), va_P (dC, dI) vwCl (wMd cI cJ A x) H → va_S Q s.heap H locs → W p l e ({ frames := 7, cells := 0, slots := 0, locals := 183 } : Room) s m args below meth c H locs 0 0 (MQ below (QWi (dC, dI) Q (wMd cI cJ A r0.2) r0.1) args s 0 0 Q) (F0 m 0 ls []) from hgo _ _ hP hS
  clear hP hS
  intro H locs hP hS
  unfold Md_m_latest at hf
  refine lv_aload_n hx hb dX6_latest_0 rfl (lv_at hl 0 rfl) ?_
  refine lv_iconst (v := 0) hx hb dX6_latest_1 (by decide) ?_
  refine kg_put (ci := 6) (v := .int 0) (ty := .int) (C := RX6) (T := TX6) (N := 30) (wz := (wMd cI cJ A (Md_set_told x 0))) hx hb hts hiX6 tyX6 tyX6_ok nmX6 hown hK hP hD hS 0 rfl rfl 0 (by decide) ww0 (fun _ h9 => h9) rfl (tyX6_ok 0 (by decide)) rfl rfl (Nat.le_of_ble_eq_true rfl) dX6_latest_2 (sc_Md_told _ _ _ _ _) (fun H locs hP hD hS => ?_)
  refine lv_aload_n hx hb dX6_latest_5 rfl (lv_at hl 0 rfl) ?_
  refine va_get (D := (dC, dI)) (ci := 6) (v := .int (Md_m (Md_set_told x 0))) (C := RX6) (T := TX6) (N := 30) hx hb hts hiX6 hown hK hP 0 rfl rfl 2 (by decide) ww1 (fun _ h9 => h9) rfl dX6_latest_6 ?_
  refine kg_if_ne (tgt := 14) hx hb hf dX6_latest_9 (by decide) (fun hc hf => ?_) (fun hc hf => ?_)
  · refine lv_aload_n hx hb dX6_latest_14 rfl (lv_at hl 0 rfl) ?_
    refine lv_iconst (v := (-1)) hx hb dX6_latest_15 (by decide) ?_
    refine kg_put (ci := 6) (v := .int (-1)) (ty := .int) (C := RX6) (T := TX6) (N := 30) (wz := (wMd cI cJ A (Md_set_run (Md_set_told x 0) (-1)))) hx hb hts hiX6 tyX6 tyX6_ok nmX6 hown hK hP hD hS 0 rfl rfl 6 (by decide) ww2 (fun _ h9 => h9) rfl (tyX6_ok 6 (by decide)) rfl rfl (Nat.le_of_ble_eq_true rfl) dX6_latest_16 (sc_Md_run _ _ _ _ _) (fun H locs hP hD hS => ?_)
    refine lv_aload_n hx hb dX6_latest_19 rfl (lv_at hl 0 rfl) ?_
    obtain ⟨g20, hc, hf⟩ := ob_bind hf
    have hPx := kg_eqP (kg_slf _) hP
    have hDx := kg_eqD (kg_slf _) hD
    refine kg_retWv (pre := ([] : va_W)) (wc := wMd cI cJ A (Md_set_run (Md_set_told x 0) (-1))) (post := ([] : va_W)) (w1 := wMd cI cJ A g20) (wz := (wMd cI cJ A g20)) (kg_slf _).symm hPx hDx hS hA (va_runV (As := []) (rest := []) ⟨hx, hb, hml, hown, hts⟩ (c_X6_runsAll l dC dI cI cJ A H.size (Md_set_run (Md_set_told x 0) (-1)) _ hc) (cwV 0 hts (gw_V wd_12_17 wd_12_14 wd_12_15 wd_12_16 wd_1_5) rfl rfl rfl qX6_runsAll ⟨Nat.le_of_ble_eq_true rfl, Nat.le_of_ble_eq_true rfl⟩) (kg_preVW (ci := 6) (q := (RX6, TX6, 30)) (q0 := 0) (kg_cutP hPx) (kg_cutD hDx) hK hN rfl rfl) rfl rfl hl.1 rfl (lv_room (Nat.le_of_ble_eq_true rfl)) dX6_latest_20 ⟨Nat.zero_le _, Nat.zero_le _⟩) (fun H locs hP hD hS => ?_)
    refine lv_iload_n hx hb dX6_latest_23 rfl (lv_at hl 1 rfl) ?_
    refine kg_if_ne (tgt := 34) hx hb hf dX6_latest_24 (by decide) (fun hc hf => ?_) (fun hc hf => ?_)
    · refine lv_iload_n hx hb dX6_latest_34 rfl (lv_at hl 1 rfl) ?_
      refine lv_iconst (v := 1) hx hb dX6_latest_35 (by decide) ?_
      refine kg_icmp_ne (tgt := 46) hx hb hf dX6_latest_36 (by decide) (fun hc hf => ?_) (fun hc hf => ?_)
      · refine lv_iload_n hx hb dX6_latest_46 rfl (lv_at hl 1 rfl) ?_
        refine lv_iconst (v := 2) hx hb dX6_latest_47 (by decide) ?_
        refine kg_icmp_ne (tgt := 58) hx hb hf dX6_latest_48 (by decide) (fun hc hf => ?_) (fun hc hf => ?_)
        · refine lv_iload_n hx hb dX6_latest_58 rfl (lv_at hl 1 rfl) ?_
          refine lv_iconst (v := 3) hx hb dX6_latest_59 (by decide) ?_
          refine kg_icmp_ne (tgt := 70) hx hb hf dX6_latest_60 (by decide) (fun hc hf => ?_) (fun hc hf => ?_)
          · refine lv_iconst (v := (-1)) hx hb dX6_latest_70 (by decide) ?_
            obtain rfl := Option.some.inj hf
            exact kg_iretW hx hb hr hlk rfl hP hD hS dX6_latest_71
          · refine lv_aload_n hx hb dX6_latest_63 rfl (lv_at hl 0 rfl) ?_
            refine va_get (D := (dC, dI)) (ci := 6) (v := .int (Md_secondName g20)) (C := RX6) (T := TX6) (N := 30) hx hb hts hiX6 hown hK hP 0 rfl rfl 17 (by decide) ww3 (fun _ h9 => h9) rfl dX6_latest_64 ?_
            refine lv_goto (tgt := 71) hx hb dX6_latest_67 (by decide) ?_
            obtain rfl := Option.some.inj hf
            exact kg_iretW hx hb hr hlk rfl hP hD hS dX6_latest_71
        · refine lv_aload_n hx hb dX6_latest_51 rfl (lv_at hl 0 rfl) ?_
          refine va_get (D := (dC, dI)) (ci := 6) (v := .int (Md_firstName g20)) (C := RX6) (T := TX6) (N := 30) hx hb hts hiX6 hown hK hP 0 rfl rfl 16 (by decide) ww4 (fun _ h9 => h9) rfl dX6_latest_52 ?_
          refine lv_goto (tgt := 71) hx hb dX6_latest_55 (by decide) ?_
          obtain rfl := Option.some.inj hf
          exact kg_iretW hx hb hr hlk rfl hP hD hS dX6_latest_71
      · refine lv_aload_n hx hb dX6_latest_39 rfl (lv_at hl 0 rfl) ?_
        refine va_get (D := (dC, dI)) (ci := 6) (v := .int (Md_became g20)) (C := RX6) (T := TX6) (N := 30) hx hb hts hiX6 hown hK hP 0 rfl rfl 15 (by decide) ww5 (fun _ h9 => h9) rfl dX6_latest_40 ?_
        refine lv_goto (tgt := 71) hx hb dX6_latest_43 (by decide) ?_
        obtain rfl := Option.some.inj hf
        exact kg_iretW hx hb hr hlk rfl hP hD hS dX6_latest_71
    · refine lv_aload_n hx hb dX6_latest_27 rfl (lv_at hl 0 rfl) ?_
      refine va_get (D := (dC, dI)) (ci := 6) (v := .int (Md_turned g20)) (C := RX6) (T := TX6) (N := 30) hx hb hts hiX6 hown hK hP 0 rfl rfl 14 (by decide) ww6 (fun _ h9 => h9) rfl dX6_latest_28 ?_
      refine lv_goto (tgt := 71) hx hb dX6_latest_31 (by decide) ?_
      obtain rfl := Option.some.inj hf
      exact kg_iretW hx hb hr hlk rfl hP hD hS dX6_latest_71
  · refine lv_iconst (v := (-1)) hx hb dX6_latest_12 (by decide) ?_
    obtain rfl := Option.some.inj hf
    exact kg_iretW hx hb hr hlk rfl hP hD hS dX6_latest_13
set_option maxHeartbeats 4000000 in
set_option maxRecDepth 100000 in
theorem c_X6_doubleSafe (l : Launch) (dC : Nat → ClassId) (dI : Nat → Nat → Nat) (cI cJ : ClassId) (A : Nat → Nat) (hq : Nat) (x : MdS) (v1 : Int32) (v2 : Int32) (r0 : (Int32 × MdS)) (hf : Md_m_doubleSafe x v1 v2 = some r0) : MWi l yX6_doubleSafe (wAll yX6_doubleSafe cX6_doubleSafe 3 (some .int)) ({ frames := 7, cells := 0, slots := 0, locals := 183 } : Room) [.ref (A 0), .int v1, .int v2] hq (dC, dI) (vTy cI cJ) (wMd cI cJ A x) (wMd cI cJ A r0.2) r0.1 := by
  refine kg_metW (Qc := fun Q => QWi (dC, dI) Q (wMd cI cJ A r0.2) r0.1) (cc := cX6_doubleSafe) (maxL := 3) (ret := (some .int)) (by decide) rfl (Nat.le_of_ble_eq_true rfl) ?_
  intro p e s m args below meth c Q hx hb hr hts hown hlk hml hP hK hN hD hA hS ls hl
  have hl : lv_has ls 3 [(0, .ref (A 0)), (1, .int v1), (2, .int v2)] := hl
  have ww0 := hts (.fieldLink RX6 71 "SafeBlocksModel" "told" "I") (List.mem_cons_of_mem _ wd_9_3)
  have hiX6 : ∀ w ∈ u_ws RX6 TX6 30, w ∈ wAll yX6_doubleSafe cX6_doubleSafe 3 (some .int) := fun w h => List.mem_cons_of_mem _ (inlX6 w h)
  suffices hgo : ∀ (H : Heap) (locs : List Loc), va_P (dC, dI) vwCl (wMd cI cJ A x) H → va_S Q s.heap H locs → W p l e ({ frames := 7, cells := 0, slots := 0, locals := 183 } : Room) s m args below meth c H locs 0 0 (MQ below (QWi (dC, dI) Q (wMd cI cJ A r0.2) r0.1) args s 0 0 Q) (F0 m 0 ls []) from hgo _ _ hP hS
  clear hP hS
  intro H locs hP hS
  unfold Md_m_doubleSafe at hf
  refine lv_aload_n hx hb dX6_doubleSafe_0 rfl (lv_at hl 0 rfl) ?_
  refine lv_iconst (v := 0) hx hb dX6_doubleSafe_1 (by decide) ?_
  refine kg_put (ci := 6) (v := .int 0) (ty := .int) (C := RX6) (T := TX6) (N := 30) (wz := (wMd cI cJ A (Md_set_told x 0))) hx hb hts hiX6 tyX6 tyX6_ok nmX6 hown hK hP hD hS 0 rfl rfl 0 (by decide) ww0 (fun _ h9 => h9) rfl (tyX6_ok 0 (by decide)) rfl rfl (Nat.le_of_ble_eq_true rfl) dX6_doubleSafe_2 (sc_Md_told _ _ _ _ _) (fun H locs hP hD hS => ?_)
  refine lv_aload_n hx hb dX6_doubleSafe_5 rfl (lv_at hl 0 rfl) ?_
  refine lv_iload_n hx hb dX6_doubleSafe_6 rfl (lv_at hl 1 rfl) ?_
  refine lv_iload_n hx hb dX6_doubleSafe_7 rfl (lv_at hl 2 rfl) ?_
  obtain ⟨g8, hc, hf⟩ := ob_bind hf
  have hPc : va_P (dC, dI) vwCl (wMd cI cJ A (Md_set_told x 0)) H := hP
  refine kg_retRi (va_runV (As := [.int v1, .int v2]) (rest := []) ⟨hx, hb, hml, hown, hts⟩ (c_X6_areTwo l dC dI cI cJ A H (Md_set_told x 0) v1 v2 _ hc) (cwV 2 hts (gw_V wd_12_9 wd_12_6 wd_12_7 wd_12_8 wd_1_5) rfl rfl rfl qX6_areTwo ⟨Nat.le_of_ble_eq_true rfl, Nat.le_of_ble_eq_true rfl⟩) (kg_preVR (ci := 6) (q := (RX6, TX6, 30)) (q0 := 0) hPc hK hN rfl rfl) rfl rfl hl.1 rfl (lv_room (Nat.le_of_ble_eq_true rfl)) dX6_doubleSafe_8 ⟨Nat.zero_le _, Nat.zero_le _⟩) ?_
  refine kg_b_ne (tgt := 16) hx hb hf dX6_doubleSafe_11 (by decide) (fun hc hf => ?_) (fun hc hf => ?_)
  · refine lv_aload_n hx hb dX6_doubleSafe_16 rfl (lv_at hl 0 rfl) ?_
    obtain ⟨g17, hc, hf⟩ := ob_bind hf
    have hPx := kg_eqP (kg_slf _) hP
    have hDx := kg_eqD (kg_slf _) hD
    refine kg_retWv (pre := ([] : va_W)) (wc := wMd cI cJ A (Md_set_told x 0)) (post := ([] : va_W)) (w1 := wMd cI cJ A g17) (wz := (wMd cI cJ A g17)) (kg_slf _).symm hPx hDx hS hA (va_runV (As := []) (rest := []) ⟨hx, hb, hml, hown, hts⟩ (c_X6_runsAll l dC dI cI cJ A H.size (Md_set_told x 0) _ hc) (cwV 0 hts (gw_V wd_12_17 wd_12_14 wd_12_15 wd_12_16 wd_1_5) rfl rfl rfl qX6_runsAll ⟨Nat.le_of_ble_eq_true rfl, Nat.le_of_ble_eq_true rfl⟩) (kg_preVW (ci := 6) (q := (RX6, TX6, 30)) (q0 := 0) (kg_cutP hPx) (kg_cutD hDx) hK hN rfl rfl) rfl rfl hl.1 rfl (lv_room (Nat.le_of_ble_eq_true rfl)) dX6_doubleSafe_17 ⟨Nat.zero_le _, Nat.zero_le _⟩) (fun H locs hP hD hS => ?_)
    refine lv_aload_n hx hb dX6_doubleSafe_20 rfl (lv_at hl 0 rfl) ?_
    obtain ⟨g21, hc, hf⟩ := ob_bind hf
    have hPx := kg_eqP (kg_slf _) hP
    have hDx := kg_eqD (kg_slf _) hD
    refine kg_retWv (pre := ([] : va_W)) (wc := wMd cI cJ A g17) (post := ([] : va_W)) (w1 := wMd cI cJ A g21) (wz := (wMd cI cJ A g21)) (kg_slf _).symm hPx hDx hS hA (va_runV (As := []) (rest := []) ⟨hx, hb, hml, hown, hts⟩ (c_X6_laysAllParts l dC dI cI cJ A H.size g17 _ hc) (cwV 0 hts (gw_V wd_19_1 wd_18_22 wd_18_23 wd_19_0 wd_1_5) rfl rfl rfl qX6_laysAllParts ⟨Nat.le_of_ble_eq_true rfl, Nat.le_of_ble_eq_true rfl⟩) (kg_preVW (ci := 6) (q := (RX6, TX6, 30)) (q0 := 0) (kg_cutP hPx) (kg_cutD hDx) hK hN rfl rfl) rfl rfl hl.1 rfl (lv_room (Nat.le_of_ble_eq_true rfl)) dX6_doubleSafe_21 ⟨Nat.zero_le _, Nat.zero_le _⟩) (fun H locs hP hD hS => ?_)
    refine lv_aload_n hx hb dX6_doubleSafe_24 rfl (lv_at hl 0 rfl) ?_
    refine lv_iload_n hx hb dX6_doubleSafe_25 rfl (lv_at hl 1 rfl) ?_
    refine lv_iload_n hx hb dX6_doubleSafe_26 rfl (lv_at hl 2 rfl) ?_
    obtain ⟨g27, hc, hf⟩ := ob_bind hf
    have hPc : va_P (dC, dI) vwCl (wMd cI cJ A g21) H := hP
    refine kg_retRi (va_runV (As := [.int v1, .int v2]) (rest := []) ⟨hx, hb, hml, hown, hts⟩ (c_X6_areSafe l dC dI cI cJ A H g21 v1 v2 _ hc) (cwV 2 hts (gw_V wd_33_6 wd_33_3 wd_33_4 wd_33_5 wd_1_5) rfl rfl rfl qX6_areSafe ⟨Nat.le_of_ble_eq_true rfl, Nat.le_of_ble_eq_true rfl⟩) (kg_preVR (ci := 6) (q := (RX6, TX6, 30)) (q0 := 0) hPc hK hN rfl rfl) rfl rfl hl.1 rfl (lv_room (Nat.le_of_ble_eq_true rfl)) dX6_doubleSafe_27 ⟨Nat.zero_le _, Nat.zero_le _⟩) ?_
    refine kg_b_eq (tgt := 37) hx hb hf dX6_doubleSafe_30 (by decide) (fun hc hf => ?_) (fun hc hf => ?_)
    · refine lv_iconst (v := 0) hx hb dX6_doubleSafe_37 (by decide) ?_
      obtain rfl := Option.some.inj hf
      exact kg_iretW hx hb hr hlk rfl hP hD hS dX6_doubleSafe_38
    · refine lv_iconst (v := 1) hx hb dX6_doubleSafe_33 (by decide) ?_
      refine lv_goto (tgt := 38) hx hb dX6_doubleSafe_34 (by decide) ?_
      obtain rfl := Option.some.inj hf
      exact kg_iretW hx hb hr hlk rfl hP hD hS dX6_doubleSafe_38
  · refine lv_iconst (v := (-1)) hx hb dX6_doubleSafe_14 (by decide) ?_
    obtain rfl := Option.some.inj hf
    exact kg_iretW hx hb hr hlk rfl hP hD hS dX6_doubleSafe_15
set_option maxHeartbeats 4000000 in
set_option maxRecDepth 100000 in
theorem c_X6_laysWay (l : Launch) (dC : Nat → ClassId) (dI : Nat → Nat → Nat) (cI cJ : ClassId) (A : Nat → Nat) (hq : Nat) (x : MdS) (v1 : Int32) (v2 : Int32) (v3 : Int32) (r0 : (Bool × MdS)) (hf : Md_m_laysWay x v1 v2 v3 = some r0) : MWi l yX6_laysWay (wAll yX6_laysWay cX6_laysWay 9 (some .boolean)) ({ frames := 3, cells := 0, slots := 0, locals := 91 } : Room) [.ref (A 0), .int v1, .int v2, .int v3] hq (dC, dI) (vTy cI cJ) (wMd cI cJ A x) (wMd cI cJ A r0.2) (b2i r0.1) := by
  refine kg_metW (Qc := fun Q => QWi (dC, dI) Q (wMd cI cJ A r0.2) (b2i r0.1)) (cc := cX6_laysWay) (maxL := 9) (ret := (some .boolean)) (by decide) rfl (Nat.le_of_ble_eq_true rfl) ?_
  intro p e s m args below meth c Q hx hb hr hts hown hlk hml hP hK hN hD hA hS ls hl
  have hl : lv_has ls 9 [(0, .ref (A 0)), (1, .int v1), (2, .int v2), (3, .int v3)] := hl
  have ww0 := hts (.fieldLink RX6 311 "SafeBlocksModel" "wayLong" "I") (List.mem_cons_of_mem _ wd_33_21)
  have ww1 := hts (.fieldLink RX6 65 "SafeBlocksModel" "wayNode" "[I") (List.mem_cons_of_mem _ wd_8_17)
  have ww2 := hts (.fieldLink RX6 78 "SafeBlocksModel" "m" "I") (List.mem_cons_of_mem _ wd_9_6)
  have ww3 := hts (.fieldLink RX6 68 "SafeBlocksModel" "wayLink" "[I") (List.mem_cons_of_mem _ wd_8_18)
  have ww4 := hts (.fieldLink RX6 13 "SafeBlocksModel" "first" "[I") (List.mem_cons_of_mem _ wd_8_0)
  have ww5 := hts (.fieldLink RX6 17 "SafeBlocksModel" "second" "[I") (List.mem_cons_of_mem _ wd_8_1)
  have hiX6 : ∀ w ∈ u_ws RX6 TX6 30, w ∈ wAll yX6_laysWay cX6_laysWay 9 (some .boolean) := fun w h => List.mem_cons_of_mem _ (inlX6 w h)
  suffices hgo : ∀ (H : Heap) (locs : List Loc), va_P (dC, dI) vwCl (wMd cI cJ A x) H → va_S Q s.heap H locs → W p l e ({ frames := 3, cells := 0, slots := 0, locals := 91 } : Room) s m args below meth c H locs 0 0 (MQ below (QWi (dC, dI) Q (wMd cI cJ A r0.2) (b2i r0.1)) args s 0 0 Q) (F0 m 0 ls []) from hgo _ _ hP hS
  clear hP hS
  intro H locs hP hS
  unfold Md_m_laysWay at hf
  refine lv_aload_n hx hb dX6_laysWay_0 rfl (lv_at hl 0 rfl) ?_
  refine lv_iconst (v := 0) hx hb dX6_laysWay_1 (by decide) ?_
  refine kg_put (ci := 6) (v := .int 0) (ty := .int) (C := RX6) (T := TX6) (N := 30) (wz := (wMd cI cJ A (Md_set_wayLong x 0))) hx hb hts hiX6 tyX6 tyX6_ok nmX6 hown hK hP hD hS 0 rfl rfl 29 (by decide) ww0 (fun _ h9 => h9) rfl (tyX6_ok 29 (by decide)) rfl rfl (Nat.le_of_ble_eq_true rfl) dX6_laysWay_2 (sc_Md_wayLong _ _ _ _ _) (fun H locs hP hD hS => ?_)
  refine lv_aload_n hx hb dX6_laysWay_5 rfl (lv_at hl 0 rfl) ?_
  refine va_get (D := (dC, dI)) (ci := 6) (v := .ref (A 16)) (C := RX6) (T := TX6) (N := 30) hx hb hts hiX6 hown hK hP 0 rfl rfl 27 (by decide) ww1 (fun _ h9 => h9) rfl dX6_laysWay_6 ?_
  refine lv_iconst (v := 0) hx hb dX6_laysWay_9 (by decide) ?_
  refine lv_iload_n hx hb dX6_laysWay_10 rfl (lv_at hl 1 rfl) ?_
  obtain ⟨f11, hv, hf⟩ := ob_bind hf
  refine kg_iast (wz := (wMd cI cJ A (Md_set_wayNode (Md_set_wayLong x 0) f11))) hx hb hK hP hD hS 16 0 rfl rfl hv dX6_laysWay_11 (sc_Md_wayNode _ _ _ _ _) (fun H locs hP hD hS => ?_)
  refine lv_aload_n hx hb dX6_laysWay_12 rfl (lv_at hl 0 rfl) ?_
  refine lv_aload_n hx hb dX6_laysWay_13 rfl (lv_at hl 0 rfl) ?_
  refine lv_iload_n hx hb dX6_laysWay_14 rfl (lv_at hl 1 rfl) ?_
  refine lv_aload_n hx hb dX6_laysWay_15 rfl (lv_at hl 0 rfl) ?_
  refine va_get (D := (dC, dI)) (ci := 6) (v := .int (Md_m (Md_set_wayNode (Md_set_wayLong x 0) f11))) (C := RX6) (T := TX6) (N := 30) hx hb hts hiX6 hown hK hP 0 rfl rfl 2 (by decide) ww2 (fun _ h9 => h9) rfl dX6_laysWay_16 ?_
  refine lv_iload_n hx hb dX6_laysWay_19 rfl (lv_at hl 3 rfl) ?_
  refine lv_iconst (v := (-1)) hx hb dX6_laysWay_20 (by decide) ?_
  obtain ⟨g21, hc, hf⟩ := ob_bind hf
  have hPc : va_P (dC, dI) vwCl (wMd cI cJ A (Md_set_wayNode (Md_set_wayLong x 0) f11)) H := hP
  refine kg_retRi (va_runV (As := [.int v1, .int (Md_m (Md_set_wayNode (Md_set_wayLong x 0) f11)), .int v3, .int (-1)]) (rest := [.ref (A 0)]) ⟨hx, hb, hml, hown, hts⟩ (c_X6_reached l dC dI cI cJ A H (Md_set_wayNode (Md_set_wayLong x 0) f11) v1 (Md_m (Md_set_wayNode (Md_set_wayLong x 0) f11)) v3 (-1) _ hc) (cwV 4 hts (gw_V wd_20_13 wd_20_10 wd_20_11 wd_20_12 wd_1_5) rfl rfl rfl qX6_reached ⟨Nat.le_of_ble_eq_true rfl, Nat.le_of_ble_eq_true rfl⟩) (kg_preVR (ci := 6) (q := (RX6, TX6, 30)) (q0 := 0) hPc hK hN rfl rfl) rfl rfl hl.1 rfl (lv_room (Nat.le_of_ble_eq_true rfl)) dX6_laysWay_21 ⟨Nat.zero_le _, Nat.zero_le _⟩) ?_
  refine lv_iload_n hx hb dX6_laysWay_24 rfl (lv_at hl 2 rfl) ?_
  obtain ⟨g25, hc, hf⟩ := ob_bind hf
  have hPc : va_P (dC, dI) vwCl (wMd cI cJ A (Md_set_wayNode (Md_set_wayLong x 0) f11)) H := hP
  refine kg_retRi (va_runV (As := [.int g21, .int v2]) (rest := []) ⟨hx, hb, hml, hown, hts⟩ (c_X6_has l dC dI cI cJ A H (Md_set_wayNode (Md_set_wayLong x 0) f11) g21 v2 _ hc) (cwV 2 hts (gw_V wd_14_13 wd_14_10 wd_14_11 wd_14_12 wd_1_5) rfl rfl rfl qX6_has ⟨Nat.le_of_ble_eq_true rfl, Nat.le_of_ble_eq_true rfl⟩) (kg_preVR (ci := 6) (q := (RX6, TX6, 30)) (q0 := 0) hPc hK hN rfl rfl) rfl rfl hl.1 rfl (lv_room (Nat.le_of_ble_eq_true rfl)) dX6_laysWay_25 ⟨Nat.zero_le _, Nat.zero_le _⟩) ?_
  refine kg_b_ne (tgt := 33) hx hb hf dX6_laysWay_28 (by decide) (fun hc hf => ?_) (fun hc hf => ?_)
  · refine lv_iload_n hx hb dX6_laysWay_33 rfl (lv_at hl 1 rfl) ?_
    refine lv_istore (lv' := [(4, .int v1), (0, .ref (A 0)), (1, .int v1), (2, .int v2), (3, .int v3)]) hx hb dX6_laysWay_34 hl (by decide) rfl (fun ls hl => ?_)
    have hlp36 : ∀ (n : Nat) (x : MdS) (v4 : Int32), iter (fun p : MdS × Int32 => Md_m_laysWay_s36 v2 v3 p.1 p.2) n (x, v4) = some r0 → ∀ (H : Heap) (locs : List Loc) (ls : Array Slot), va_P (dC, dI) vwCl (wMd cI cJ A x) H → va_D Q (wMd cI cJ A x) → va_S Q s.heap H locs → lv_has ls 9 [(0, .ref (A 0)), (2, .int v2), (3, .int v3), (4, .int v4)] → W p l e ({ frames := 3, cells := 0, slots := 0, locals := 91 } : Room) s m args below meth c H locs 0 0 (MQ below (QWi (dC, dI) Q (wMd cI cJ A r0.2) (b2i r0.1)) args s 0 0 Q) (F0 m 36 ls []) := by
      intro  n
      induction n with
      | zero => intro x v4 hf; exact iter_zero hf
      | succ n ih1 =>
        intro x v4 hf H locs ls hP hD hS hl
        obtain ⟨q1, hf, hk1⟩ := iter_succ hf
        have hf : Md_m_laysWay_s36 v2 v3 x v4 = some q1 := hf
        unfold Md_m_laysWay_s36 at hf
        refine lv_iload hx hb dX6_laysWay_36 (lv_at hl 3 rfl) ?_
        refine lv_iload_n hx hb dX6_laysWay_38 rfl (lv_at hl 1 rfl) ?_
        refine kg_icmp_eq (tgt := 193) hx hb hf dX6_laysWay_39 (by decide) (fun hc hf => ?_) (fun hc hf => ?_)
        · obtain ⟨qq, hf, hqq⟩ := omap_some hf
          have hkq : qq = r0 := by rw [← hqq] at hk1; exact hk1
          rw [hkq] at hf
          clear hkq hqq
          refine lv_iconst (v := 1) hx hb dX6_laysWay_193 (by decide) ?_
          obtain rfl := Option.some.inj hf
          exact kg_zretW (b := true) hx hb hr hlk rfl rfl hP hD hS dX6_laysWay_194
        · refine lv_iconst (v := (-1)) hx hb dX6_laysWay_42 (by decide) ?_
          refine lv_istore (lv' := [(5, .int (-1)), (0, .ref (A 0)), (2, .int v2), (3, .int v3), (4, .int v4)]) hx hb dX6_laysWay_43 hl (by decide) rfl (fun ls hl => ?_)
          refine lv_iconst (v := (-1)) hx hb dX6_laysWay_45 (by decide) ?_
          refine lv_istore (lv' := [(6, .int (-1)), (5, .int (-1)), (0, .ref (A 0)), (2, .int v2), (3, .int v3), (4, .int v4)]) hx hb dX6_laysWay_46 hl (by decide) rfl (fun ls hl => ?_)
          refine lv_iconst (v := 0) hx hb dX6_laysWay_48 (by decide) ?_
          refine lv_istore (lv' := [(7, .int 0), (6, .int (-1)), (5, .int (-1)), (0, .ref (A 0)), (2, .int v2), (3, .int v3), (4, .int v4)]) hx hb dX6_laysWay_49 hl (by decide) rfl (fun ls hl => ?_)
          have hlp51 : ∀ (x : MdS) (v4 : Int32), ∀ (n : Nat) (v5 : Int32) (v6 : Int32) (v7 : Int32), iter (fun p : Int32 × Int32 × Int32 => Md_m_laysWay_s51 x v2 v3 v4 p.1 p.2.1 p.2.2) n (v5, v6, v7) = some q1 → ∀ (H : Heap) (locs : List Loc) (ls : Array Slot), va_P (dC, dI) vwCl (wMd cI cJ A x) H → va_D Q (wMd cI cJ A x) → va_S Q s.heap H locs → lv_has ls 9 [(0, .ref (A 0)), (2, .int v2), (3, .int v3), (4, .int v4), (5, .int v5), (6, .int v6), (7, .int v7)] → W p l e ({ frames := 3, cells := 0, slots := 0, locals := 91 } : Room) s m args below meth c H locs 0 0 (MQ below (QWi (dC, dI) Q (wMd cI cJ A r0.2) (b2i r0.1)) args s 0 0 Q) (F0 m 51 ls []) := by
            intro x v4 n
            induction n with
            | zero => intro v5 v6 v7 hf; exact iter_zero hf
            | succ n ih2 =>
              intro v5 v6 v7 hf H locs ls hP hD hS hl
              obtain ⟨q2, hf, hk2⟩ := iter_succ hf
              have hf : Md_m_laysWay_s51 x v2 v3 v4 v5 v6 v7 = some q2 := hf
              unfold Md_m_laysWay_s51 at hf
              have hj140 : ∀ (v7 : Int32) (v8 : Int32), Md_m_laysWay_j140 x v2 v3 v4 v7 v8 = some q2 → ∀ (H : Heap) (locs : List Loc) (ls : Array Slot), va_P (dC, dI) vwCl (wMd cI cJ A x) H → va_D Q (wMd cI cJ A x) → va_S Q s.heap H locs → lv_has ls 9 [(0, .ref (A 0)), (2, .int v2), (3, .int v3), (4, .int v4), (7, .int v7), (8, .int v8)] → W p l e ({ frames := 3, cells := 0, slots := 0, locals := 91 } : Room) s m args below meth c H locs 0 0 (MQ below (QWi (dC, dI) Q (wMd cI cJ A r0.2) (b2i r0.1)) args s 0 0 Q) (F0 m 140 ls []) := by
                intro v7 v8 hf H locs ls hP hD hS hl
                unfold Md_m_laysWay_j140 at hf
                refine lv_iload hx hb dX6_laysWay_140 (lv_at hl 5 rfl) ?_
                refine lv_istore (lv' := [(5, .int v8), (0, .ref (A 0)), (2, .int v2), (3, .int v3), (4, .int v4), (7, .int v7), (8, .int v8)]) hx hb dX6_laysWay_142 hl (by decide) rfl (fun ls hl => ?_)
                refine lv_iload hx hb dX6_laysWay_144 (lv_at hl 5 rfl) ?_
                refine lv_istore (lv' := [(6, .int v7), (5, .int v8), (0, .ref (A 0)), (2, .int v2), (3, .int v3), (4, .int v4), (7, .int v7), (8, .int v8)]) hx hb dX6_laysWay_146 hl (by decide) rfl (fun ls hl => ?_)
                refine lv_iinc (v := (v7 + 1)) (lv' := [(7, .int (v7 + 1)), (6, .int v7), (5, .int v8), (0, .ref (A 0)), (2, .int v2), (3, .int v3), (4, .int v4), (8, .int v8)]) hx hb dX6_laysWay_148 hl (k := 6) rfl rfl (by decide) rfl (fun ls hl => ?_)
                refine lv_goto (tgt := 51) hx hb dX6_laysWay_151 (by decide) ?_
                obtain rfl := Option.some.inj hf
                exact ih2 v8 v7 (v7 + 1) hk2 _ _ _ hP hD hS (lv_sub hl [3, 4, 5, 6, 2, 1, 0] rfl)
              have hj93 : ∀ (v5 : Int32) (v6 : Int32) (v7 : Int32), Md_m_laysWay_j93 x v2 v3 v4 v5 v6 v7 = some q2 → ∀ (H : Heap) (locs : List Loc) (ls : Array Slot), va_P (dC, dI) vwCl (wMd cI cJ A x) H → va_D Q (wMd cI cJ A x) → va_S Q s.heap H locs → lv_has ls 9 [(0, .ref (A 0)), (2, .int v2), (3, .int v3), (4, .int v4), (5, .int v5), (6, .int v6), (7, .int v7)] → W p l e ({ frames := 3, cells := 0, slots := 0, locals := 91 } : Room) s m args below meth c H locs 0 0 (MQ below (QWi (dC, dI) Q (wMd cI cJ A r0.2) (b2i r0.1)) args s 0 0 Q) (F0 m 93 ls []) := by
                intro v5 v6 v7 hf H locs ls hP hD hS hl
                unfold Md_m_laysWay_j93 at hf
                refine lv_aload_n hx hb dX6_laysWay_93 rfl (lv_at hl 0 rfl) ?_
                refine lv_iload hx hb dX6_laysWay_94 (lv_at hl 6 rfl) ?_
                refine lv_iload hx hb dX6_laysWay_96 (lv_at hl 3 rfl) ?_
                obtain ⟨g98, hc, hf⟩ := ob_bind hf
                have hPc : va_P (dC, dI) vwCl (wMd cI cJ A x) H := hP
                refine kg_retRi (va_runV (As := [.int v7, .int v4]) (rest := []) ⟨hx, hb, hml, hown, hts⟩ (c_X6_otherEnd l dC dI cI cJ A H x v7 v4 _ hc) (cwV 2 hts (gw_V wd_19_14 wd_19_11 wd_19_12 wd_19_13 wd_1_5) rfl rfl rfl qX6_otherEnd ⟨Nat.le_of_ble_eq_true rfl, Nat.le_of_ble_eq_true rfl⟩) (kg_preVR (ci := 6) (q := (RX6, TX6, 30)) (q0 := 0) hPc hK hN rfl rfl) rfl rfl hl.1 rfl (lv_room (Nat.le_of_ble_eq_true rfl)) dX6_laysWay_98 ⟨Nat.zero_le _, Nat.zero_le _⟩) ?_
                refine lv_istore (lv' := [(8, .int g98), (0, .ref (A 0)), (2, .int v2), (3, .int v3), (4, .int v4), (5, .int v5), (6, .int v6), (7, .int v7)]) hx hb dX6_laysWay_101 hl (by decide) rfl (fun ls hl => ?_)
                refine lv_aload_n hx hb dX6_laysWay_103 rfl (lv_at hl 1 rfl) ?_
                refine lv_iload hx hb dX6_laysWay_104 (lv_at hl 0 rfl) ?_
                refine lv_iload_n hx hb dX6_laysWay_106 rfl (lv_at hl 2 rfl) ?_
                refine lv_iload_n hx hb dX6_laysWay_107 rfl (lv_at hl 3 rfl) ?_
                obtain ⟨g108, hc, hf⟩ := ob_bind hf
                have hPc : va_P (dC, dI) vwCl (wMd cI cJ A x) H := hP
                refine kg_retRi (va_runV (As := [.int g98, .int v2, .int v3]) (rest := []) ⟨hx, hb, hml, hown, hts⟩ (c_X6_steps l dC dI cI cJ A H x g98 v2 v3 _ hc) (cwV 3 hts (gw_V wd_34_5 wd_34_2 wd_34_3 wd_34_4 wd_1_5) rfl rfl rfl qX6_steps ⟨Nat.le_of_ble_eq_true rfl, Nat.le_of_ble_eq_true rfl⟩) (kg_preVR (ci := 6) (q := (RX6, TX6, 30)) (q0 := 0) hPc hK hN rfl rfl) rfl rfl hl.1 rfl (lv_room (Nat.le_of_ble_eq_true rfl)) dX6_laysWay_108 ⟨Nat.zero_le _, Nat.zero_le _⟩) ?_
                refine lv_aload_n hx hb dX6_laysWay_111 rfl (lv_at hl 1 rfl) ?_
                refine lv_iload hx hb dX6_laysWay_112 (lv_at hl 4 rfl) ?_
                refine lv_iload_n hx hb dX6_laysWay_114 rfl (lv_at hl 2 rfl) ?_
                refine lv_iload_n hx hb dX6_laysWay_115 rfl (lv_at hl 3 rfl) ?_
                obtain ⟨g116, hc, hf⟩ := ob_bind hf
                have hPc : va_P (dC, dI) vwCl (wMd cI cJ A x) H := hP
                refine kg_retRi (va_runV (As := [.int v4, .int v2, .int v3]) (rest := [.int g108]) ⟨hx, hb, hml, hown, hts⟩ (c_X6_steps l dC dI cI cJ A H x v4 v2 v3 _ hc) (cwV 3 hts (gw_V wd_34_5 wd_34_2 wd_34_3 wd_34_4 wd_1_5) rfl rfl rfl qX6_steps ⟨Nat.le_of_ble_eq_true rfl, Nat.le_of_ble_eq_true rfl⟩) (kg_preVR (ci := 6) (q := (RX6, TX6, 30)) (q0 := 0) hPc hK hN rfl rfl) rfl rfl hl.1 rfl (lv_room (Nat.le_of_ble_eq_true rfl)) dX6_laysWay_116 ⟨Nat.zero_le _, Nat.zero_le _⟩) ?_
                refine lv_iconst (v := 1) hx hb dX6_laysWay_119 (by decide) ?_
                refine lv_isub hx hb dX6_laysWay_120 ?_
                refine kg_icmp_ne (tgt := 148) hx hb hf dX6_laysWay_121 (by decide) (fun hc hf => ?_) (fun hc hf => ?_)
                · refine lv_iinc (v := (v7 + 1)) (lv' := [(7, .int (v7 + 1)), (8, .int g98), (0, .ref (A 0)), (2, .int v2), (3, .int v3), (4, .int v4), (5, .int v5), (6, .int v6)]) hx hb dX6_laysWay_148 hl (k := 7) rfl rfl (by decide) rfl (fun ls hl => ?_)
                  refine lv_goto (tgt := 51) hx hb dX6_laysWay_151 (by decide) ?_
                  obtain rfl := Option.some.inj hf
                  exact ih2 v5 v6 (v7 + 1) hk2 _ _ _ hP hD hS (lv_sub hl [2, 3, 4, 5, 6, 7, 0] rfl)
                · refine lv_iload hx hb dX6_laysWay_124 (lv_at hl 5 rfl) ?_
                  refine lv_iconst (v := (-1)) hx hb dX6_laysWay_126 (by decide) ?_
                  refine kg_icmp_eq (tgt := 140) hx hb hf dX6_laysWay_127 (by decide) (fun hc hf => ?_) (fun hc hf => ?_)
                  · exact hj140 v7 g98 hf _ _ _ hP hD hS (lv_sub hl [1, 2, 3, 4, 7, 0] rfl)
                  · refine lv_iload hx hb dX6_laysWay_130 (lv_at hl 0 rfl) ?_
                    refine lv_iload hx hb dX6_laysWay_132 (lv_at hl 5 rfl) ?_
                    refine kg_icmp_lt (tgt := 140) hx hb hf dX6_laysWay_134 (by decide) (fun hc hf => ?_) (fun hc hf => ?_)
                    · exact hj140 v7 g98 hf _ _ _ hP hD hS (lv_sub hl [1, 2, 3, 4, 7, 0] rfl)
                    · refine lv_goto (tgt := 148) hx hb dX6_laysWay_137 (by decide) ?_
                      refine lv_iinc (v := (v7 + 1)) (lv' := [(7, .int (v7 + 1)), (8, .int g98), (0, .ref (A 0)), (2, .int v2), (3, .int v3), (4, .int v4), (5, .int v5), (6, .int v6)]) hx hb dX6_laysWay_148 hl (k := 7) rfl rfl (by decide) rfl (fun ls hl => ?_)
                      refine lv_goto (tgt := 51) hx hb dX6_laysWay_151 (by decide) ?_
                      obtain rfl := Option.some.inj hf
                      exact ih2 v5 v6 (v7 + 1) hk2 _ _ _ hP hD hS (lv_sub hl [2, 3, 4, 5, 6, 7, 0] rfl)
              refine lv_iload hx hb dX6_laysWay_51 (lv_at hl 6 rfl) ?_
              refine lv_aload_n hx hb dX6_laysWay_53 rfl (lv_at hl 0 rfl) ?_
              refine va_get (D := (dC, dI)) (ci := 6) (v := .int (Md_m x)) (C := RX6) (T := TX6) (N := 30) hx hb hts hiX6 hown hK hP 0 rfl rfl 2 (by decide) ww2 (fun _ h9 => h9) rfl dX6_laysWay_54 ?_
              refine kg_icmp_ge (tgt := 154) hx hb hf dX6_laysWay_57 (by decide) (fun hc hf => ?_) (fun hc hf => ?_)
              · obtain ⟨qq, hf, hqq⟩ := omap_some hf
                have hkq : qq = q1 := by rw [← hqq] at hk2; exact hk2
                rw [hkq] at hf
                clear hkq hqq
                refine lv_aload_n hx hb dX6_laysWay_154 rfl (lv_at hl 0 rfl) ?_
                refine va_get (D := (dC, dI)) (ci := 6) (v := .ref (A 17)) (C := RX6) (T := TX6) (N := 30) hx hb hts hiX6 hown hK hP 0 rfl rfl 28 (by decide) ww3 (fun _ h9 => h9) rfl dX6_laysWay_155 ?_
                refine lv_aload_n hx hb dX6_laysWay_158 rfl (lv_at hl 0 rfl) ?_
                refine va_get (D := (dC, dI)) (ci := 6) (v := .int (Md_wayLong x)) (C := RX6) (T := TX6) (N := 30) hx hb hts hiX6 hown hK hP 0 rfl rfl 29 (by decide) ww0 (fun _ h9 => h9) rfl dX6_laysWay_159 ?_
                refine lv_iload hx hb dX6_laysWay_162 (lv_at hl 5 rfl) ?_
                obtain ⟨f164, hv, hf⟩ := ob_bind hf
                refine kg_iast (wz := (wMd cI cJ A (Md_set_wayLink x f164))) hx hb hK hP hD hS 17 0 rfl rfl hv dX6_laysWay_164 (sc_Md_wayLink _ _ _ _ _) (fun H locs hP hD hS => ?_)
                refine lv_aload_n hx hb dX6_laysWay_165 rfl (lv_at hl 0 rfl) ?_
                refine lv_aload_n hx hb dX6_laysWay_166 rfl (lv_at hl 0 rfl) ?_
                refine va_get (D := (dC, dI)) (ci := 6) (v := .int (Md_wayLong (Md_set_wayLink x f164))) (C := RX6) (T := TX6) (N := 30) hx hb hts hiX6 hown hK hP 0 rfl rfl 29 (by decide) ww0 (fun _ h9 => h9) rfl dX6_laysWay_167 ?_
                refine lv_iconst (v := 1) hx hb dX6_laysWay_170 (by decide) ?_
                refine lv_iadd hx hb dX6_laysWay_171 ?_
                refine kg_put (ci := 6) (v := .int ((Md_wayLong (Md_set_wayLink x f164)) + 1)) (ty := .int) (C := RX6) (T := TX6) (N := 30) (wz := (wMd cI cJ A (Md_set_wayLong (Md_set_wayLink x f164) ((Md_wayLong (Md_set_wayLink x f164)) + 1)))) hx hb hts hiX6 tyX6 tyX6_ok nmX6 hown hK hP hD hS 0 rfl rfl 29 (by decide) ww0 (fun _ h9 => h9) rfl (tyX6_ok 29 (by decide)) rfl rfl (Nat.le_of_ble_eq_true rfl) dX6_laysWay_172 (sc_Md_wayLong _ _ _ _ _) (fun H locs hP hD hS => ?_)
                refine lv_aload_n hx hb dX6_laysWay_175 rfl (lv_at hl 0 rfl) ?_
                refine va_get (D := (dC, dI)) (ci := 6) (v := .ref (A 16)) (C := RX6) (T := TX6) (N := 30) hx hb hts hiX6 hown hK hP 0 rfl rfl 27 (by decide) ww1 (fun _ h9 => h9) rfl dX6_laysWay_176 ?_
                refine lv_aload_n hx hb dX6_laysWay_179 rfl (lv_at hl 0 rfl) ?_
                refine va_get (D := (dC, dI)) (ci := 6) (v := .int (Md_wayLong (Md_set_wayLong (Md_set_wayLink x f164) ((Md_wayLong (Md_set_wayLink x f164)) + 1)))) (C := RX6) (T := TX6) (N := 30) hx hb hts hiX6 hown hK hP 0 rfl rfl 29 (by decide) ww0 (fun _ h9 => h9) rfl dX6_laysWay_180 ?_
                refine lv_iload hx hb dX6_laysWay_183 (lv_at hl 4 rfl) ?_
                obtain ⟨f185, hv, hf⟩ := ob_bind hf
                refine kg_iast (wz := (wMd cI cJ A (Md_set_wayNode (Md_set_wayLong (Md_set_wayLink x f164) ((Md_wayLong (Md_set_wayLink x f164)) + 1)) f185))) hx hb hK hP hD hS 16 0 rfl rfl hv dX6_laysWay_185 (sc_Md_wayNode _ _ _ _ _) (fun H locs hP hD hS => ?_)
                refine lv_iload hx hb dX6_laysWay_186 (lv_at hl 4 rfl) ?_
                refine lv_istore (lv' := [(4, .int v5), (0, .ref (A 0)), (2, .int v2), (3, .int v3), (5, .int v5), (6, .int v6), (7, .int v7)]) hx hb dX6_laysWay_188 hl (by decide) rfl (fun ls hl => ?_)
                refine lv_goto (tgt := 36) hx hb dX6_laysWay_190 (by decide) ?_
                obtain rfl := Option.some.inj hf
                exact ih1 (Md_set_wayNode (Md_set_wayLong (Md_set_wayLink x f164) ((Md_wayLong (Md_set_wayLink x f164)) + 1)) f185) v5 hk1 _ _ _ hP hD hS (lv_sub hl [1, 2, 3, 0] rfl)
              · refine lv_iload hx hb dX6_laysWay_60 (lv_at hl 6 rfl) ?_
                refine lv_iload_n hx hb dX6_laysWay_62 rfl (lv_at hl 2 rfl) ?_
                refine kg_icmp_eq (tgt := 148) hx hb hf dX6_laysWay_63 (by decide) (fun hc hf => ?_) (fun hc hf => ?_)
                · refine lv_iinc (v := (v7 + 1)) (lv' := [(7, .int (v7 + 1)), (0, .ref (A 0)), (2, .int v2), (3, .int v3), (4, .int v4), (5, .int v5), (6, .int v6)]) hx hb dX6_laysWay_148 hl (k := 6) rfl rfl (by decide) rfl (fun ls hl => ?_)
                  refine lv_goto (tgt := 51) hx hb dX6_laysWay_151 (by decide) ?_
                  obtain rfl := Option.some.inj hf
                  exact ih2 v5 v6 (v7 + 1) hk2 _ _ _ hP hD hS (lv_sub hl [1, 2, 3, 4, 5, 6, 0] rfl)
                · refine lv_aload_n hx hb dX6_laysWay_66 rfl (lv_at hl 0 rfl) ?_
                  refine va_get (D := (dC, dI)) (ci := 6) (v := .ref (A 1)) (C := RX6) (T := TX6) (N := 30) hx hb hts hiX6 hown hK hP 0 rfl rfl 4 (by decide) ww4 (fun _ h9 => h9) rfl dX6_laysWay_67 ?_
                  refine lv_iload hx hb dX6_laysWay_70 (lv_at hl 6 rfl) ?_
                  obtain ⟨g72, hv, hf⟩ := ob_bind hf
                  refine kg_iald hx hb hK hP 1 0 rfl rfl hv dX6_laysWay_72 ?_
                  refine lv_iload hx hb dX6_laysWay_73 (lv_at hl 3 rfl) ?_
                  refine kg_icmp_eq (tgt := 93) hx hb hf dX6_laysWay_75 (by decide) (fun hc hf => ?_) (fun hc hf => ?_)
                  · exact hj93 v5 v6 v7 hf _ _ _ hP hD hS (lv_sub hl [0, 1, 2, 3, 4, 5, 6] rfl)
                  · refine lv_aload_n hx hb dX6_laysWay_78 rfl (lv_at hl 0 rfl) ?_
                    refine va_get (D := (dC, dI)) (ci := 6) (v := .ref (A 2)) (C := RX6) (T := TX6) (N := 30) hx hb hts hiX6 hown hK hP 0 rfl rfl 5 (by decide) ww5 (fun _ h9 => h9) rfl dX6_laysWay_79 ?_
                    refine lv_iload hx hb dX6_laysWay_82 (lv_at hl 6 rfl) ?_
                    obtain ⟨g84, hv, hf⟩ := ob_bind hf
                    refine kg_iald hx hb hK hP 2 0 rfl rfl hv dX6_laysWay_84 ?_
                    refine lv_iload hx hb dX6_laysWay_85 (lv_at hl 3 rfl) ?_
                    refine kg_icmp_eq (tgt := 93) hx hb hf dX6_laysWay_87 (by decide) (fun hc hf => ?_) (fun hc hf => ?_)
                    · exact hj93 v5 v6 v7 hf _ _ _ hP hD hS (lv_sub hl [0, 1, 2, 3, 4, 5, 6] rfl)
                    · refine lv_goto (tgt := 148) hx hb dX6_laysWay_90 (by decide) ?_
                      refine lv_iinc (v := (v7 + 1)) (lv' := [(7, .int (v7 + 1)), (0, .ref (A 0)), (2, .int v2), (3, .int v3), (4, .int v4), (5, .int v5), (6, .int v6)]) hx hb dX6_laysWay_148 hl (k := 6) rfl rfl (by decide) rfl (fun ls hl => ?_)
                      refine lv_goto (tgt := 51) hx hb dX6_laysWay_151 (by decide) ?_
                      obtain rfl := Option.some.inj hf
                      exact ih2 v5 v6 (v7 + 1) hk2 _ _ _ hP hD hS (lv_sub hl [1, 2, 3, 4, 5, 6, 0] rfl)
          exact hlp51 x v4 FU (-1) (-1) 0 hf _ _ _ hP hD hS (lv_sub hl [3, 4, 5, 6, 2, 1, 0] rfl)
    exact hlp36  FU (Md_set_wayNode (Md_set_wayLong x 0) f11) v1 hf _ _ _ hP hD hS (lv_sub hl [1, 3, 4, 0] rfl)
  · refine lv_iconst (v := 0) hx hb dX6_laysWay_31 (by decide) ?_
    obtain rfl := Option.some.inj hf
    exact kg_zretW (b := false) hx hb hr hlk rfl rfl hP hD hS dX6_laysWay_32
set_option maxHeartbeats 4000000 in
set_option maxRecDepth 100000 in
theorem c_X6_way (l : Launch) (dC : Nat → ClassId) (dI : Nat → Nat → Nat) (cI cJ : ClassId) (A : Nat → Nat) (hq : Nat) (x : MdS) (v1 : Int32) (v2 : Int32) (v3 : Int32) (r0 : (Int32 × MdS)) (hf : Md_m_way x v1 v2 v3 = some r0) : MWi l yX6_way (wAll yX6_way cX6_way 6 (some .int)) ({ frames := 7, cells := 0, slots := 0, locals := 183 } : Room) [.ref (A 0), .int v1, .int v2, .int v3] hq (dC, dI) (vTy cI cJ) (wMd cI cJ A x) (wMd cI cJ A r0.2) r0.1 := by
  refine kg_metW (Qc := fun Q => QWi (dC, dI) Q (wMd cI cJ A r0.2) r0.1) (cc := cX6_way) (maxL := 6) (ret := (some .int)) (by decide) rfl (Nat.le_of_ble_eq_true rfl) ?_
  intro p e s m args below meth c Q hx hb hr hts hown hlk hml hP hK hN hD hA hS ls hl
  have hl : lv_has ls 6 [(0, .ref (A 0)), (1, .int v1), (2, .int v2), (3, .int v3)] := hl
  have ww0 := hts (.fieldLink RX6 71 "SafeBlocksModel" "told" "I") (List.mem_cons_of_mem _ wd_9_3)
  have ww1 := hts (.fieldLink RX6 311 "SafeBlocksModel" "wayLong" "I") (List.mem_cons_of_mem _ wd_33_21)
  have ww2 := hts (.fieldLink RX6 68 "SafeBlocksModel" "wayLink" "[I") (List.mem_cons_of_mem _ wd_8_18)
  have hiX6 : ∀ w ∈ u_ws RX6 TX6 30, w ∈ wAll yX6_way cX6_way 6 (some .int) := fun w h => List.mem_cons_of_mem _ (inlX6 w h)
  suffices hgo : ∀ (H : Heap) (locs : List Loc), va_P (dC, dI) vwCl (wMd cI cJ A x) H → va_S Q s.heap H locs → W p l e ({ frames := 7, cells := 0, slots := 0, locals := 183 } : Room) s m args below meth c H locs 0 0 (MQ below (QWi (dC, dI) Q (wMd cI cJ A r0.2) r0.1) args s 0 0 Q) (F0 m 0 ls []) from hgo _ _ hP hS
  clear hP hS
  intro H locs hP hS
  unfold Md_m_way at hf
  refine lv_aload_n hx hb dX6_way_0 rfl (lv_at hl 0 rfl) ?_
  refine lv_iconst (v := 0) hx hb dX6_way_1 (by decide) ?_
  refine kg_put (ci := 6) (v := .int 0) (ty := .int) (C := RX6) (T := TX6) (N := 30) (wz := (wMd cI cJ A (Md_set_told x 0))) hx hb hts hiX6 tyX6 tyX6_ok nmX6 hown hK hP hD hS 0 rfl rfl 0 (by decide) ww0 (fun _ h9 => h9) rfl (tyX6_ok 0 (by decide)) rfl rfl (Nat.le_of_ble_eq_true rfl) dX6_way_2 (sc_Md_told _ _ _ _ _) (fun H locs hP hD hS => ?_)
  refine lv_aload_n hx hb dX6_way_5 rfl (lv_at hl 0 rfl) ?_
  refine lv_iload_n hx hb dX6_way_6 rfl (lv_at hl 1 rfl) ?_
  obtain ⟨g7, hc, hf⟩ := ob_bind hf
  have hPc : va_P (dC, dI) vwCl (wMd cI cJ A (Md_set_told x 0)) H := hP
  refine kg_retRi (va_runV (As := [.int v1]) (rest := []) ⟨hx, hb, hml, hown, hts⟩ (c_X6_isNode l dC dI cI cJ A H (Md_set_told x 0) v1 _ hc) (cwV 1 hts (gw_V wd_12_13 wd_12_10 wd_12_11 wd_12_12 wd_1_5) rfl rfl rfl qX6_isNode ⟨Nat.le_of_ble_eq_true rfl, Nat.le_of_ble_eq_true rfl⟩) (kg_preVR (ci := 6) (q := (RX6, TX6, 30)) (q0 := 0) hPc hK hN rfl rfl) rfl rfl hl.1 rfl (lv_room (Nat.le_of_ble_eq_true rfl)) dX6_way_7 ⟨Nat.zero_le _, Nat.zero_le _⟩) ?_
  refine kg_b_eq (tgt := 21) hx hb hf dX6_way_10 (by decide) (fun hc hf => ?_) (fun hc hf => ?_)
  · refine lv_iconst (v := (-1)) hx hb dX6_way_21 (by decide) ?_
    obtain rfl := Option.some.inj hf
    exact kg_iretW hx hb hr hlk rfl hP hD hS dX6_way_22
  · refine lv_aload_n hx hb dX6_way_13 rfl (lv_at hl 0 rfl) ?_
    refine lv_iload_n hx hb dX6_way_14 rfl (lv_at hl 2 rfl) ?_
    obtain ⟨g15, hc, hf⟩ := ob_bind hf
    have hPc : va_P (dC, dI) vwCl (wMd cI cJ A (Md_set_told x 0)) H := hP
    refine kg_retRi (va_runV (As := [.int v2]) (rest := []) ⟨hx, hb, hml, hown, hts⟩ (c_X6_isNode l dC dI cI cJ A H (Md_set_told x 0) v2 _ hc) (cwV 1 hts (gw_V wd_12_13 wd_12_10 wd_12_11 wd_12_12 wd_1_5) rfl rfl rfl qX6_isNode ⟨Nat.le_of_ble_eq_true rfl, Nat.le_of_ble_eq_true rfl⟩) (kg_preVR (ci := 6) (q := (RX6, TX6, 30)) (q0 := 0) hPc hK hN rfl rfl) rfl rfl hl.1 rfl (lv_room (Nat.le_of_ble_eq_true rfl)) dX6_way_15 ⟨Nat.zero_le _, Nat.zero_le _⟩) ?_
    refine kg_b_ne (tgt := 23) hx hb hf dX6_way_18 (by decide) (fun hc hf => ?_) (fun hc hf => ?_)
    · refine lv_aload_n hx hb dX6_way_23 rfl (lv_at hl 0 rfl) ?_
      obtain ⟨g24, hc, hf⟩ := ob_bind hf
      have hPx := kg_eqP (kg_slf _) hP
      have hDx := kg_eqD (kg_slf _) hD
      refine kg_retWv (pre := ([] : va_W)) (wc := wMd cI cJ A (Md_set_told x 0)) (post := ([] : va_W)) (w1 := wMd cI cJ A g24) (wz := (wMd cI cJ A g24)) (kg_slf _).symm hPx hDx hS hA (va_runV (As := []) (rest := []) ⟨hx, hb, hml, hown, hts⟩ (c_X6_runsAll l dC dI cI cJ A H.size (Md_set_told x 0) _ hc) (cwV 0 hts (gw_V wd_12_17 wd_12_14 wd_12_15 wd_12_16 wd_1_5) rfl rfl rfl qX6_runsAll ⟨Nat.le_of_ble_eq_true rfl, Nat.le_of_ble_eq_true rfl⟩) (kg_preVW (ci := 6) (q := (RX6, TX6, 30)) (q0 := 0) (kg_cutP hPx) (kg_cutD hDx) hK hN rfl rfl) rfl rfl hl.1 rfl (lv_room (Nat.le_of_ble_eq_true rfl)) dX6_way_24 ⟨Nat.zero_le _, Nat.zero_le _⟩) (fun H locs hP hD hS => ?_)
      refine lv_aload_n hx hb dX6_way_27 rfl (lv_at hl 0 rfl) ?_
      refine lv_iload_n hx hb dX6_way_28 rfl (lv_at hl 1 rfl) ?_
      refine lv_iload_n hx hb dX6_way_29 rfl (lv_at hl 2 rfl) ?_
      refine lv_iconst (v := (-1)) hx hb dX6_way_30 (by decide) ?_
      obtain ⟨g31, hc, hf⟩ := ob_bind hf
      have hPx := kg_eqP (kg_slf _) hP
      have hDx := kg_eqD (kg_slf _) hD
      refine kg_retWi (pre := ([] : va_W)) (wc := wMd cI cJ A g24) (post := ([] : va_W)) (w1 := wMd cI cJ A g31.2) (wz := (wMd cI cJ A g31.2)) (kg_slf _).symm hPx hDx hS hA (va_runV (As := [.int v1, .int v2, .int (-1)]) (rest := []) ⟨hx, hb, hml, hown, hts⟩ (c_X6_laysWay l dC dI cI cJ A H.size g24 v1 v2 (-1) _ hc) (cwV 3 hts (gw_V wd_34_1 wd_33_22 wd_33_23 wd_34_0 wd_1_5) rfl rfl rfl qX6_laysWay ⟨Nat.le_of_ble_eq_true rfl, Nat.le_of_ble_eq_true rfl⟩) (kg_preVW (ci := 6) (q := (RX6, TX6, 30)) (q0 := 0) (kg_cutP hPx) (kg_cutD hDx) hK hN rfl rfl) rfl rfl hl.1 rfl (lv_room (Nat.le_of_ble_eq_true rfl)) dX6_way_31 ⟨Nat.zero_le _, Nat.zero_le _⟩) (fun H locs hP hD hS => ?_)
      refine kg_b_ne (tgt := 39) hx hb hf dX6_way_34 (by decide) (fun hc hf => ?_) (fun hc hf => ?_)
      · refine lv_iconst (v := 0) hx hb dX6_way_39 (by decide) ?_
        refine lv_istore (lv' := [(4, .int 0), (0, .ref (A 0)), (1, .int v1), (2, .int v2), (3, .int v3)]) hx hb dX6_way_40 hl (by decide) rfl (fun ls hl => ?_)
        refine lv_iconst (v := 0) hx hb dX6_way_42 (by decide) ?_
        refine lv_istore (lv' := [(5, .int 0), (4, .int 0), (0, .ref (A 0)), (1, .int v1), (2, .int v2), (3, .int v3)]) hx hb dX6_way_43 hl (by decide) rfl (fun ls hl => ?_)
        have hlp45 : ∀ (x : MdS), ∀ (n : Nat) (v4 : Int32) (v5 : Int32), iter (fun p : Int32 × Int32 => Md_m_way_s45 x v3 p.1 p.2) n (v4, v5) = some r0 → ∀ (H : Heap) (locs : List Loc) (ls : Array Slot), va_P (dC, dI) vwCl (wMd cI cJ A x) H → va_D Q (wMd cI cJ A x) → va_S Q s.heap H locs → lv_has ls 6 [(0, .ref (A 0)), (3, .int v3), (4, .int v4), (5, .int v5)] → W p l e ({ frames := 7, cells := 0, slots := 0, locals := 183 } : Room) s m args below meth c H locs 0 0 (MQ below (QWi (dC, dI) Q (wMd cI cJ A r0.2) r0.1) args s 0 0 Q) (F0 m 45 ls []) := by
          intro x n
          induction n with
          | zero => intro v4 v5 hf; exact iter_zero hf
          | succ n ih1 =>
            intro v4 v5 hf H locs ls hP hD hS hl
            obtain ⟨q1, hf, hk1⟩ := iter_succ hf
            have hf : Md_m_way_s45 x v3 v4 v5 = some q1 := hf
            unfold Md_m_way_s45 at hf
            refine lv_iload hx hb dX6_way_45 (lv_at hl 3 rfl) ?_
            refine lv_aload_n hx hb dX6_way_47 rfl (lv_at hl 0 rfl) ?_
            refine va_get (D := (dC, dI)) (ci := 6) (v := .int (Md_wayLong x)) (C := RX6) (T := TX6) (N := 30) hx hb hts hiX6 hown hK hP 0 rfl rfl 29 (by decide) ww1 (fun _ h9 => h9) rfl dX6_way_48 ?_
            refine kg_icmp_ge (tgt := 97) hx hb hf dX6_way_51 (by decide) (fun hc hf => ?_) (fun hc hf => ?_)
            · obtain ⟨qq, hf, hqq⟩ := omap_some hf
              have hkq : qq = r0 := by rw [← hqq] at hk1; exact hk1
              rw [hkq] at hf
              clear hkq hqq
              refine lv_iload_n hx hb dX6_way_97 rfl (lv_at hl 1 rfl) ?_
              refine lv_iconst (v := (-1)) hx hb dX6_way_98 (by decide) ?_
              refine kg_icmp_ne (tgt := 107) hx hb hf dX6_way_99 (by decide) (fun hc hf => ?_) (fun hc hf => ?_)
              · refine lv_iconst (v := (-1)) hx hb dX6_way_107 (by decide) ?_
                obtain rfl := Option.some.inj hf
                exact kg_iretW hx hb hr hlk rfl hP hD hS dX6_way_108
              · refine lv_iload hx hb dX6_way_102 (lv_at hl 2 rfl) ?_
                refine lv_goto (tgt := 108) hx hb dX6_way_104 (by decide) ?_
                obtain rfl := Option.some.inj hf
                exact kg_iretW hx hb hr hlk rfl hP hD hS dX6_way_108
            · refine lv_aload_n hx hb dX6_way_54 rfl (lv_at hl 0 rfl) ?_
              refine lv_aload_n hx hb dX6_way_55 rfl (lv_at hl 0 rfl) ?_
              refine va_get (D := (dC, dI)) (ci := 6) (v := .ref (A 17)) (C := RX6) (T := TX6) (N := 30) hx hb hts hiX6 hown hK hP 0 rfl rfl 28 (by decide) ww2 (fun _ h9 => h9) rfl dX6_way_56 ?_
              refine lv_iload hx hb dX6_way_59 (lv_at hl 3 rfl) ?_
              obtain ⟨g61, hv, hf⟩ := ob_bind hf
              refine kg_iald hx hb hK hP 17 0 rfl rfl hv dX6_way_61 ?_
              obtain ⟨g62, hc, hf⟩ := ob_bind hf
              have hPc : va_P (dC, dI) vwCl (wMd cI cJ A x) H := hP
              refine kg_retRi (va_runV (As := [.int g61]) (rest := []) ⟨hx, hb, hml, hown, hts⟩ (c_X6_isBridge l dC dI cI cJ A H x g61 _ hc) (cwV 1 hts (gw_V wd_18_21 wd_18_18 wd_18_19 wd_18_20 wd_1_5) rfl rfl rfl qX6_isBridge ⟨Nat.le_of_ble_eq_true rfl, Nat.le_of_ble_eq_true rfl⟩) (kg_preVR (ci := 6) (q := (RX6, TX6, 30)) (q0 := 0) hPc hK hN rfl rfl) rfl rfl hl.1 rfl (lv_room (Nat.le_of_ble_eq_true rfl)) dX6_way_62 ⟨Nat.zero_le _, Nat.zero_le _⟩) ?_
              refine kg_b_ne (tgt := 71) hx hb hf dX6_way_65 (by decide) (fun hc hf => ?_) (fun hc hf => ?_)
              · refine lv_iload hx hb dX6_way_71 (lv_at hl 2 rfl) ?_
                refine lv_iload_n hx hb dX6_way_73 rfl (lv_at hl 1 rfl) ?_
                refine kg_icmp_ne (tgt := 85) hx hb hf dX6_way_74 (by decide) (fun hc hf => ?_) (fun hc hf => ?_)
                · refine lv_iload hx hb dX6_way_85 (lv_at hl 2 rfl) ?_
                  refine lv_iconst (v := 1) hx hb dX6_way_87 (by decide) ?_
                  refine lv_iadd hx hb dX6_way_88 ?_
                  refine lv_istore (lv' := [(4, .int (v4 + 1)), (0, .ref (A 0)), (3, .int v3), (5, .int v5)]) hx hb dX6_way_89 hl (by decide) rfl (fun ls hl => ?_)
                  refine lv_iinc (v := (v5 + 1)) (lv' := [(5, .int (v5 + 1)), (4, .int (v4 + 1)), (0, .ref (A 0)), (3, .int v3)]) hx hb dX6_way_91 hl (k := 3) rfl rfl (by decide) rfl (fun ls hl => ?_)
                  refine lv_goto (tgt := 45) hx hb dX6_way_94 (by decide) ?_
                  obtain rfl := Option.some.inj hf
                  exact ih1 (v4 + 1) (v5 + 1) hk1 _ _ _ hP hD hS (lv_sub hl [2, 3, 1, 0] rfl)
                · obtain ⟨qq, hf, hqq⟩ := omap_some hf
                  have hkq : qq = r0 := by rw [← hqq] at hk1; exact hk1
                  rw [hkq] at hf
                  clear hkq hqq
                  refine lv_aload_n hx hb dX6_way_77 rfl (lv_at hl 0 rfl) ?_
                  refine va_get (D := (dC, dI)) (ci := 6) (v := .ref (A 17)) (C := RX6) (T := TX6) (N := 30) hx hb hts hiX6 hown hK hP 0 rfl rfl 28 (by decide) ww2 (fun _ h9 => h9) rfl dX6_way_78 ?_
                  refine lv_iload hx hb dX6_way_81 (lv_at hl 3 rfl) ?_
                  obtain ⟨g83, hv, hf⟩ := ob_bind hf
                  refine kg_iald hx hb hK hP 17 0 rfl rfl hv dX6_way_83 ?_
                  obtain rfl := Option.some.inj hf
                  exact kg_iretW hx hb hr hlk rfl hP hD hS dX6_way_84
              · refine lv_goto (tgt := 91) hx hb dX6_way_68 (by decide) ?_
                refine lv_iinc (v := (v5 + 1)) (lv' := [(5, .int (v5 + 1)), (0, .ref (A 0)), (3, .int v3), (4, .int v4)]) hx hb dX6_way_91 hl (k := 3) rfl rfl (by decide) rfl (fun ls hl => ?_)
                refine lv_goto (tgt := 45) hx hb dX6_way_94 (by decide) ?_
                obtain rfl := Option.some.inj hf
                exact ih1 v4 (v5 + 1) hk1 _ _ _ hP hD hS (lv_sub hl [1, 2, 3, 0] rfl)
        exact hlp45 g31.2 FU 0 0 hf _ _ _ hP hD hS (lv_sub hl [2, 5, 1, 0] rfl)
      · refine lv_iconst (v := (-1)) hx hb dX6_way_37 (by decide) ?_
        obtain rfl := Option.some.inj hf
        exact kg_iretW hx hb hr hlk rfl hP hD hS dX6_way_38
    · refine lv_iconst (v := (-1)) hx hb dX6_way_21 (by decide) ?_
      obtain rfl := Option.some.inj hf
      exact kg_iretW hx hb hr hlk rfl hP hD hS dX6_way_22
set_option maxHeartbeats 4000000 in
set_option maxRecDepth 100000 in
theorem c_X6_between (l : Launch) (dC : Nat → ClassId) (dI : Nat → Nat → Nat) (cI cJ : ClassId) (A : Nat → Nat) (hq : Nat) (x : MdS) (v1 : Int32) (v2 : Int32) (v3 : Int32) (r0 : (Int32 × MdS)) (hf : Md_m_between x v1 v2 v3 = some r0) : MWi l yX6_between (wAll yX6_between cX6_between 6 (some .int)) ({ frames := 4, cells := 0, slots := 0, locals := 119 } : Room) [.ref (A 0), .int v1, .int v2, .int v3] hq (dC, dI) (vTy cI cJ) (wMd cI cJ A x) (wMd cI cJ A r0.2) r0.1 := by
  refine kg_metW (Qc := fun Q => QWi (dC, dI) Q (wMd cI cJ A r0.2) r0.1) (cc := cX6_between) (maxL := 6) (ret := (some .int)) (by decide) rfl (Nat.le_of_ble_eq_true rfl) ?_
  intro p e s m args below meth c Q hx hb hr hts hown hlk hml hP hK hN hD hA hS ls hl
  have hl : lv_has ls 6 [(0, .ref (A 0)), (1, .int v1), (2, .int v2), (3, .int v3)] := hl
  have ww0 := hts (.fieldLink RX6 71 "SafeBlocksModel" "told" "I") (List.mem_cons_of_mem _ wd_9_3)
  have ww1 := hts (.fieldLink RX6 311 "SafeBlocksModel" "wayLong" "I") (List.mem_cons_of_mem _ wd_33_21)
  have ww2 := hts (.fieldLink RX6 78 "SafeBlocksModel" "m" "I") (List.mem_cons_of_mem _ wd_9_6)
  have ww3 := hts (.fieldLink RX6 65 "SafeBlocksModel" "wayNode" "[I") (List.mem_cons_of_mem _ wd_8_17)
  have hiX6 : ∀ w ∈ u_ws RX6 TX6 30, w ∈ wAll yX6_between cX6_between 6 (some .int) := fun w h => List.mem_cons_of_mem _ (inlX6 w h)
  suffices hgo : ∀ (H : Heap) (locs : List Loc), va_P (dC, dI) vwCl (wMd cI cJ A x) H → va_S Q s.heap H locs → W p l e ({ frames := 4, cells := 0, slots := 0, locals := 119 } : Room) s m args below meth c H locs 0 0 (MQ below (QWi (dC, dI) Q (wMd cI cJ A r0.2) r0.1) args s 0 0 Q) (F0 m 0 ls []) from hgo _ _ hP hS
  clear hP hS
  intro H locs hP hS
  unfold Md_m_between at hf
  refine lv_aload_n hx hb dX6_between_0 rfl (lv_at hl 0 rfl) ?_
  refine lv_iconst (v := 0) hx hb dX6_between_1 (by decide) ?_
  refine kg_put (ci := 6) (v := .int 0) (ty := .int) (C := RX6) (T := TX6) (N := 30) (wz := (wMd cI cJ A (Md_set_told x 0))) hx hb hts hiX6 tyX6 tyX6_ok nmX6 hown hK hP hD hS 0 rfl rfl 0 (by decide) ww0 (fun _ h9 => h9) rfl (tyX6_ok 0 (by decide)) rfl rfl (Nat.le_of_ble_eq_true rfl) dX6_between_2 (sc_Md_told _ _ _ _ _) (fun H locs hP hD hS => ?_)
  refine lv_aload_n hx hb dX6_between_5 rfl (lv_at hl 0 rfl) ?_
  refine lv_iload_n hx hb dX6_between_6 rfl (lv_at hl 1 rfl) ?_
  refine lv_iload_n hx hb dX6_between_7 rfl (lv_at hl 2 rfl) ?_
  obtain ⟨g8, hc, hf⟩ := ob_bind hf
  have hPc : va_P (dC, dI) vwCl (wMd cI cJ A (Md_set_told x 0)) H := hP
  refine kg_retRi (va_runV (As := [.int v1, .int v2]) (rest := []) ⟨hx, hb, hml, hown, hts⟩ (c_X6_areTwo l dC dI cI cJ A H (Md_set_told x 0) v1 v2 _ hc) (cwV 2 hts (gw_V wd_12_9 wd_12_6 wd_12_7 wd_12_8 wd_1_5) rfl rfl rfl qX6_areTwo ⟨Nat.le_of_ble_eq_true rfl, Nat.le_of_ble_eq_true rfl⟩) (kg_preVR (ci := 6) (q := (RX6, TX6, 30)) (q0 := 0) hPc hK hN rfl rfl) rfl rfl hl.1 rfl (lv_room (Nat.le_of_ble_eq_true rfl)) dX6_between_8 ⟨Nat.zero_le _, Nat.zero_le _⟩) ?_
  refine kg_b_eq (tgt := 24) hx hb hf dX6_between_11 (by decide) (fun hc hf => ?_) (fun hc hf => ?_)
  · refine lv_iconst (v := (-1)) hx hb dX6_between_24 (by decide) ?_
    obtain rfl := Option.some.inj hf
    exact kg_iretW hx hb hr hlk rfl hP hD hS dX6_between_25
  · refine lv_aload_n hx hb dX6_between_14 rfl (lv_at hl 0 rfl) ?_
    refine lv_iload_n hx hb dX6_between_15 rfl (lv_at hl 1 rfl) ?_
    refine lv_iload_n hx hb dX6_between_16 rfl (lv_at hl 2 rfl) ?_
    refine lv_iconst (v := (-1)) hx hb dX6_between_17 (by decide) ?_
    obtain ⟨g18, hc, hf⟩ := ob_bind hf
    have hPx := kg_eqP (kg_slf _) hP
    have hDx := kg_eqD (kg_slf _) hD
    refine kg_retWi (pre := ([] : va_W)) (wc := wMd cI cJ A (Md_set_told x 0)) (post := ([] : va_W)) (w1 := wMd cI cJ A g18.2) (wz := (wMd cI cJ A g18.2)) (kg_slf _).symm hPx hDx hS hA (va_runV (As := [.int v1, .int v2, .int (-1)]) (rest := []) ⟨hx, hb, hml, hown, hts⟩ (c_X6_laysWay l dC dI cI cJ A H.size (Md_set_told x 0) v1 v2 (-1) _ hc) (cwV 3 hts (gw_V wd_34_1 wd_33_22 wd_33_23 wd_34_0 wd_1_5) rfl rfl rfl qX6_laysWay ⟨Nat.le_of_ble_eq_true rfl, Nat.le_of_ble_eq_true rfl⟩) (kg_preVW (ci := 6) (q := (RX6, TX6, 30)) (q0 := 0) (kg_cutP hPx) (kg_cutD hDx) hK hN rfl rfl) rfl rfl hl.1 rfl (lv_room (Nat.le_of_ble_eq_true rfl)) dX6_between_18 ⟨Nat.zero_le _, Nat.zero_le _⟩) (fun H locs hP hD hS => ?_)
    refine kg_b_ne (tgt := 26) hx hb hf dX6_between_21 (by decide) (fun hc hf => ?_) (fun hc hf => ?_)
    · refine lv_iconst (v := 0) hx hb dX6_between_26 (by decide) ?_
      refine lv_istore (lv' := [(4, .int 0), (0, .ref (A 0)), (1, .int v1), (2, .int v2), (3, .int v3)]) hx hb dX6_between_27 hl (by decide) rfl (fun ls hl => ?_)
      refine lv_iconst (v := 1) hx hb dX6_between_29 (by decide) ?_
      refine lv_istore (lv' := [(5, .int 1), (4, .int 0), (0, .ref (A 0)), (1, .int v1), (2, .int v2), (3, .int v3)]) hx hb dX6_between_30 hl (by decide) rfl (fun ls hl => ?_)
      have hlp32 : ∀ (x : MdS), ∀ (n : Nat) (v4 : Int32) (v5 : Int32), iter (fun p : Int32 × Int32 => Md_m_between_s32 x v1 v2 v3 p.1 p.2) n (v4, v5) = some r0 → ∀ (H : Heap) (locs : List Loc) (ls : Array Slot), va_P (dC, dI) vwCl (wMd cI cJ A x) H → va_D Q (wMd cI cJ A x) → va_S Q s.heap H locs → lv_has ls 6 [(0, .ref (A 0)), (1, .int v1), (2, .int v2), (3, .int v3), (4, .int v4), (5, .int v5)] → W p l e ({ frames := 4, cells := 0, slots := 0, locals := 119 } : Room) s m args below meth c H locs 0 0 (MQ below (QWi (dC, dI) Q (wMd cI cJ A r0.2) r0.1) args s 0 0 Q) (F0 m 32 ls []) := by
        intro x n
        induction n with
        | zero => intro v4 v5 hf; exact iter_zero hf
        | succ n ih1 =>
          intro v4 v5 hf H locs ls hP hD hS hl
          obtain ⟨q1, hf, hk1⟩ := iter_succ hf
          have hf : Md_m_between_s32 x v1 v2 v3 v4 v5 = some q1 := hf
          unfold Md_m_between_s32 at hf
          refine lv_iload hx hb dX6_between_32 (lv_at hl 5 rfl) ?_
          refine lv_aload_n hx hb dX6_between_34 rfl (lv_at hl 0 rfl) ?_
          refine va_get (D := (dC, dI)) (ci := 6) (v := .int (Md_wayLong x)) (C := RX6) (T := TX6) (N := 30) hx hb hts hiX6 hown hK hP 0 rfl rfl 29 (by decide) ww1 (fun _ h9 => h9) rfl dX6_between_35 ?_
          refine kg_icmp_ge (tgt := 95) hx hb hf dX6_between_38 (by decide) (fun hc hf => ?_) (fun hc hf => ?_)
          · obtain ⟨qq, hf, hqq⟩ := omap_some hf
            have hkq : qq = r0 := by rw [← hqq] at hk1; exact hk1
            rw [hkq] at hf
            clear hkq hqq
            refine lv_iload_n hx hb dX6_between_95 rfl (lv_at hl 3 rfl) ?_
            refine lv_iconst (v := (-1)) hx hb dX6_between_96 (by decide) ?_
            refine kg_icmp_ne (tgt := 105) hx hb hf dX6_between_97 (by decide) (fun hc hf => ?_) (fun hc hf => ?_)
            · refine lv_iconst (v := (-1)) hx hb dX6_between_105 (by decide) ?_
              obtain rfl := Option.some.inj hf
              exact kg_iretW hx hb hr hlk rfl hP hD hS dX6_between_106
            · refine lv_iload hx hb dX6_between_100 (lv_at hl 4 rfl) ?_
              refine lv_goto (tgt := 106) hx hb dX6_between_102 (by decide) ?_
              obtain rfl := Option.some.inj hf
              exact kg_iretW hx hb hr hlk rfl hP hD hS dX6_between_106
          · refine lv_aload_n hx hb dX6_between_41 rfl (lv_at hl 0 rfl) ?_
            refine lv_aload_n hx hb dX6_between_42 rfl (lv_at hl 0 rfl) ?_
            refine lv_iload_n hx hb dX6_between_43 rfl (lv_at hl 1 rfl) ?_
            refine lv_aload_n hx hb dX6_between_44 rfl (lv_at hl 0 rfl) ?_
            refine va_get (D := (dC, dI)) (ci := 6) (v := .int (Md_m x)) (C := RX6) (T := TX6) (N := 30) hx hb hts hiX6 hown hK hP 0 rfl rfl 2 (by decide) ww2 (fun _ h9 => h9) rfl dX6_between_45 ?_
            refine lv_iconst (v := (-1)) hx hb dX6_between_48 (by decide) ?_
            refine lv_aload_n hx hb dX6_between_49 rfl (lv_at hl 0 rfl) ?_
            refine va_get (D := (dC, dI)) (ci := 6) (v := .ref (A 16)) (C := RX6) (T := TX6) (N := 30) hx hb hts hiX6 hown hK hP 0 rfl rfl 27 (by decide) ww3 (fun _ h9 => h9) rfl dX6_between_50 ?_
            refine lv_iload hx hb dX6_between_53 (lv_at hl 5 rfl) ?_
            obtain ⟨g55, hv, hf⟩ := ob_bind hf
            refine kg_iald hx hb hK hP 16 0 rfl rfl hv dX6_between_55 ?_
            obtain ⟨g56, hc, hf⟩ := ob_bind hf
            have hPc : va_P (dC, dI) vwCl (wMd cI cJ A x) H := hP
            refine kg_retRi (va_runV (As := [.int v1, .int (Md_m x), .int (-1), .int g55]) (rest := [.ref (A 0)]) ⟨hx, hb, hml, hown, hts⟩ (c_X6_reached l dC dI cI cJ A H x v1 (Md_m x) (-1) g55 _ hc) (cwV 4 hts (gw_V wd_20_13 wd_20_10 wd_20_11 wd_20_12 wd_1_5) rfl rfl rfl qX6_reached ⟨Nat.le_of_ble_eq_true rfl, Nat.le_of_ble_eq_true rfl⟩) (kg_preVR (ci := 6) (q := (RX6, TX6, 30)) (q0 := 0) hPc hK hN rfl rfl) rfl rfl hl.1 rfl (lv_room (Nat.le_of_ble_eq_true rfl)) dX6_between_56 ⟨Nat.zero_le _, Nat.zero_le _⟩) ?_
            refine lv_iload_n hx hb dX6_between_59 rfl (lv_at hl 2 rfl) ?_
            obtain ⟨g60, hc, hf⟩ := ob_bind hf
            have hPc : va_P (dC, dI) vwCl (wMd cI cJ A x) H := hP
            refine kg_retRi (va_runV (As := [.int g56, .int v2]) (rest := []) ⟨hx, hb, hml, hown, hts⟩ (c_X6_has l dC dI cI cJ A H x g56 v2 _ hc) (cwV 2 hts (gw_V wd_14_13 wd_14_10 wd_14_11 wd_14_12 wd_1_5) rfl rfl rfl qX6_has ⟨Nat.le_of_ble_eq_true rfl, Nat.le_of_ble_eq_true rfl⟩) (kg_preVR (ci := 6) (q := (RX6, TX6, 30)) (q0 := 0) hPc hK hN rfl rfl) rfl rfl hl.1 rfl (lv_room (Nat.le_of_ble_eq_true rfl)) dX6_between_60 ⟨Nat.zero_le _, Nat.zero_le _⟩) ?_
            refine kg_b_eq (tgt := 69) hx hb hf dX6_between_63 (by decide) (fun hc hf => ?_) (fun hc hf => ?_)
            · refine lv_iload hx hb dX6_between_69 (lv_at hl 4 rfl) ?_
              refine lv_iload_n hx hb dX6_between_71 rfl (lv_at hl 3 rfl) ?_
              refine kg_icmp_ne (tgt := 83) hx hb hf dX6_between_72 (by decide) (fun hc hf => ?_) (fun hc hf => ?_)
              · refine lv_iload hx hb dX6_between_83 (lv_at hl 4 rfl) ?_
                refine lv_iconst (v := 1) hx hb dX6_between_85 (by decide) ?_
                refine lv_iadd hx hb dX6_between_86 ?_
                refine lv_istore (lv' := [(4, .int (v4 + 1)), (0, .ref (A 0)), (1, .int v1), (2, .int v2), (3, .int v3), (5, .int v5)]) hx hb dX6_between_87 hl (by decide) rfl (fun ls hl => ?_)
                refine lv_iinc (v := (v5 + 1)) (lv' := [(5, .int (v5 + 1)), (4, .int (v4 + 1)), (0, .ref (A 0)), (1, .int v1), (2, .int v2), (3, .int v3)]) hx hb dX6_between_89 hl (k := 5) rfl rfl (by decide) rfl (fun ls hl => ?_)
                refine lv_goto (tgt := 32) hx hb dX6_between_92 (by decide) ?_
                obtain rfl := Option.some.inj hf
                exact ih1 (v4 + 1) (v5 + 1) hk1 _ _ _ hP hD hS (lv_sub hl [2, 3, 4, 5, 1, 0] rfl)
              · obtain ⟨qq, hf, hqq⟩ := omap_some hf
                have hkq : qq = r0 := by rw [← hqq] at hk1; exact hk1
                rw [hkq] at hf
                clear hkq hqq
                refine lv_aload_n hx hb dX6_between_75 rfl (lv_at hl 0 rfl) ?_
                refine va_get (D := (dC, dI)) (ci := 6) (v := .ref (A 16)) (C := RX6) (T := TX6) (N := 30) hx hb hts hiX6 hown hK hP 0 rfl rfl 27 (by decide) ww3 (fun _ h9 => h9) rfl dX6_between_76 ?_
                refine lv_iload hx hb dX6_between_79 (lv_at hl 5 rfl) ?_
                obtain ⟨g81, hv, hf⟩ := ob_bind hf
                refine kg_iald hx hb hK hP 16 0 rfl rfl hv dX6_between_81 ?_
                obtain rfl := Option.some.inj hf
                exact kg_iretW hx hb hr hlk rfl hP hD hS dX6_between_82
            · refine lv_goto (tgt := 89) hx hb dX6_between_66 (by decide) ?_
              refine lv_iinc (v := (v5 + 1)) (lv' := [(5, .int (v5 + 1)), (0, .ref (A 0)), (1, .int v1), (2, .int v2), (3, .int v3), (4, .int v4)]) hx hb dX6_between_89 hl (k := 5) rfl rfl (by decide) rfl (fun ls hl => ?_)
              refine lv_goto (tgt := 32) hx hb dX6_between_92 (by decide) ?_
              obtain rfl := Option.some.inj hf
              exact ih1 v4 (v5 + 1) hk1 _ _ _ hP hD hS (lv_sub hl [1, 2, 3, 4, 5, 0] rfl)
      exact hlp32 g18.2 FU 0 1 hf _ _ _ hP hD hS (lv_sub hl [2, 3, 4, 5, 1, 0] rfl)
    · refine lv_iconst (v := (-1)) hx hb dX6_between_24 (by decide) ?_
      obtain rfl := Option.some.inj hf
      exact kg_iretW hx hb hr hlk rfl hP hD hS dX6_between_25
set_option maxHeartbeats 4000000 in
set_option maxRecDepth 100000 in
theorem c_X6_areBy (l : Launch) (dC : Nat → ClassId) (dI : Nat → Nat → Nat) (cI cJ : ClassId) (A : Nat → Nat) (hq : Nat) (x : MdS) (v1 : Int32) (v2 : Int32) (v3 : Int32) (v4 : Int32) (r0 : (Bool × MdS)) (hf : Md_m_areBy x v1 v2 v3 v4 = some r0) : MWi l yX6_areBy (wAll yX6_areBy cX6_areBy 7 (some .boolean)) ({ frames := 6, cells := 0, slots := 0, locals := 163 } : Room) [.ref (A 0), .int v1, .int v2, .int v3, .int v4] hq (dC, dI) (vTy cI cJ) (wMd cI cJ A x) (wMd cI cJ A r0.2) (b2i r0.1) := by
  refine kg_metW (Qc := fun Q => QWi (dC, dI) Q (wMd cI cJ A r0.2) (b2i r0.1)) (cc := cX6_areBy) (maxL := 7) (ret := (some .boolean)) (by decide) rfl (Nat.le_of_ble_eq_true rfl) ?_
  intro p e s m args below meth c Q hx hb hr hts hown hlk hml hP hK hN hD hA hS ls hl
  have hl : lv_has ls 7 [(0, .ref (A 0)), (1, .int v1), (2, .int v2), (3, .int v3), (4, .int v4)] := hl
  have ww0 := hts (.fieldLink RX6 78 "SafeBlocksModel" "m" "I") (List.mem_cons_of_mem _ wd_9_6)
  have hiX6 : ∀ w ∈ u_ws RX6 TX6 30, w ∈ wAll yX6_areBy cX6_areBy 7 (some .boolean) := fun w h => List.mem_cons_of_mem _ (inlX6 w h)
  suffices hgo : ∀ (H : Heap) (locs : List Loc), va_P (dC, dI) vwCl (wMd cI cJ A x) H → va_S Q s.heap H locs → W p l e ({ frames := 6, cells := 0, slots := 0, locals := 163 } : Room) s m args below meth c H locs 0 0 (MQ below (QWi (dC, dI) Q (wMd cI cJ A r0.2) (b2i r0.1)) args s 0 0 Q) (F0 m 0 ls []) from hgo _ _ hP hS
  clear hP hS
  intro H locs hP hS
  unfold Md_m_areBy at hf
  refine lv_aload_n hx hb dX6_areBy_0 rfl (lv_at hl 0 rfl) ?_
  refine lv_iload hx hb dX6_areBy_1 (lv_at hl 4 rfl) ?_
  obtain ⟨g3, hc, hf⟩ := ob_bind hf
  have hPx := kg_eqP (kg_slf _) hP
  have hDx := kg_eqD (kg_slf _) hD
  refine kg_retWv (pre := ([] : va_W)) (wc := wMd cI cJ A x) (post := ([] : va_W)) (w1 := wMd cI cJ A g3) (wz := (wMd cI cJ A g3)) (kg_slf _).symm hPx hDx hS hA (va_runV (As := [.int v4]) (rest := []) ⟨hx, hb, hml, hown, hts⟩ (c_X6_runs l dC dI cI cJ A H.size x v4 _ hc) (cwV 1 hts (gw_V wd_12_21 wd_12_18 wd_12_19 wd_12_20 wd_1_5) rfl rfl rfl qX6_runs ⟨Nat.le_of_ble_eq_true rfl, Nat.le_of_ble_eq_true rfl⟩) (kg_preVW (ci := 6) (q := (RX6, TX6, 30)) (q0 := 0) (kg_cutP hPx) (kg_cutD hDx) hK hN rfl rfl) rfl rfl hl.1 rfl (lv_room (Nat.le_of_ble_eq_true rfl)) dX6_areBy_3 ⟨Nat.zero_le _, Nat.zero_le _⟩) (fun H locs hP hD hS => ?_)
  refine lv_iload_n hx hb dX6_areBy_6 rfl (lv_at hl 3 rfl) ?_
  refine kg_if_ne (tgt := 29) hx hb hf dX6_areBy_7 (by decide) (fun hc hf => ?_) (fun hc hf => ?_)
  · refine lv_iload_n hx hb dX6_areBy_29 rfl (lv_at hl 3 rfl) ?_
    refine lv_iconst (v := 1) hx hb dX6_areBy_30 (by decide) ?_
    refine kg_icmp_ne (tgt := 53) hx hb hf dX6_areBy_31 (by decide) (fun hc hf => ?_) (fun hc hf => ?_)
    · refine lv_aload_n hx hb dX6_areBy_53 rfl (lv_at hl 0 rfl) ?_
      refine va_get (D := (dC, dI)) (ci := 6) (v := .int (Md_m g3)) (C := RX6) (T := TX6) (N := 30) hx hb hts hiX6 hown hK hP 0 rfl rfl 2 (by decide) ww0 (fun _ h9 => h9) rfl dX6_areBy_54 ?_
      refine lv_istore (lv' := [(5, .int (Md_m g3)), (0, .ref (A 0)), (1, .int v1), (2, .int v2), (3, .int v3), (4, .int v4)]) hx hb dX6_areBy_57 hl (by decide) rfl (fun ls hl => ?_)
      refine lv_aload_n hx hb dX6_areBy_59 rfl (lv_at hl 1 rfl) ?_
      refine lv_iload hx hb dX6_areBy_60 (lv_at hl 5 rfl) ?_
      refine kg_put (ci := 6) (v := .int v4) (ty := .int) (C := RX6) (T := TX6) (N := 30) (wz := (wMd cI cJ A (Md_set_m g3 v4))) hx hb hts hiX6 tyX6 tyX6_ok nmX6 hown hK hP hD hS 0 rfl rfl 2 (by decide) ww0 (fun _ h9 => h9) rfl (tyX6_ok 2 (by decide)) rfl rfl (Nat.le_of_ble_eq_true rfl) dX6_areBy_62 (sc_Md_m _ _ _ _ _) (fun H locs hP hD hS => ?_)
      refine lv_aload_n hx hb dX6_areBy_65 rfl (lv_at hl 1 rfl) ?_
      obtain ⟨g66, hc, hf⟩ := ob_bind hf
      have hPx := kg_eqP (kg_slf _) hP
      have hDx := kg_eqD (kg_slf _) hD
      refine kg_retWv (pre := ([] : va_W)) (wc := wMd cI cJ A (Md_set_m g3 v4)) (post := ([] : va_W)) (w1 := wMd cI cJ A g66) (wz := (wMd cI cJ A g66)) (kg_slf _).symm hPx hDx hS hA (va_runV (As := []) (rest := []) ⟨hx, hb, hml, hown, hts⟩ (c_X6_laysAllParts l dC dI cI cJ A H.size (Md_set_m g3 v4) _ hc) (cwV 0 hts (gw_V wd_19_1 wd_18_22 wd_18_23 wd_19_0 wd_1_5) rfl rfl rfl qX6_laysAllParts ⟨Nat.le_of_ble_eq_true rfl, Nat.le_of_ble_eq_true rfl⟩) (kg_preVW (ci := 6) (q := (RX6, TX6, 30)) (q0 := 0) (kg_cutP hPx) (kg_cutD hDx) hK hN rfl rfl) rfl rfl hl.1 rfl (lv_room (Nat.le_of_ble_eq_true rfl)) dX6_areBy_66 ⟨Nat.zero_le _, Nat.zero_le _⟩) (fun H locs hP hD hS => ?_)
      refine lv_aload_n hx hb dX6_areBy_69 rfl (lv_at hl 1 rfl) ?_
      refine lv_iload_n hx hb dX6_areBy_70 rfl (lv_at hl 2 rfl) ?_
      refine lv_iload_n hx hb dX6_areBy_71 rfl (lv_at hl 3 rfl) ?_
      obtain ⟨g72, hc, hf⟩ := ob_bind hf
      have hPc : va_P (dC, dI) vwCl (wMd cI cJ A g66) H := hP
      refine kg_retRi (va_runV (As := [.int v1, .int v2]) (rest := []) ⟨hx, hb, hml, hown, hts⟩ (c_X6_areSafe l dC dI cI cJ A H g66 v1 v2 _ hc) (cwV 2 hts (gw_V wd_33_6 wd_33_3 wd_33_4 wd_33_5 wd_1_5) rfl rfl rfl qX6_areSafe ⟨Nat.le_of_ble_eq_true rfl, Nat.le_of_ble_eq_true rfl⟩) (kg_preVR (ci := 6) (q := (RX6, TX6, 30)) (q0 := 0) hPc hK hN rfl rfl) rfl rfl hl.1 rfl (lv_room (Nat.le_of_ble_eq_true rfl)) dX6_areBy_72 ⟨Nat.zero_le _, Nat.zero_le _⟩) ?_
      refine lv_istore (lv' := [(6, .int (b2i g72)), (5, .int (Md_m g3)), (0, .ref (A 0)), (1, .int v1), (2, .int v2), (3, .int v3), (4, .int v4)]) hx hb dX6_areBy_75 hl (by decide) rfl (fun ls hl => ?_)
      refine lv_aload_n hx hb dX6_areBy_77 rfl (lv_at hl 2 rfl) ?_
      refine lv_iload hx hb dX6_areBy_78 (lv_at hl 1 rfl) ?_
      refine kg_put (ci := 6) (v := .int (Md_m g3)) (ty := .int) (C := RX6) (T := TX6) (N := 30) (wz := (wMd cI cJ A (Md_set_m g66 (Md_m g3)))) hx hb hts hiX6 tyX6 tyX6_ok nmX6 hown hK hP hD hS 0 rfl rfl 2 (by decide) ww0 (fun _ h9 => h9) rfl (tyX6_ok 2 (by decide)) rfl rfl (Nat.le_of_ble_eq_true rfl) dX6_areBy_80 (sc_Md_m _ _ _ _ _) (fun H locs hP hD hS => ?_)
      refine lv_iload hx hb dX6_areBy_83 (lv_at hl 0 rfl) ?_
      obtain rfl := Option.some.inj hf
      exact kg_zretW (b := g72) hx hb hr hlk rfl rfl hP hD hS dX6_areBy_85
    · refine lv_aload_n hx hb dX6_areBy_34 rfl (lv_at hl 0 rfl) ?_
      refine lv_iload_n hx hb dX6_areBy_35 rfl (lv_at hl 1 rfl) ?_
      obtain ⟨g36, hc, hf⟩ := ob_bind hf
      have hPc : va_P (dC, dI) vwCl (wMd cI cJ A g3) H := hP
      refine kg_retRi (va_runV (As := [.int v1]) (rest := []) ⟨hx, hb, hml, hown, hts⟩ (c_X6_blockAt l dC dI cI cJ A H g3 v1 _ hc) (cwV 1 hts (gw_V wd_13_13 wd_13_10 wd_13_11 wd_13_12 wd_1_5) rfl rfl rfl qX6_blockAt ⟨Nat.le_of_ble_eq_true rfl, Nat.le_of_ble_eq_true rfl⟩) (kg_preVR (ci := 6) (q := (RX6, TX6, 30)) (q0 := 0) hPc hK hN rfl rfl) rfl rfl hl.1 rfl (lv_room (Nat.le_of_ble_eq_true rfl)) dX6_areBy_36 ⟨Nat.zero_le _, Nat.zero_le _⟩) ?_
      refine lv_aload_n hx hb dX6_areBy_39 rfl (lv_at hl 0 rfl) ?_
      refine lv_iload_n hx hb dX6_areBy_40 rfl (lv_at hl 2 rfl) ?_
      obtain ⟨g41, hc, hf⟩ := ob_bind hf
      have hPc : va_P (dC, dI) vwCl (wMd cI cJ A g3) H := hP
      refine kg_retRi (va_runV (As := [.int v2]) (rest := [.int g36]) ⟨hx, hb, hml, hown, hts⟩ (c_X6_blockAt l dC dI cI cJ A H g3 v2 _ hc) (cwV 1 hts (gw_V wd_13_13 wd_13_10 wd_13_11 wd_13_12 wd_1_5) rfl rfl rfl qX6_blockAt ⟨Nat.le_of_ble_eq_true rfl, Nat.le_of_ble_eq_true rfl⟩) (kg_preVR (ci := 6) (q := (RX6, TX6, 30)) (q0 := 0) hPc hK hN rfl rfl) rfl rfl hl.1 rfl (lv_room (Nat.le_of_ble_eq_true rfl)) dX6_areBy_41 ⟨Nat.zero_le _, Nat.zero_le _⟩) ?_
      refine kg_icmp_ne (tgt := 51) hx hb hf dX6_areBy_44 (by decide) (fun hc hf => ?_) (fun hc hf => ?_)
      · refine lv_iconst (v := 0) hx hb dX6_areBy_51 (by decide) ?_
        obtain rfl := Option.some.inj hf
        exact kg_zretW (b := false) hx hb hr hlk rfl rfl hP hD hS dX6_areBy_52
      · refine lv_iconst (v := 1) hx hb dX6_areBy_47 (by decide) ?_
        refine lv_goto (tgt := 52) hx hb dX6_areBy_48 (by decide) ?_
        obtain rfl := Option.some.inj hf
        exact kg_zretW (b := true) hx hb hr hlk rfl rfl hP hD hS dX6_areBy_52
  · refine lv_aload_n hx hb dX6_areBy_10 rfl (lv_at hl 0 rfl) ?_
    refine lv_iload_n hx hb dX6_areBy_11 rfl (lv_at hl 1 rfl) ?_
    obtain ⟨g12, hc, hf⟩ := ob_bind hf
    have hPc : va_P (dC, dI) vwCl (wMd cI cJ A g3) H := hP
    refine kg_retRi (va_runV (As := [.int v1]) (rest := []) ⟨hx, hb, hml, hown, hts⟩ (c_X6_landOf l dC dI cI cJ A H g3 v1 _ hc) (cwV 1 hts (gw_V wd_13_17 wd_13_14 wd_13_15 wd_13_16 wd_1_5) rfl rfl rfl qX6_landOf ⟨Nat.le_of_ble_eq_true rfl, Nat.le_of_ble_eq_true rfl⟩) (kg_preVR (ci := 6) (q := (RX6, TX6, 30)) (q0 := 0) hPc hK hN rfl rfl) rfl rfl hl.1 rfl (lv_room (Nat.le_of_ble_eq_true rfl)) dX6_areBy_12 ⟨Nat.zero_le _, Nat.zero_le _⟩) ?_
    refine lv_aload_n hx hb dX6_areBy_15 rfl (lv_at hl 0 rfl) ?_
    refine lv_iload_n hx hb dX6_areBy_16 rfl (lv_at hl 2 rfl) ?_
    obtain ⟨g17, hc, hf⟩ := ob_bind hf
    have hPc : va_P (dC, dI) vwCl (wMd cI cJ A g3) H := hP
    refine kg_retRi (va_runV (As := [.int v2]) (rest := [.int g12]) ⟨hx, hb, hml, hown, hts⟩ (c_X6_landOf l dC dI cI cJ A H g3 v2 _ hc) (cwV 1 hts (gw_V wd_13_17 wd_13_14 wd_13_15 wd_13_16 wd_1_5) rfl rfl rfl qX6_landOf ⟨Nat.le_of_ble_eq_true rfl, Nat.le_of_ble_eq_true rfl⟩) (kg_preVR (ci := 6) (q := (RX6, TX6, 30)) (q0 := 0) hPc hK hN rfl rfl) rfl rfl hl.1 rfl (lv_room (Nat.le_of_ble_eq_true rfl)) dX6_areBy_17 ⟨Nat.zero_le _, Nat.zero_le _⟩) ?_
    refine kg_icmp_ne (tgt := 27) hx hb hf dX6_areBy_20 (by decide) (fun hc hf => ?_) (fun hc hf => ?_)
    · refine lv_iconst (v := 0) hx hb dX6_areBy_27 (by decide) ?_
      obtain rfl := Option.some.inj hf
      exact kg_zretW (b := false) hx hb hr hlk rfl rfl hP hD hS dX6_areBy_28
    · refine lv_iconst (v := 1) hx hb dX6_areBy_23 (by decide) ?_
      refine lv_goto (tgt := 28) hx hb dX6_areBy_24 (by decide) ?_
      obtain rfl := Option.some.inj hf
      exact kg_zretW (b := true) hx hb hr hlk rfl rfl hP hD hS dX6_areBy_28
set_option maxHeartbeats 4000000 in
set_option maxRecDepth 100000 in
theorem c_X6_since (l : Launch) (dC : Nat → ClassId) (dI : Nat → Nat → Nat) (cI cJ : ClassId) (A : Nat → Nat) (hq : Nat) (x : MdS) (v1 : Int32) (v2 : Int32) (v3 : Int32) (r0 : (Int32 × MdS)) (hf : Md_m_since x v1 v2 v3 = some r0) : MWi l yX6_since (wAll yX6_since cX6_since 5 (some .int)) ({ frames := 7, cells := 0, slots := 0, locals := 189 } : Room) [.ref (A 0), .int v1, .int v2, .int v3] hq (dC, dI) (vTy cI cJ) (wMd cI cJ A x) (wMd cI cJ A r0.2) r0.1 := by
  refine kg_metW (Qc := fun Q => QWi (dC, dI) Q (wMd cI cJ A r0.2) r0.1) (cc := cX6_since) (maxL := 5) (ret := (some .int)) (by decide) rfl (Nat.le_of_ble_eq_true rfl) ?_
  intro p e s m args below meth c Q hx hb hr hts hown hlk hml hP hK hN hD hA hS ls hl
  have hl : lv_has ls 5 [(0, .ref (A 0)), (1, .int v1), (2, .int v2), (3, .int v3)] := hl
  have ww0 := hts (.fieldLink RX6 71 "SafeBlocksModel" "told" "I") (List.mem_cons_of_mem _ wd_9_3)
  have ww1 := hts (.constantLong RX6 148 (2)) (List.mem_cons_of_mem _ wd_9_4)
  have ww2 := hts (.fieldLink RX6 78 "SafeBlocksModel" "m" "I") (List.mem_cons_of_mem _ wd_9_6)
  have ww3 := hts (.fieldLink RX6 20 "SafeBlocksModel" "run" "I") (List.mem_cons_of_mem _ wd_8_2)
  have hiX6 : ∀ w ∈ u_ws RX6 TX6 30, w ∈ wAll yX6_since cX6_since 5 (some .int) := fun w h => List.mem_cons_of_mem _ (inlX6 w h)
  suffices hgo : ∀ (H : Heap) (locs : List Loc), va_P (dC, dI) vwCl (wMd cI cJ A x) H → va_S Q s.heap H locs → W p l e ({ frames := 7, cells := 0, slots := 0, locals := 189 } : Room) s m args below meth c H locs 0 0 (MQ below (QWi (dC, dI) Q (wMd cI cJ A r0.2) r0.1) args s 0 0 Q) (F0 m 0 ls []) from hgo _ _ hP hS
  clear hP hS
  intro H locs hP hS
  unfold Md_m_since at hf
  refine lv_aload_n hx hb dX6_since_0 rfl (lv_at hl 0 rfl) ?_
  refine lv_iconst (v := 0) hx hb dX6_since_1 (by decide) ?_
  refine kg_put (ci := 6) (v := .int 0) (ty := .int) (C := RX6) (T := TX6) (N := 30) (wz := (wMd cI cJ A (Md_set_told x 0))) hx hb hts hiX6 tyX6 tyX6_ok nmX6 hown hK hP hD hS 0 rfl rfl 0 (by decide) ww0 (fun _ h9 => h9) rfl (tyX6_ok 0 (by decide)) rfl rfl (Nat.le_of_ble_eq_true rfl) dX6_since_2 (sc_Md_told _ _ _ _ _) (fun H locs hP hD hS => ?_)
  refine lv_aload_n hx hb dX6_since_5 rfl (lv_at hl 0 rfl) ?_
  refine lv_iload_n hx hb dX6_since_6 rfl (lv_at hl 1 rfl) ?_
  refine lv_iload_n hx hb dX6_since_7 rfl (lv_at hl 2 rfl) ?_
  obtain ⟨g8, hc, hf⟩ := ob_bind hf
  have hPc : va_P (dC, dI) vwCl (wMd cI cJ A (Md_set_told x 0)) H := hP
  refine kg_retRi (va_runV (As := [.int v1, .int v2]) (rest := []) ⟨hx, hb, hml, hown, hts⟩ (c_X6_areTwo l dC dI cI cJ A H (Md_set_told x 0) v1 v2 _ hc) (cwV 2 hts (gw_V wd_12_9 wd_12_6 wd_12_7 wd_12_8 wd_1_5) rfl rfl rfl qX6_areTwo ⟨Nat.le_of_ble_eq_true rfl, Nat.le_of_ble_eq_true rfl⟩) (kg_preVR (ci := 6) (q := (RX6, TX6, 30)) (q0 := 0) hPc hK hN rfl rfl) rfl rfl hl.1 rfl (lv_room (Nat.le_of_ble_eq_true rfl)) dX6_since_8 ⟨Nat.zero_le _, Nat.zero_le _⟩) ?_
  refine kg_b_eq (tgt := 27) hx hb hf dX6_since_11 (by decide) (fun hc hf => ?_) (fun hc hf => ?_)
  · refine lv_iconst (v := (-1)) hx hb dX6_since_27 (by decide) ?_
    obtain rfl := Option.some.inj hf
    exact kg_iretW hx hb hr hlk rfl hP hD hS dX6_since_28
  · refine lv_aload_n hx hb dX6_since_14 rfl (lv_at hl 0 rfl) ?_
    refine lv_iload_n hx hb dX6_since_15 rfl (lv_at hl 3 rfl) ?_
    refine lv_i2l hx hb dX6_since_16 rfl ?_
    refine lv_lconst (v := 0) hx hb dX6_since_17 (by decide) ?_
    refine lv_ldc2 (v := 2) hx hb hown ww1 dX6_since_18 ?_
    obtain ⟨g21, hc, hf⟩ := ob_bind hf
    have hPc : va_P (dC, dI) vwCl (wMd cI cJ A (Md_set_told x 0)) H := hP
    refine kg_retRi (va_runV (As := [.long ((v3 : Int32).toInt64), .long 0, .long 2]) (rest := []) ⟨hx, hb, hml, hown, hts⟩ (c_X6_isIn l dC dI cI cJ A H (Md_set_told x 0) ((v3 : Int32).toInt64) 0 2 _ hc) (cwV 3 hts (gw_V wd_9_10 wd_9_7 wd_9_8 wd_9_9 wd_1_5) rfl rfl rfl qX6_isIn ⟨Nat.le_of_ble_eq_true rfl, Nat.le_of_ble_eq_true rfl⟩) (kg_preVR (ci := 6) (q := (RX6, TX6, 30)) (q0 := 0) hPc hK hN rfl rfl) rfl rfl hl.1 rfl (lv_room (Nat.le_of_ble_eq_true rfl)) dX6_since_21 ⟨Nat.zero_le _, Nat.zero_le _⟩) ?_
    refine kg_b_ne (tgt := 29) hx hb hf dX6_since_24 (by decide) (fun hc hf => ?_) (fun hc hf => ?_)
    · refine lv_iconst (v := 0) hx hb dX6_since_29 (by decide) ?_
      refine lv_istore (lv' := [(4, .int 0), (0, .ref (A 0)), (1, .int v1), (2, .int v2), (3, .int v3)]) hx hb dX6_since_30 hl (by decide) rfl (fun ls hl => ?_)
      have hlp32 : ∀ (n : Nat) (x : MdS) (v4 : Int32), iter (fun p : MdS × Int32 => Md_m_since_s32 v1 v2 v3 p.1 p.2) n (x, v4) = some r0 → ∀ (H : Heap) (locs : List Loc) (ls : Array Slot), va_P (dC, dI) vwCl (wMd cI cJ A x) H → va_D Q (wMd cI cJ A x) → va_S Q s.heap H locs → lv_has ls 5 [(0, .ref (A 0)), (1, .int v1), (2, .int v2), (3, .int v3), (4, .int v4)] → W p l e ({ frames := 7, cells := 0, slots := 0, locals := 189 } : Room) s m args below meth c H locs 0 0 (MQ below (QWi (dC, dI) Q (wMd cI cJ A r0.2) r0.1) args s 0 0 Q) (F0 m 32 ls []) := by
        intro  n
        induction n with
        | zero => intro x v4 hf; exact iter_zero hf
        | succ n ih1 =>
          intro x v4 hf H locs ls hP hD hS hl
          obtain ⟨q1, hf, hk1⟩ := iter_succ hf
          have hf : Md_m_since_s32 v1 v2 v3 x v4 = some q1 := hf
          unfold Md_m_since_s32 at hf
          refine lv_iload hx hb dX6_since_32 (lv_at hl 4 rfl) ?_
          refine lv_aload_n hx hb dX6_since_34 rfl (lv_at hl 0 rfl) ?_
          refine va_get (D := (dC, dI)) (ci := 6) (v := .int (Md_m x)) (C := RX6) (T := TX6) (N := 30) hx hb hts hiX6 hown hK hP 0 rfl rfl 2 (by decide) ww2 (fun _ h9 => h9) rfl dX6_since_35 ?_
          refine kg_icmp_gt (tgt := 67) hx hb hf dX6_since_38 (by decide) (fun hc hf => ?_) (fun hc hf => ?_)
          · obtain ⟨qq, hf, hqq⟩ := omap_some hf
            have hkq : qq = r0 := by rw [← hqq] at hk1; exact hk1
            rw [hkq] at hf
            clear hkq hqq
            refine lv_iconst (v := (-1)) hx hb dX6_since_67 (by decide) ?_
            obtain rfl := Option.some.inj hf
            exact kg_iretW hx hb hr hlk rfl hP hD hS dX6_since_68
          · refine lv_aload_n hx hb dX6_since_41 rfl (lv_at hl 0 rfl) ?_
            refine lv_iconst (v := (-1)) hx hb dX6_since_42 (by decide) ?_
            refine kg_put (ci := 6) (v := .int (-1)) (ty := .int) (C := RX6) (T := TX6) (N := 30) (wz := (wMd cI cJ A (Md_set_run x (-1)))) hx hb hts hiX6 tyX6 tyX6_ok nmX6 hown hK hP hD hS 0 rfl rfl 6 (by decide) ww3 (fun _ h9 => h9) rfl (tyX6_ok 6 (by decide)) rfl rfl (Nat.le_of_ble_eq_true rfl) dX6_since_43 (sc_Md_run _ _ _ _ _) (fun H locs hP hD hS => ?_)
            refine lv_aload_n hx hb dX6_since_46 rfl (lv_at hl 0 rfl) ?_
            refine lv_iload_n hx hb dX6_since_47 rfl (lv_at hl 1 rfl) ?_
            refine lv_iload_n hx hb dX6_since_48 rfl (lv_at hl 2 rfl) ?_
            refine lv_iload_n hx hb dX6_since_49 rfl (lv_at hl 3 rfl) ?_
            refine lv_iload hx hb dX6_since_50 (lv_at hl 4 rfl) ?_
            obtain ⟨g52, hc, hf⟩ := ob_bind hf
            have hPx := kg_eqP (kg_slf _) hP
            have hDx := kg_eqD (kg_slf _) hD
            refine kg_retWi (pre := ([] : va_W)) (wc := wMd cI cJ A (Md_set_run x (-1))) (post := ([] : va_W)) (w1 := wMd cI cJ A g52.2) (wz := (wMd cI cJ A g52.2)) (kg_slf _).symm hPx hDx hS hA (va_runV (As := [.int v1, .int v2, .int v3, .int v4]) (rest := []) ⟨hx, hb, hml, hown, hts⟩ (c_X6_areBy l dC dI cI cJ A H.size (Md_set_run x (-1)) v1 v2 v3 v4 _ hc) (cwV 4 hts (gw_V wd_35_15 wd_35_12 wd_35_13 wd_35_14 wd_1_5) rfl rfl rfl qX6_areBy ⟨Nat.le_of_ble_eq_true rfl, Nat.le_of_ble_eq_true rfl⟩) (kg_preVW (ci := 6) (q := (RX6, TX6, 30)) (q0 := 0) (kg_cutP hPx) (kg_cutD hDx) hK hN rfl rfl) rfl rfl hl.1 rfl (lv_room (Nat.le_of_ble_eq_true rfl)) dX6_since_52 ⟨Nat.zero_le _, Nat.zero_le _⟩) (fun H locs hP hD hS => ?_)
            refine kg_b_eq (tgt := 61) hx hb hf dX6_since_55 (by decide) (fun hc hf => ?_) (fun hc hf => ?_)
            · refine lv_iinc (v := (v4 + 1)) (lv' := [(4, .int (v4 + 1)), (0, .ref (A 0)), (1, .int v1), (2, .int v2), (3, .int v3)]) hx hb dX6_since_61 hl (k := 4) rfl rfl (by decide) rfl (fun ls hl => ?_)
              refine lv_goto (tgt := 32) hx hb dX6_since_64 (by decide) ?_
              obtain rfl := Option.some.inj hf
              exact ih1 g52.2 (v4 + 1) hk1 _ _ _ hP hD hS (lv_sub hl [1, 2, 3, 4, 0] rfl)
            · obtain ⟨qq, hf, hqq⟩ := omap_some hf
              have hkq : qq = r0 := by rw [← hqq] at hk1; exact hk1
              rw [hkq] at hf
              clear hkq hqq
              refine lv_iload hx hb dX6_since_58 (lv_at hl 4 rfl) ?_
              obtain rfl := Option.some.inj hf
              exact kg_iretW hx hb hr hlk rfl hP hD hS dX6_since_60
      exact hlp32  FU (Md_set_told x 0) 0 hf _ _ _ hP hD hS (lv_sub hl [1, 2, 3, 4, 0] rfl)
    · refine lv_iconst (v := (-1)) hx hb dX6_since_27 (by decide) ?_
      obtain rfl := Option.some.inj hf
      exact kg_iretW hx hb hr hlk rfl hP hD hS dX6_since_28
set_option maxHeartbeats 4000000 in
set_option maxRecDepth 100000 in
theorem c_X6_would (l : Launch) (dC : Nat → ClassId) (dI : Nat → Nat → Nat) (cI cJ : ClassId) (A : Nat → Nat) (hq : Nat) (x : MdS) (v1 : Int32) (v2 : Int32) (v3 : Int32) (r0 : (Int32 × MdS)) (hf : Md_m_would x v1 v2 v3 = some r0) : MWi l yX6_would (wAll yX6_would cX6_would 6 (some .int)) ({ frames := 7, cells := 0, slots := 0, locals := 183 } : Room) [.ref (A 0), .int v1, .int v2, .int v3] hq (dC, dI) (vTy cI cJ) (wMd cI cJ A x) (wMd cI cJ A r0.2) r0.1 := by
  refine kg_metW (Qc := fun Q => QWi (dC, dI) Q (wMd cI cJ A r0.2) r0.1) (cc := cX6_would) (maxL := 6) (ret := (some .int)) (by decide) rfl (Nat.le_of_ble_eq_true rfl) ?_
  intro p e s m args below meth c Q hx hb hr hts hown hlk hml hP hK hN hD hA hS ls hl
  have hl : lv_has ls 6 [(0, .ref (A 0)), (1, .int v1), (2, .int v2), (3, .int v3)] := hl
  have ww0 := hts (.fieldLink RX6 71 "SafeBlocksModel" "told" "I") (List.mem_cons_of_mem _ wd_9_3)
  have ww1 := hts (.fieldLink RX6 7 "SafeBlocksModel" "n" "I") (List.mem_cons_of_mem _ wd_7_23)
  have hiX6 : ∀ w ∈ u_ws RX6 TX6 30, w ∈ wAll yX6_would cX6_would 6 (some .int) := fun w h => List.mem_cons_of_mem _ (inlX6 w h)
  suffices hgo : ∀ (H : Heap) (locs : List Loc), va_P (dC, dI) vwCl (wMd cI cJ A x) H → va_S Q s.heap H locs → W p l e ({ frames := 7, cells := 0, slots := 0, locals := 183 } : Room) s m args below meth c H locs 0 0 (MQ below (QWi (dC, dI) Q (wMd cI cJ A r0.2) r0.1) args s 0 0 Q) (F0 m 0 ls []) from hgo _ _ hP hS
  clear hP hS
  intro H locs hP hS
  unfold Md_m_would at hf
  refine lv_aload_n hx hb dX6_would_0 rfl (lv_at hl 0 rfl) ?_
  refine lv_iconst (v := 0) hx hb dX6_would_1 (by decide) ?_
  refine kg_put (ci := 6) (v := .int 0) (ty := .int) (C := RX6) (T := TX6) (N := 30) (wz := (wMd cI cJ A (Md_set_told x 0))) hx hb hts hiX6 tyX6 tyX6_ok nmX6 hown hK hP hD hS 0 rfl rfl 0 (by decide) ww0 (fun _ h9 => h9) rfl (tyX6_ok 0 (by decide)) rfl rfl (Nat.le_of_ble_eq_true rfl) dX6_would_2 (sc_Md_told _ _ _ _ _) (fun H locs hP hD hS => ?_)
  refine lv_aload_n hx hb dX6_would_5 rfl (lv_at hl 0 rfl) ?_
  refine lv_iload_n hx hb dX6_would_6 rfl (lv_at hl 1 rfl) ?_
  refine lv_iload_n hx hb dX6_would_7 rfl (lv_at hl 2 rfl) ?_
  obtain ⟨g8, hc, hf⟩ := ob_bind hf
  have hPc : va_P (dC, dI) vwCl (wMd cI cJ A (Md_set_told x 0)) H := hP
  refine kg_retRi (va_runV (As := [.int v1, .int v2]) (rest := []) ⟨hx, hb, hml, hown, hts⟩ (c_X6_areTwo l dC dI cI cJ A H (Md_set_told x 0) v1 v2 _ hc) (cwV 2 hts (gw_V wd_12_9 wd_12_6 wd_12_7 wd_12_8 wd_1_5) rfl rfl rfl qX6_areTwo ⟨Nat.le_of_ble_eq_true rfl, Nat.le_of_ble_eq_true rfl⟩) (kg_preVR (ci := 6) (q := (RX6, TX6, 30)) (q0 := 0) hPc hK hN rfl rfl) rfl rfl hl.1 rfl (lv_room (Nat.le_of_ble_eq_true rfl)) dX6_would_8 ⟨Nat.zero_le _, Nat.zero_le _⟩) ?_
  refine kg_b_eq (tgt := 25) hx hb hf dX6_would_11 (by decide) (fun hc hf => ?_) (fun hc hf => ?_)
  · refine lv_iconst (v := (-1)) hx hb dX6_would_25 (by decide) ?_
    obtain rfl := Option.some.inj hf
    exact kg_iretW hx hb hr hlk rfl hP hD hS dX6_would_26
  · refine lv_aload_n hx hb dX6_would_14 rfl (lv_at hl 0 rfl) ?_
    refine lv_iload_n hx hb dX6_would_15 rfl (lv_at hl 3 rfl) ?_
    refine lv_i2l hx hb dX6_would_16 rfl ?_
    refine lv_lconst (v := 0) hx hb dX6_would_17 (by decide) ?_
    refine lv_lconst (v := 1) hx hb dX6_would_18 (by decide) ?_
    obtain ⟨g19, hc, hf⟩ := ob_bind hf
    have hPc : va_P (dC, dI) vwCl (wMd cI cJ A (Md_set_told x 0)) H := hP
    refine kg_retRi (va_runV (As := [.long ((v3 : Int32).toInt64), .long 0, .long 1]) (rest := []) ⟨hx, hb, hml, hown, hts⟩ (c_X6_isIn l dC dI cI cJ A H (Md_set_told x 0) ((v3 : Int32).toInt64) 0 1 _ hc) (cwV 3 hts (gw_V wd_9_10 wd_9_7 wd_9_8 wd_9_9 wd_1_5) rfl rfl rfl qX6_isIn ⟨Nat.le_of_ble_eq_true rfl, Nat.le_of_ble_eq_true rfl⟩) (kg_preVR (ci := 6) (q := (RX6, TX6, 30)) (q0 := 0) hPc hK hN rfl rfl) rfl rfl hl.1 rfl (lv_room (Nat.le_of_ble_eq_true rfl)) dX6_would_19 ⟨Nat.zero_le _, Nat.zero_le _⟩) ?_
    refine kg_b_ne (tgt := 27) hx hb hf dX6_would_22 (by decide) (fun hc hf => ?_) (fun hc hf => ?_)
    · refine lv_aload_n hx hb dX6_would_27 rfl (lv_at hl 0 rfl) ?_
      obtain ⟨g28, hc, hf⟩ := ob_bind hf
      have hPx := kg_eqP (kg_slf _) hP
      have hDx := kg_eqD (kg_slf _) hD
      refine kg_retWv (pre := ([] : va_W)) (wc := wMd cI cJ A (Md_set_told x 0)) (post := ([] : va_W)) (w1 := wMd cI cJ A g28) (wz := (wMd cI cJ A g28)) (kg_slf _).symm hPx hDx hS hA (va_runV (As := []) (rest := []) ⟨hx, hb, hml, hown, hts⟩ (c_X6_runsAll l dC dI cI cJ A H.size (Md_set_told x 0) _ hc) (cwV 0 hts (gw_V wd_12_17 wd_12_14 wd_12_15 wd_12_16 wd_1_5) rfl rfl rfl qX6_runsAll ⟨Nat.le_of_ble_eq_true rfl, Nat.le_of_ble_eq_true rfl⟩) (kg_preVW (ci := 6) (q := (RX6, TX6, 30)) (q0 := 0) (kg_cutP hPx) (kg_cutD hDx) hK hN rfl rfl) rfl rfl hl.1 rfl (lv_room (Nat.le_of_ble_eq_true rfl)) dX6_would_28 ⟨Nat.zero_le _, Nat.zero_le _⟩) (fun H locs hP hD hS => ?_)
      refine lv_iload_n hx hb dX6_would_31 rfl (lv_at hl 3 rfl) ?_
      refine kg_if_ne (tgt := 42) hx hb hf dX6_would_32 (by decide) (fun hc hf => ?_) (fun hc hf => ?_)
      · refine lv_iconst (v := 0) hx hb dX6_would_42 (by decide) ?_
        refine lv_istore (lv' := [(4, .int 0), (0, .ref (A 0)), (1, .int v1), (2, .int v2), (3, .int v3)]) hx hb dX6_would_43 hl (by decide) rfl (fun ls hl => ?_)
        refine lv_iconst (v := 0) hx hb dX6_would_45 (by decide) ?_
        refine lv_istore (lv' := [(5, .int 0), (4, .int 0), (0, .ref (A 0)), (1, .int v1), (2, .int v2), (3, .int v3)]) hx hb dX6_would_46 hl (by decide) rfl (fun ls hl => ?_)
        have hlp48 : ∀ (x : MdS), ∀ (n : Nat) (v4 : Int32) (v5 : Int32), iter (fun p : Int32 × Int32 => Md_m_would_s48 x v1 v2 p.1 p.2) n (v4, v5) = some r0 → ∀ (H : Heap) (locs : List Loc) (ls : Array Slot), va_P (dC, dI) vwCl (wMd cI cJ A x) H → va_D Q (wMd cI cJ A x) → va_S Q s.heap H locs → lv_has ls 6 [(0, .ref (A 0)), (1, .int v1), (2, .int v2), (4, .int v4), (5, .int v5)] → W p l e ({ frames := 7, cells := 0, slots := 0, locals := 183 } : Room) s m args below meth c H locs 0 0 (MQ below (QWi (dC, dI) Q (wMd cI cJ A r0.2) r0.1) args s 0 0 Q) (F0 m 48 ls []) := by
          intro x n
          induction n with
          | zero => intro v4 v5 hf; exact iter_zero hf
          | succ n ih1 =>
            intro v4 v5 hf H locs ls hP hD hS hl
            obtain ⟨q1, hf, hk1⟩ := iter_succ hf
            have hf : Md_m_would_s48 x v1 v2 v4 v5 = some q1 := hf
            unfold Md_m_would_s48 at hf
            refine lv_iload hx hb dX6_would_48 (lv_at hl 4 rfl) ?_
            refine lv_aload_n hx hb dX6_would_50 rfl (lv_at hl 0 rfl) ?_
            refine va_get (D := (dC, dI)) (ci := 6) (v := .int (Md_n x)) (C := RX6) (T := TX6) (N := 30) hx hb hts hiX6 hown hK hP 0 rfl rfl 1 (by decide) ww1 (fun _ h9 => h9) rfl dX6_would_51 ?_
            refine kg_icmp_ge (tgt := 90) hx hb hf dX6_would_54 (by decide) (fun hc hf => ?_) (fun hc hf => ?_)
            · obtain ⟨qq, hf, hqq⟩ := omap_some hf
              have hkq : qq = r0 := by rw [← hqq] at hk1; exact hk1
              rw [hkq] at hf
              clear hkq hqq
              refine lv_iload hx hb dX6_would_90 (lv_at hl 3 rfl) ?_
              obtain rfl := Option.some.inj hf
              exact kg_iretW hx hb hr hlk rfl hP hD hS dX6_would_92
            · refine lv_aload_n hx hb dX6_would_57 rfl (lv_at hl 0 rfl) ?_
              refine lv_aload_n hx hb dX6_would_58 rfl (lv_at hl 0 rfl) ?_
              refine lv_iload_n hx hb dX6_would_59 rfl (lv_at hl 1 rfl) ?_
              refine lv_iload_n hx hb dX6_would_60 rfl (lv_at hl 2 rfl) ?_
              obtain ⟨g61, hc, hf⟩ := ob_bind hf
              have hPc : va_P (dC, dI) vwCl (wMd cI cJ A x) H := hP
              refine kg_retRi (va_runV (As := [.int v1, .int v2]) (rest := [.ref (A 0)]) ⟨hx, hb, hml, hown, hts⟩ (c_X6_blocksIf l dC dI cI cJ A H x v1 v2 _ hc) (cwV 2 hts (gw_V wd_36_21 wd_36_18 wd_36_19 wd_36_20 wd_1_5) rfl rfl rfl qX6_blocksIf ⟨Nat.le_of_ble_eq_true rfl, Nat.le_of_ble_eq_true rfl⟩) (kg_preVR (ci := 6) (q := (RX6, TX6, 30)) (q0 := 0) hPc hK hN rfl rfl) rfl rfl hl.1 rfl (lv_room (Nat.le_of_ble_eq_true rfl)) dX6_would_61 ⟨Nat.zero_le _, Nat.zero_le _⟩) ?_
              refine lv_iload hx hb dX6_would_64 (lv_at hl 4 rfl) ?_
              obtain ⟨g66, hc, hf⟩ := ob_bind hf
              have hPc : va_P (dC, dI) vwCl (wMd cI cJ A x) H := hP
              refine kg_retRi (va_runV (As := [.int g61, .int v5]) (rest := []) ⟨hx, hb, hml, hown, hts⟩ (c_X6_has l dC dI cI cJ A H x g61 v5 _ hc) (cwV 2 hts (gw_V wd_14_13 wd_14_10 wd_14_11 wd_14_12 wd_1_5) rfl rfl rfl qX6_has ⟨Nat.le_of_ble_eq_true rfl, Nat.le_of_ble_eq_true rfl⟩) (kg_preVR (ci := 6) (q := (RX6, TX6, 30)) (q0 := 0) hPc hK hN rfl rfl) rfl rfl hl.1 rfl (lv_room (Nat.le_of_ble_eq_true rfl)) dX6_would_66 ⟨Nat.zero_le _, Nat.zero_le _⟩) ?_
              refine kg_b_eq (tgt := 84) hx hb hf dX6_would_69 (by decide) (fun hc hf => ?_) (fun hc hf => ?_)
              · refine lv_iinc (v := (v5 + 1)) (lv' := [(5, .int (v5 + 1)), (0, .ref (A 0)), (1, .int v1), (2, .int v2), (4, .int v4)]) hx hb dX6_would_84 hl (k := 4) rfl rfl (by decide) rfl (fun ls hl => ?_)
                refine lv_goto (tgt := 48) hx hb dX6_would_87 (by decide) ?_
                obtain rfl := Option.some.inj hf
                exact ih1 v4 (v5 + 1) hk1 _ _ _ hP hD hS (lv_sub hl [1, 2, 3, 4, 0] rfl)
              · refine lv_iload hx hb dX6_would_72 (lv_at hl 3 rfl) ?_
                refine lv_aload_n hx hb dX6_would_74 rfl (lv_at hl 0 rfl) ?_
                refine lv_iconst (v := 0) hx hb dX6_would_75 (by decide) ?_
                refine lv_iload hx hb dX6_would_76 (lv_at hl 4 rfl) ?_
                obtain ⟨g78, hc, hf⟩ := ob_bind hf
                have hPc : va_P (dC, dI) vwCl (wMd cI cJ A x) H := hP
                refine kg_retRi (va_runV (As := [.int 0, .int v5]) (rest := [.int v4]) ⟨hx, hb, hml, hown, hts⟩ (c_X6_sizeOf l dC dI cI cJ A H x 0 v5 _ hc) (cwV 2 hts (gw_V wd_13_21 wd_13_18 wd_13_19 wd_13_20 wd_1_5) rfl rfl rfl qX6_sizeOf ⟨Nat.le_of_ble_eq_true rfl, Nat.le_of_ble_eq_true rfl⟩) (kg_preVR (ci := 6) (q := (RX6, TX6, 30)) (q0 := 0) hPc hK hN rfl rfl) rfl rfl hl.1 rfl (lv_room (Nat.le_of_ble_eq_true rfl)) dX6_would_78 ⟨Nat.zero_le _, Nat.zero_le _⟩) ?_
                refine lv_iadd hx hb dX6_would_81 ?_
                refine lv_istore (lv' := [(4, .int (v4 + g78)), (0, .ref (A 0)), (1, .int v1), (2, .int v2), (5, .int v5)]) hx hb dX6_would_82 hl (by decide) rfl (fun ls hl => ?_)
                refine lv_iinc (v := (v5 + 1)) (lv' := [(5, .int (v5 + 1)), (4, .int (v4 + g78)), (0, .ref (A 0)), (1, .int v1), (2, .int v2)]) hx hb dX6_would_84 hl (k := 4) rfl rfl (by decide) rfl (fun ls hl => ?_)
                refine lv_goto (tgt := 48) hx hb dX6_would_87 (by decide) ?_
                obtain rfl := Option.some.inj hf
                exact ih1 (v4 + g78) (v5 + 1) hk1 _ _ _ hP hD hS (lv_sub hl [2, 3, 4, 1, 0] rfl)
        exact hlp48 g28 FU 0 0 hf _ _ _ hP hD hS (lv_sub hl [2, 3, 4, 1, 0] rfl)
      · refine lv_aload_n hx hb dX6_would_35 rfl (lv_at hl 0 rfl) ?_
        refine lv_iload_n hx hb dX6_would_36 rfl (lv_at hl 1 rfl) ?_
        refine lv_iload_n hx hb dX6_would_37 rfl (lv_at hl 2 rfl) ?_
        obtain ⟨g38, hc, hf⟩ := ob_bind hf
        have hPc : va_P (dC, dI) vwCl (wMd cI cJ A g28) H := hP
        refine kg_retRi (va_runV (As := [.int v1, .int v2]) (rest := []) ⟨hx, hb, hml, hown, hts⟩ (c_X6_endedIf l dC dI cI cJ A H g28 v1 v2 _ hc) (cwV 2 hts (gw_V wd_36_17 wd_36_14 wd_36_15 wd_36_16 wd_1_5) rfl rfl rfl qX6_endedIf ⟨Nat.le_of_ble_eq_true rfl, Nat.le_of_ble_eq_true rfl⟩) (kg_preVR (ci := 6) (q := (RX6, TX6, 30)) (q0 := 0) hPc hK hN rfl rfl) rfl rfl hl.1 rfl (lv_room (Nat.le_of_ble_eq_true rfl)) dX6_would_38 ⟨Nat.zero_le _, Nat.zero_le _⟩) ?_
        obtain rfl := Option.some.inj hf
        exact kg_iretW hx hb hr hlk rfl hP hD hS dX6_would_41
    · refine lv_iconst (v := (-1)) hx hb dX6_would_25 (by decide) ?_
      obtain rfl := Option.some.inj hf
      exact kg_iretW hx hb hr hlk rfl hP hD hS dX6_would_26
set_option maxHeartbeats 4000000 in
set_option maxRecDepth 100000 in
theorem c_X6_wouldName (l : Launch) (dC : Nat → ClassId) (dI : Nat → Nat → Nat) (cI cJ : ClassId) (A : Nat → Nat) (hq : Nat) (x : MdS) (v1 : Int32) (v2 : Int32) (v3 : Int32) (r0 : (Int32 × MdS)) (hf : Md_m_wouldName x v1 v2 v3 = some r0) : MWi l yX6_wouldName (wAll yX6_wouldName cX6_wouldName 4 (some .int)) ({ frames := 7, cells := 0, slots := 0, locals := 183 } : Room) [.ref (A 0), .int v1, .int v2, .int v3] hq (dC, dI) (vTy cI cJ) (wMd cI cJ A x) (wMd cI cJ A r0.2) r0.1 := by
  refine kg_metW (Qc := fun Q => QWi (dC, dI) Q (wMd cI cJ A r0.2) r0.1) (cc := cX6_wouldName) (maxL := 4) (ret := (some .int)) (by decide) rfl (Nat.le_of_ble_eq_true rfl) ?_
  intro p e s m args below meth c Q hx hb hr hts hown hlk hml hP hK hN hD hA hS ls hl
  have hl : lv_has ls 4 [(0, .ref (A 0)), (1, .int v1), (2, .int v2), (3, .int v3)] := hl
  have ww0 := hts (.fieldLink RX6 71 "SafeBlocksModel" "told" "I") (List.mem_cons_of_mem _ wd_9_3)
  have hiX6 : ∀ w ∈ u_ws RX6 TX6 30, w ∈ wAll yX6_wouldName cX6_wouldName 4 (some .int) := fun w h => List.mem_cons_of_mem _ (inlX6 w h)
  suffices hgo : ∀ (H : Heap) (locs : List Loc), va_P (dC, dI) vwCl (wMd cI cJ A x) H → va_S Q s.heap H locs → W p l e ({ frames := 7, cells := 0, slots := 0, locals := 183 } : Room) s m args below meth c H locs 0 0 (MQ below (QWi (dC, dI) Q (wMd cI cJ A r0.2) r0.1) args s 0 0 Q) (F0 m 0 ls []) from hgo _ _ hP hS
  clear hP hS
  intro H locs hP hS
  unfold Md_m_wouldName at hf
  refine lv_aload_n hx hb dX6_wouldName_0 rfl (lv_at hl 0 rfl) ?_
  refine lv_iconst (v := 0) hx hb dX6_wouldName_1 (by decide) ?_
  refine kg_put (ci := 6) (v := .int 0) (ty := .int) (C := RX6) (T := TX6) (N := 30) (wz := (wMd cI cJ A (Md_set_told x 0))) hx hb hts hiX6 tyX6 tyX6_ok nmX6 hown hK hP hD hS 0 rfl rfl 0 (by decide) ww0 (fun _ h9 => h9) rfl (tyX6_ok 0 (by decide)) rfl rfl (Nat.le_of_ble_eq_true rfl) dX6_wouldName_2 (sc_Md_told _ _ _ _ _) (fun H locs hP hD hS => ?_)
  refine lv_aload_n hx hb dX6_wouldName_5 rfl (lv_at hl 0 rfl) ?_
  refine lv_iload_n hx hb dX6_wouldName_6 rfl (lv_at hl 1 rfl) ?_
  refine lv_iload_n hx hb dX6_wouldName_7 rfl (lv_at hl 2 rfl) ?_
  obtain ⟨g8, hc, hf⟩ := ob_bind hf
  have hPc : va_P (dC, dI) vwCl (wMd cI cJ A (Md_set_told x 0)) H := hP
  refine kg_retRi (va_runV (As := [.int v1, .int v2]) (rest := []) ⟨hx, hb, hml, hown, hts⟩ (c_X6_areTwo l dC dI cI cJ A H (Md_set_told x 0) v1 v2 _ hc) (cwV 2 hts (gw_V wd_12_9 wd_12_6 wd_12_7 wd_12_8 wd_1_5) rfl rfl rfl qX6_areTwo ⟨Nat.le_of_ble_eq_true rfl, Nat.le_of_ble_eq_true rfl⟩) (kg_preVR (ci := 6) (q := (RX6, TX6, 30)) (q0 := 0) hPc hK hN rfl rfl) rfl rfl hl.1 rfl (lv_room (Nat.le_of_ble_eq_true rfl)) dX6_wouldName_8 ⟨Nat.zero_le _, Nat.zero_le _⟩) ?_
  refine kg_b_eq (tgt := 25) hx hb hf dX6_wouldName_11 (by decide) (fun hc hf => ?_) (fun hc hf => ?_)
  · refine lv_iconst (v := (-1)) hx hb dX6_wouldName_25 (by decide) ?_
    obtain rfl := Option.some.inj hf
    exact kg_iretW hx hb hr hlk rfl hP hD hS dX6_wouldName_26
  · refine lv_aload_n hx hb dX6_wouldName_14 rfl (lv_at hl 0 rfl) ?_
    refine lv_iload_n hx hb dX6_wouldName_15 rfl (lv_at hl 3 rfl) ?_
    refine lv_i2l hx hb dX6_wouldName_16 rfl ?_
    refine lv_lconst (v := 0) hx hb dX6_wouldName_17 (by decide) ?_
    refine lv_lconst (v := 1) hx hb dX6_wouldName_18 (by decide) ?_
    obtain ⟨g19, hc, hf⟩ := ob_bind hf
    have hPc : va_P (dC, dI) vwCl (wMd cI cJ A (Md_set_told x 0)) H := hP
    refine kg_retRi (va_runV (As := [.long ((v3 : Int32).toInt64), .long 0, .long 1]) (rest := []) ⟨hx, hb, hml, hown, hts⟩ (c_X6_isIn l dC dI cI cJ A H (Md_set_told x 0) ((v3 : Int32).toInt64) 0 1 _ hc) (cwV 3 hts (gw_V wd_9_10 wd_9_7 wd_9_8 wd_9_9 wd_1_5) rfl rfl rfl qX6_isIn ⟨Nat.le_of_ble_eq_true rfl, Nat.le_of_ble_eq_true rfl⟩) (kg_preVR (ci := 6) (q := (RX6, TX6, 30)) (q0 := 0) hPc hK hN rfl rfl) rfl rfl hl.1 rfl (lv_room (Nat.le_of_ble_eq_true rfl)) dX6_wouldName_19 ⟨Nat.zero_le _, Nat.zero_le _⟩) ?_
    refine kg_b_ne (tgt := 27) hx hb hf dX6_wouldName_22 (by decide) (fun hc hf => ?_) (fun hc hf => ?_)
    · refine lv_aload_n hx hb dX6_wouldName_27 rfl (lv_at hl 0 rfl) ?_
      obtain ⟨g28, hc, hf⟩ := ob_bind hf
      have hPx := kg_eqP (kg_slf _) hP
      have hDx := kg_eqD (kg_slf _) hD
      refine kg_retWv (pre := ([] : va_W)) (wc := wMd cI cJ A (Md_set_told x 0)) (post := ([] : va_W)) (w1 := wMd cI cJ A g28) (wz := (wMd cI cJ A g28)) (kg_slf _).symm hPx hDx hS hA (va_runV (As := []) (rest := []) ⟨hx, hb, hml, hown, hts⟩ (c_X6_runsAll l dC dI cI cJ A H.size (Md_set_told x 0) _ hc) (cwV 0 hts (gw_V wd_12_17 wd_12_14 wd_12_15 wd_12_16 wd_1_5) rfl rfl rfl qX6_runsAll ⟨Nat.le_of_ble_eq_true rfl, Nat.le_of_ble_eq_true rfl⟩) (kg_preVW (ci := 6) (q := (RX6, TX6, 30)) (q0 := 0) (kg_cutP hPx) (kg_cutD hDx) hK hN rfl rfl) rfl rfl hl.1 rfl (lv_room (Nat.le_of_ble_eq_true rfl)) dX6_wouldName_28 ⟨Nat.zero_le _, Nat.zero_le _⟩) (fun H locs hP hD hS => ?_)
      refine lv_iload_n hx hb dX6_wouldName_31 rfl (lv_at hl 3 rfl) ?_
      refine kg_if_ne (tgt := 49) hx hb hf dX6_wouldName_32 (by decide) (fun hc hf => ?_) (fun hc hf => ?_)
      · refine lv_aload_n hx hb dX6_wouldName_49 rfl (lv_at hl 0 rfl) ?_
        refine lv_iconst (v := 1) hx hb dX6_wouldName_50 (by decide) ?_
        refine lv_iconst (v := 1) hx hb dX6_wouldName_51 (by decide) ?_
        refine lv_aload_n hx hb dX6_wouldName_52 rfl (lv_at hl 0 rfl) ?_
        refine lv_iload_n hx hb dX6_wouldName_53 rfl (lv_at hl 1 rfl) ?_
        obtain ⟨g54, hc, hf⟩ := ob_bind hf
        have hPc : va_P (dC, dI) vwCl (wMd cI cJ A g28) H := hP
        refine kg_retRi (va_runV (As := [.int v1]) (rest := [.int 1, .int 1, .ref (A 0)]) ⟨hx, hb, hml, hown, hts⟩ (c_X6_landOf l dC dI cI cJ A H g28 v1 _ hc) (cwV 1 hts (gw_V wd_13_17 wd_13_14 wd_13_15 wd_13_16 wd_1_5) rfl rfl rfl qX6_landOf ⟨Nat.le_of_ble_eq_true rfl, Nat.le_of_ble_eq_true rfl⟩) (kg_preVR (ci := 6) (q := (RX6, TX6, 30)) (q0 := 0) hPc hK hN rfl rfl) rfl rfl hl.1 rfl (lv_room (Nat.le_of_ble_eq_true rfl)) dX6_wouldName_54 ⟨Nat.zero_le _, Nat.zero_le _⟩) ?_
        refine lv_ishl hx hb dX6_wouldName_57 ?_
        refine lv_iconst (v := 1) hx hb dX6_wouldName_58 (by decide) ?_
        refine lv_aload_n hx hb dX6_wouldName_59 rfl (lv_at hl 0 rfl) ?_
        refine lv_iload_n hx hb dX6_wouldName_60 rfl (lv_at hl 2 rfl) ?_
        obtain ⟨g61, hc, hf⟩ := ob_bind hf
        have hPc : va_P (dC, dI) vwCl (wMd cI cJ A g28) H := hP
        refine kg_retRi (va_runV (As := [.int v2]) (rest := [.int 1, .int (1 <<< (g54 &&& 31)), .int 1, .ref (A 0)]) ⟨hx, hb, hml, hown, hts⟩ (c_X6_landOf l dC dI cI cJ A H g28 v2 _ hc) (cwV 1 hts (gw_V wd_13_17 wd_13_14 wd_13_15 wd_13_16 wd_1_5) rfl rfl rfl qX6_landOf ⟨Nat.le_of_ble_eq_true rfl, Nat.le_of_ble_eq_true rfl⟩) (kg_preVR (ci := 6) (q := (RX6, TX6, 30)) (q0 := 0) hPc hK hN rfl rfl) rfl rfl hl.1 rfl (lv_room (Nat.le_of_ble_eq_true rfl)) dX6_wouldName_61 ⟨Nat.zero_le _, Nat.zero_le _⟩) ?_
        refine lv_ishl hx hb dX6_wouldName_64 ?_
        refine lv_ior hx hb dX6_wouldName_65 ?_
        obtain ⟨g66, hc, hf⟩ := ob_bind hf
        have hPc : va_P (dC, dI) vwCl (wMd cI cJ A g28) H := hP
        refine kg_retRi (va_runV (As := [.int 1, .int ((1 <<< (g54 &&& 31)) ||| (1 <<< (g61 &&& 31)))]) (rest := []) ⟨hx, hb, hml, hown, hts⟩ (c_X6_nameIf l dC dI cI cJ A H g28 1 ((1 <<< (g54 &&& 31)) ||| (1 <<< (g61 &&& 31))) _ hc) (cwV 2 hts (gw_V wd_43_3 wd_43_0 wd_43_1 wd_43_2 wd_1_5) rfl rfl rfl qX6_nameIf ⟨Nat.le_of_ble_eq_true rfl, Nat.le_of_ble_eq_true rfl⟩) (kg_preVR (ci := 6) (q := (RX6, TX6, 30)) (q0 := 0) hPc hK hN rfl rfl) rfl rfl hl.1 rfl (lv_room (Nat.le_of_ble_eq_true rfl)) dX6_wouldName_66 ⟨Nat.zero_le _, Nat.zero_le _⟩) ?_
        obtain rfl := Option.some.inj hf
        exact kg_iretW hx hb hr hlk rfl hP hD hS dX6_wouldName_69
      · refine lv_aload_n hx hb dX6_wouldName_35 rfl (lv_at hl 0 rfl) ?_
        refine lv_iconst (v := 0) hx hb dX6_wouldName_36 (by decide) ?_
        refine lv_aload_n hx hb dX6_wouldName_37 rfl (lv_at hl 0 rfl) ?_
        refine lv_iload_n hx hb dX6_wouldName_38 rfl (lv_at hl 1 rfl) ?_
        refine lv_iload_n hx hb dX6_wouldName_39 rfl (lv_at hl 2 rfl) ?_
        obtain ⟨g40, hc, hf⟩ := ob_bind hf
        have hPc : va_P (dC, dI) vwCl (wMd cI cJ A g28) H := hP
        refine kg_retRi (va_runV (As := [.int v1, .int v2]) (rest := [.int 0, .ref (A 0)]) ⟨hx, hb, hml, hown, hts⟩ (c_X6_blocksIf l dC dI cI cJ A H g28 v1 v2 _ hc) (cwV 2 hts (gw_V wd_36_21 wd_36_18 wd_36_19 wd_36_20 wd_1_5) rfl rfl rfl qX6_blocksIf ⟨Nat.le_of_ble_eq_true rfl, Nat.le_of_ble_eq_true rfl⟩) (kg_preVR (ci := 6) (q := (RX6, TX6, 30)) (q0 := 0) hPc hK hN rfl rfl) rfl rfl hl.1 rfl (lv_room (Nat.le_of_ble_eq_true rfl)) dX6_wouldName_40 ⟨Nat.zero_le _, Nat.zero_le _⟩) ?_
        obtain ⟨g43, hc, hf⟩ := ob_bind hf
        have hPc : va_P (dC, dI) vwCl (wMd cI cJ A g28) H := hP
        refine kg_retRi (va_runV (As := [.int 0, .int g40]) (rest := []) ⟨hx, hb, hml, hown, hts⟩ (c_X6_nameIf l dC dI cI cJ A H g28 0 g40 _ hc) (cwV 2 hts (gw_V wd_43_3 wd_43_0 wd_43_1 wd_43_2 wd_1_5) rfl rfl rfl qX6_nameIf ⟨Nat.le_of_ble_eq_true rfl, Nat.le_of_ble_eq_true rfl⟩) (kg_preVR (ci := 6) (q := (RX6, TX6, 30)) (q0 := 0) hPc hK hN rfl rfl) rfl rfl hl.1 rfl (lv_room (Nat.le_of_ble_eq_true rfl)) dX6_wouldName_43 ⟨Nat.zero_le _, Nat.zero_le _⟩) ?_
        refine lv_goto (tgt := 69) hx hb dX6_wouldName_46 (by decide) ?_
        obtain rfl := Option.some.inj hf
        exact kg_iretW hx hb hr hlk rfl hP hD hS dX6_wouldName_69
    · refine lv_iconst (v := (-1)) hx hb dX6_wouldName_25 (by decide) ?_
      obtain rfl := Option.some.inj hf
      exact kg_iretW hx hb hr hlk rfl hP hD hS dX6_wouldName_26
set_option maxHeartbeats 4000000 in
set_option maxRecDepth 100000 in
theorem c_X6_best (l : Launch) (dC : Nat → ClassId) (dI : Nat → Nat → Nat) (cI cJ : ClassId) (A : Nat → Nat) (hq : Nat) (x : MdS) (v1 : Int32) (r0 : (Int32 × MdS)) (hf : Md_m_best x v1 = some r0) : MWi l yX6_best (wAll yX6_best cX6_best 7 (some .int)) ({ frames := 7, cells := 0, slots := 0, locals := 183 } : Room) [.ref (A 0), .int v1] hq (dC, dI) (vTy cI cJ) (wMd cI cJ A x) (wMd cI cJ A r0.2) r0.1 := by
  refine kg_metW (Qc := fun Q => QWi (dC, dI) Q (wMd cI cJ A r0.2) r0.1) (cc := cX6_best) (maxL := 7) (ret := (some .int)) (by decide) rfl (Nat.le_of_ble_eq_true rfl) ?_
  intro p e s m args below meth c Q hx hb hr hts hown hlk hml hP hK hN hD hA hS ls hl
  have hl : lv_has ls 7 [(0, .ref (A 0)), (1, .int v1)] := hl
  have ww0 := hts (.fieldLink RX6 71 "SafeBlocksModel" "told" "I") (List.mem_cons_of_mem _ wd_9_3)
  have ww1 := hts (.constantLong RX6 148 (2)) (List.mem_cons_of_mem _ wd_9_4)
  have ww2 := hts (.fieldLink RX6 7 "SafeBlocksModel" "n" "I") (List.mem_cons_of_mem _ wd_7_23)
  have hiX6 : ∀ w ∈ u_ws RX6 TX6 30, w ∈ wAll yX6_best cX6_best 7 (some .int) := fun w h => List.mem_cons_of_mem _ (inlX6 w h)
  suffices hgo : ∀ (H : Heap) (locs : List Loc), va_P (dC, dI) vwCl (wMd cI cJ A x) H → va_S Q s.heap H locs → W p l e ({ frames := 7, cells := 0, slots := 0, locals := 183 } : Room) s m args below meth c H locs 0 0 (MQ below (QWi (dC, dI) Q (wMd cI cJ A r0.2) r0.1) args s 0 0 Q) (F0 m 0 ls []) from hgo _ _ hP hS
  clear hP hS
  intro H locs hP hS
  unfold Md_m_best at hf
  refine lv_aload_n hx hb dX6_best_0 rfl (lv_at hl 0 rfl) ?_
  refine lv_iconst (v := 0) hx hb dX6_best_1 (by decide) ?_
  refine kg_put (ci := 6) (v := .int 0) (ty := .int) (C := RX6) (T := TX6) (N := 30) (wz := (wMd cI cJ A (Md_set_told x 0))) hx hb hts hiX6 tyX6 tyX6_ok nmX6 hown hK hP hD hS 0 rfl rfl 0 (by decide) ww0 (fun _ h9 => h9) rfl (tyX6_ok 0 (by decide)) rfl rfl (Nat.le_of_ble_eq_true rfl) dX6_best_2 (sc_Md_told _ _ _ _ _) (fun H locs hP hD hS => ?_)
  refine lv_aload_n hx hb dX6_best_5 rfl (lv_at hl 0 rfl) ?_
  refine lv_iload_n hx hb dX6_best_6 rfl (lv_at hl 1 rfl) ?_
  refine lv_i2l hx hb dX6_best_7 rfl ?_
  refine lv_lconst (v := 0) hx hb dX6_best_8 (by decide) ?_
  refine lv_ldc2 (v := 2) hx hb hown ww1 dX6_best_9 ?_
  obtain ⟨g12, hc, hf⟩ := ob_bind hf
  have hPc : va_P (dC, dI) vwCl (wMd cI cJ A (Md_set_told x 0)) H := hP
  refine kg_retRi (va_runV (As := [.long ((v1 : Int32).toInt64), .long 0, .long 2]) (rest := []) ⟨hx, hb, hml, hown, hts⟩ (c_X6_isIn l dC dI cI cJ A H (Md_set_told x 0) ((v1 : Int32).toInt64) 0 2 _ hc) (cwV 3 hts (gw_V wd_9_10 wd_9_7 wd_9_8 wd_9_9 wd_1_5) rfl rfl rfl qX6_isIn ⟨Nat.le_of_ble_eq_true rfl, Nat.le_of_ble_eq_true rfl⟩) (kg_preVR (ci := 6) (q := (RX6, TX6, 30)) (q0 := 0) hPc hK hN rfl rfl) rfl rfl hl.1 rfl (lv_room (Nat.le_of_ble_eq_true rfl)) dX6_best_12 ⟨Nat.zero_le _, Nat.zero_le _⟩) ?_
  refine kg_b_ne (tgt := 20) hx hb hf dX6_best_15 (by decide) (fun hc hf => ?_) (fun hc hf => ?_)
  · refine lv_aload_n hx hb dX6_best_20 rfl (lv_at hl 0 rfl) ?_
    obtain ⟨g21, hc, hf⟩ := ob_bind hf
    have hPx := kg_eqP (kg_slf _) hP
    have hDx := kg_eqD (kg_slf _) hD
    refine kg_retWv (pre := ([] : va_W)) (wc := wMd cI cJ A (Md_set_told x 0)) (post := ([] : va_W)) (w1 := wMd cI cJ A g21) (wz := (wMd cI cJ A g21)) (kg_slf _).symm hPx hDx hS hA (va_runV (As := []) (rest := []) ⟨hx, hb, hml, hown, hts⟩ (c_X6_runsAll l dC dI cI cJ A H.size (Md_set_told x 0) _ hc) (cwV 0 hts (gw_V wd_12_17 wd_12_14 wd_12_15 wd_12_16 wd_1_5) rfl rfl rfl qX6_runsAll ⟨Nat.le_of_ble_eq_true rfl, Nat.le_of_ble_eq_true rfl⟩) (kg_preVW (ci := 6) (q := (RX6, TX6, 30)) (q0 := 0) (kg_cutP hPx) (kg_cutD hDx) hK hN rfl rfl) rfl rfl hl.1 rfl (lv_room (Nat.le_of_ble_eq_true rfl)) dX6_best_21 ⟨Nat.zero_le _, Nat.zero_le _⟩) (fun H locs hP hD hS => ?_)
    refine lv_iconst (v := 0) hx hb dX6_best_24 (by decide) ?_
    refine lv_istore_n (lv' := [(2, .int 0), (0, .ref (A 0)), (1, .int v1)]) hx hb dX6_best_25 rfl hl (by decide) rfl (fun ls hl => ?_)
    refine lv_iconst (v := (-1)) hx hb dX6_best_26 (by decide) ?_
    refine lv_istore_n (lv' := [(3, .int (-1)), (2, .int 0), (0, .ref (A 0)), (1, .int v1)]) hx hb dX6_best_27 rfl hl (by decide) rfl (fun ls hl => ?_)
    refine lv_iconst (v := (-1)) hx hb dX6_best_28 (by decide) ?_
    refine lv_istore (lv' := [(4, .int (-1)), (3, .int (-1)), (2, .int 0), (0, .ref (A 0)), (1, .int v1)]) hx hb dX6_best_29 hl (by decide) rfl (fun ls hl => ?_)
    refine lv_iconst (v := 0) hx hb dX6_best_31 (by decide) ?_
    refine lv_istore (lv' := [(5, .int 0), (4, .int (-1)), (3, .int (-1)), (2, .int 0), (0, .ref (A 0)), (1, .int v1)]) hx hb dX6_best_32 hl (by decide) rfl (fun ls hl => ?_)
    have hlp34 : ∀ (x : MdS), ∀ (n : Nat) (v2 : Int32) (v3 : Int32) (v4 : Int32) (v5 : Int32), iter (fun p : Int32 × Int32 × Int32 × Int32 => Md_m_best_s34 x v1 p.1 p.2.1 p.2.2.1 p.2.2.2) n (v2, v3, v4, v5) = some r0 → ∀ (H : Heap) (locs : List Loc) (ls : Array Slot), va_P (dC, dI) vwCl (wMd cI cJ A x) H → va_D Q (wMd cI cJ A x) → va_S Q s.heap H locs → lv_has ls 7 [(0, .ref (A 0)), (1, .int v1), (2, .int v2), (3, .int v3), (4, .int v4), (5, .int v5)] → W p l e ({ frames := 7, cells := 0, slots := 0, locals := 183 } : Room) s m args below meth c H locs 0 0 (MQ below (QWi (dC, dI) Q (wMd cI cJ A r0.2) r0.1) args s 0 0 Q) (F0 m 34 ls []) := by
      intro x n
      induction n with
      | zero => intro v2 v3 v4 v5 hf; exact iter_zero hf
      | succ n ih1 =>
        intro v2 v3 v4 v5 hf H locs ls hP hD hS hl
        obtain ⟨q1, hf, hk1⟩ := iter_succ hf
        have hf : Md_m_best_s34 x v1 v2 v3 v4 v5 = some q1 := hf
        unfold Md_m_best_s34 at hf
        refine lv_iload hx hb dX6_best_34 (lv_at hl 5 rfl) ?_
        refine lv_aload_n hx hb dX6_best_36 rfl (lv_at hl 0 rfl) ?_
        refine va_get (D := (dC, dI)) (ci := 6) (v := .int (Md_n x)) (C := RX6) (T := TX6) (N := 30) hx hb hts hiX6 hown hK hP 0 rfl rfl 1 (by decide) ww2 (fun _ h9 => h9) rfl dX6_best_37 ?_
        refine kg_icmp_ge (tgt := 101) hx hb hf dX6_best_40 (by decide) (fun hc hf => ?_) (fun hc hf => ?_)
        · obtain ⟨qq, hf, hqq⟩ := omap_some hf
          have hkq : qq = r0 := by rw [← hqq] at hk1; exact hk1
          rw [hkq] at hf
          clear hkq hqq
          refine lv_iload_n hx hb dX6_best_101 rfl (lv_at hl 2 rfl) ?_
          refine kg_if_ne (tgt := 107) hx hb hf dX6_best_102 (by decide) (fun hc hf => ?_) (fun hc hf => ?_)
          · refine lv_iload_n hx hb dX6_best_107 rfl (lv_at hl 1 rfl) ?_
            refine kg_if_ne (tgt := 115) hx hb hf dX6_best_108 (by decide) (fun hc hf => ?_) (fun hc hf => ?_)
            · refine lv_iload_n hx hb dX6_best_115 rfl (lv_at hl 1 rfl) ?_
              refine lv_iconst (v := 1) hx hb dX6_best_116 (by decide) ?_
              refine kg_icmp_ne (tgt := 124) hx hb hf dX6_best_117 (by decide) (fun hc hf => ?_) (fun hc hf => ?_)
              · refine lv_iload hx hb dX6_best_124 (lv_at hl 4 rfl) ?_
                obtain rfl := Option.some.inj hf
                exact kg_iretW hx hb hr hlk rfl hP hD hS dX6_best_126
              · refine lv_iload_n hx hb dX6_best_120 rfl (lv_at hl 3 rfl) ?_
                refine lv_goto (tgt := 126) hx hb dX6_best_121 (by decide) ?_
                obtain rfl := Option.some.inj hf
                exact kg_iretW hx hb hr hlk rfl hP hD hS dX6_best_126
            · refine lv_iload_n hx hb dX6_best_111 rfl (lv_at hl 2 rfl) ?_
              refine lv_goto (tgt := 126) hx hb dX6_best_112 (by decide) ?_
              obtain rfl := Option.some.inj hf
              exact kg_iretW hx hb hr hlk rfl hP hD hS dX6_best_126
          · refine lv_iconst (v := (-1)) hx hb dX6_best_105 (by decide) ?_
            obtain rfl := Option.some.inj hf
            exact kg_iretW hx hb hr hlk rfl hP hD hS dX6_best_106
        · refine lv_iload hx hb dX6_best_43 (lv_at hl 5 rfl) ?_
          refine lv_iconst (v := 1) hx hb dX6_best_45 (by decide) ?_
          refine lv_iadd hx hb dX6_best_46 ?_
          refine lv_istore (lv' := [(6, .int (v5 + 1)), (0, .ref (A 0)), (1, .int v1), (2, .int v2), (3, .int v3), (4, .int v4), (5, .int v5)]) hx hb dX6_best_47 hl (by decide) rfl (fun ls hl => ?_)
          have hlp49 : ∀ (v5 : Int32), ∀ (n : Nat) (v2 : Int32) (v3 : Int32) (v4 : Int32) (v6 : Int32), iter (fun p : Int32 × Int32 × Int32 × Int32 => Md_m_best_s49 x v1 v5 p.1 p.2.1 p.2.2.1 p.2.2.2) n (v2, v3, v4, v6) = some q1 → ∀ (H : Heap) (locs : List Loc) (ls : Array Slot), va_P (dC, dI) vwCl (wMd cI cJ A x) H → va_D Q (wMd cI cJ A x) → va_S Q s.heap H locs → lv_has ls 7 [(0, .ref (A 0)), (1, .int v1), (2, .int v2), (3, .int v3), (4, .int v4), (5, .int v5), (6, .int v6)] → W p l e ({ frames := 7, cells := 0, slots := 0, locals := 183 } : Room) s m args below meth c H locs 0 0 (MQ below (QWi (dC, dI) Q (wMd cI cJ A r0.2) r0.1) args s 0 0 Q) (F0 m 49 ls []) := by
            intro v5 n
            induction n with
            | zero => intro v2 v3 v4 v6 hf; exact iter_zero hf
            | succ n ih2 =>
              intro v2 v3 v4 v6 hf H locs ls hP hD hS hl
              obtain ⟨q2, hf, hk2⟩ := iter_succ hf
              have hf : Md_m_best_s49 x v1 v5 v2 v3 v4 v6 = some q2 := hf
              unfold Md_m_best_s49 at hf
              refine lv_iload hx hb dX6_best_49 (lv_at hl 6 rfl) ?_
              refine lv_aload_n hx hb dX6_best_51 rfl (lv_at hl 0 rfl) ?_
              refine va_get (D := (dC, dI)) (ci := 6) (v := .int (Md_n x)) (C := RX6) (T := TX6) (N := 30) hx hb hts hiX6 hown hK hP 0 rfl rfl 1 (by decide) ww2 (fun _ h9 => h9) rfl dX6_best_52 ?_
              refine kg_icmp_ge (tgt := 95) hx hb hf dX6_best_55 (by decide) (fun hc hf => ?_) (fun hc hf => ?_)
              · obtain ⟨qq, hf, hqq⟩ := omap_some hf
                have hkq : qq = q1 := by rw [← hqq] at hk2; exact hk2
                rw [hkq] at hf
                clear hkq hqq
                refine lv_iinc (v := (v5 + 1)) (lv' := [(5, .int (v5 + 1)), (0, .ref (A 0)), (1, .int v1), (2, .int v2), (3, .int v3), (4, .int v4), (6, .int v6)]) hx hb dX6_best_95 hl (k := 5) rfl rfl (by decide) rfl (fun ls hl => ?_)
                refine lv_goto (tgt := 34) hx hb dX6_best_98 (by decide) ?_
                obtain rfl := Option.some.inj hf
                exact ih1 v2 v3 v4 (v5 + 1) hk1 _ _ _ hP hD hS (lv_sub hl [1, 2, 3, 4, 5, 0] rfl)
              · refine lv_aload_n hx hb dX6_best_58 rfl (lv_at hl 0 rfl) ?_
                refine lv_iload hx hb dX6_best_59 (lv_at hl 5 rfl) ?_
                refine lv_iload hx hb dX6_best_61 (lv_at hl 6 rfl) ?_
                obtain ⟨g63, hc, hf⟩ := ob_bind hf
                have hPc : va_P (dC, dI) vwCl (wMd cI cJ A x) H := hP
                refine kg_retRi (va_runV (As := [.int v5, .int v6]) (rest := []) ⟨hx, hb, hml, hown, hts⟩ (c_X6_endedIf l dC dI cI cJ A H x v5 v6 _ hc) (cwV 2 hts (gw_V wd_36_17 wd_36_14 wd_36_15 wd_36_16 wd_1_5) rfl rfl rfl qX6_endedIf ⟨Nat.le_of_ble_eq_true rfl, Nat.le_of_ble_eq_true rfl⟩) (kg_preVR (ci := 6) (q := (RX6, TX6, 30)) (q0 := 0) hPc hK hN rfl rfl) rfl rfl hl.1 rfl (lv_room (Nat.le_of_ble_eq_true rfl)) dX6_best_63 ⟨Nat.zero_le _, Nat.zero_le _⟩) ?_
                refine lv_iload_n hx hb dX6_best_66 rfl (lv_at hl 2 rfl) ?_
                refine kg_icmp_gt (tgt := 73) hx hb hf dX6_best_67 (by decide) (fun hc hf => ?_) (fun hc hf => ?_)
                · refine lv_aload_n hx hb dX6_best_73 rfl (lv_at hl 0 rfl) ?_
                  refine lv_iload hx hb dX6_best_74 (lv_at hl 5 rfl) ?_
                  refine lv_iload hx hb dX6_best_76 (lv_at hl 6 rfl) ?_
                  obtain ⟨g78, hc, hf⟩ := ob_bind hf
                  have hPc : va_P (dC, dI) vwCl (wMd cI cJ A x) H := hP
                  refine kg_retRi (va_runV (As := [.int v5, .int v6]) (rest := []) ⟨hx, hb, hml, hown, hts⟩ (c_X6_endedIf l dC dI cI cJ A H x v5 v6 _ hc) (cwV 2 hts (gw_V wd_36_17 wd_36_14 wd_36_15 wd_36_16 wd_1_5) rfl rfl rfl qX6_endedIf ⟨Nat.le_of_ble_eq_true rfl, Nat.le_of_ble_eq_true rfl⟩) (kg_preVR (ci := 6) (q := (RX6, TX6, 30)) (q0 := 0) hPc hK hN rfl rfl) rfl rfl hl.1 rfl (lv_room (Nat.le_of_ble_eq_true rfl)) dX6_best_78 ⟨Nat.zero_le _, Nat.zero_le _⟩) ?_
                  refine lv_istore_n (lv' := [(2, .int g78), (0, .ref (A 0)), (1, .int v1), (3, .int v3), (4, .int v4), (5, .int v5), (6, .int v6)]) hx hb dX6_best_81 rfl hl (by decide) rfl (fun ls hl => ?_)
                  refine lv_iload hx hb dX6_best_82 (lv_at hl 5 rfl) ?_
                  refine lv_istore_n (lv' := [(3, .int v5), (2, .int g78), (0, .ref (A 0)), (1, .int v1), (4, .int v4), (5, .int v5), (6, .int v6)]) hx hb dX6_best_84 rfl hl (by decide) rfl (fun ls hl => ?_)
                  refine lv_iload hx hb dX6_best_85 (lv_at hl 6 rfl) ?_
                  refine lv_istore (lv' := [(4, .int v6), (3, .int v5), (2, .int g78), (0, .ref (A 0)), (1, .int v1), (5, .int v5), (6, .int v6)]) hx hb dX6_best_87 hl (by decide) rfl (fun ls hl => ?_)
                  refine lv_iinc (v := (v6 + 1)) (lv' := [(6, .int (v6 + 1)), (4, .int v6), (3, .int v5), (2, .int g78), (0, .ref (A 0)), (1, .int v1), (5, .int v5)]) hx hb dX6_best_89 hl (k := 6) rfl rfl (by decide) rfl (fun ls hl => ?_)
                  refine lv_goto (tgt := 49) hx hb dX6_best_92 (by decide) ?_
                  obtain rfl := Option.some.inj hf
                  exact ih2 g78 v5 v6 (v6 + 1) hk2 _ _ _ hP hD hS (lv_sub hl [4, 5, 3, 2, 1, 6, 0] rfl)
                · refine lv_goto (tgt := 89) hx hb dX6_best_70 (by decide) ?_
                  refine lv_iinc (v := (v6 + 1)) (lv' := [(6, .int (v6 + 1)), (0, .ref (A 0)), (1, .int v1), (2, .int v2), (3, .int v3), (4, .int v4), (5, .int v5)]) hx hb dX6_best_89 hl (k := 6) rfl rfl (by decide) rfl (fun ls hl => ?_)
                  refine lv_goto (tgt := 49) hx hb dX6_best_92 (by decide) ?_
                  obtain rfl := Option.some.inj hf
                  exact ih2 v2 v3 v4 (v6 + 1) hk2 _ _ _ hP hD hS (lv_sub hl [1, 2, 3, 4, 5, 6, 0] rfl)
          exact hlp49 v5 FU v2 v3 v4 (v5 + 1) hf _ _ _ hP hD hS (lv_sub hl [1, 2, 3, 4, 5, 6, 0] rfl)
    exact hlp34 g21 FU 0 (-1) (-1) 0 hf _ _ _ hP hD hS (lv_sub hl [4, 5, 3, 2, 1, 0] rfl)
  · refine lv_iconst (v := (-1)) hx hb dX6_best_18 (by decide) ?_
    obtain rfl := Option.some.inj hf
    exact kg_iretW hx hb hr hlk rfl hP hD hS dX6_best_19
set_option maxHeartbeats 4000000 in
set_option maxRecDepth 100000 in
theorem c_X6_worst (l : Launch) (dC : Nat → ClassId) (dI : Nat → Nat → Nat) (cI cJ : ClassId) (A : Nat → Nat) (hq : Nat) (x : MdS) (v1 : Int32) (r0 : (Int32 × MdS)) (hf : Md_m_worst x v1 = some r0) : MWi l yX6_worst (wAll yX6_worst cX6_worst 6 (some .int)) ({ frames := 7, cells := 0, slots := 0, locals := 183 } : Room) [.ref (A 0), .int v1] hq (dC, dI) (vTy cI cJ) (wMd cI cJ A x) (wMd cI cJ A r0.2) r0.1 := by
  refine kg_metW (Qc := fun Q => QWi (dC, dI) Q (wMd cI cJ A r0.2) r0.1) (cc := cX6_worst) (maxL := 6) (ret := (some .int)) (by decide) rfl (Nat.le_of_ble_eq_true rfl) ?_
  intro p e s m args below meth c Q hx hb hr hts hown hlk hml hP hK hN hD hA hS ls hl
  have hl : lv_has ls 6 [(0, .ref (A 0)), (1, .int v1)] := hl
  have ww0 := hts (.fieldLink RX6 71 "SafeBlocksModel" "told" "I") (List.mem_cons_of_mem _ wd_9_3)
  have ww1 := hts (.fieldLink RX6 78 "SafeBlocksModel" "m" "I") (List.mem_cons_of_mem _ wd_9_6)
  have ww2 := hts (.fieldLink RX6 13 "SafeBlocksModel" "first" "[I") (List.mem_cons_of_mem _ wd_8_0)
  have ww3 := hts (.fieldLink RX6 17 "SafeBlocksModel" "second" "[I") (List.mem_cons_of_mem _ wd_8_1)
  have hiX6 : ∀ w ∈ u_ws RX6 TX6 30, w ∈ wAll yX6_worst cX6_worst 6 (some .int) := fun w h => List.mem_cons_of_mem _ (inlX6 w h)
  suffices hgo : ∀ (H : Heap) (locs : List Loc), va_P (dC, dI) vwCl (wMd cI cJ A x) H → va_S Q s.heap H locs → W p l e ({ frames := 7, cells := 0, slots := 0, locals := 183 } : Room) s m args below meth c H locs 0 0 (MQ below (QWi (dC, dI) Q (wMd cI cJ A r0.2) r0.1) args s 0 0 Q) (F0 m 0 ls []) from hgo _ _ hP hS
  clear hP hS
  intro H locs hP hS
  unfold Md_m_worst at hf
  refine lv_aload_n hx hb dX6_worst_0 rfl (lv_at hl 0 rfl) ?_
  refine lv_iconst (v := 0) hx hb dX6_worst_1 (by decide) ?_
  refine kg_put (ci := 6) (v := .int 0) (ty := .int) (C := RX6) (T := TX6) (N := 30) (wz := (wMd cI cJ A (Md_set_told x 0))) hx hb hts hiX6 tyX6 tyX6_ok nmX6 hown hK hP hD hS 0 rfl rfl 0 (by decide) ww0 (fun _ h9 => h9) rfl (tyX6_ok 0 (by decide)) rfl rfl (Nat.le_of_ble_eq_true rfl) dX6_worst_2 (sc_Md_told _ _ _ _ _) (fun H locs hP hD hS => ?_)
  refine lv_aload_n hx hb dX6_worst_5 rfl (lv_at hl 0 rfl) ?_
  refine lv_iload_n hx hb dX6_worst_6 rfl (lv_at hl 1 rfl) ?_
  refine lv_i2l hx hb dX6_worst_7 rfl ?_
  refine lv_lconst (v := 0) hx hb dX6_worst_8 (by decide) ?_
  refine lv_lconst (v := 1) hx hb dX6_worst_9 (by decide) ?_
  obtain ⟨g10, hc, hf⟩ := ob_bind hf
  have hPc : va_P (dC, dI) vwCl (wMd cI cJ A (Md_set_told x 0)) H := hP
  refine kg_retRi (va_runV (As := [.long ((v1 : Int32).toInt64), .long 0, .long 1]) (rest := []) ⟨hx, hb, hml, hown, hts⟩ (c_X6_isIn l dC dI cI cJ A H (Md_set_told x 0) ((v1 : Int32).toInt64) 0 1 _ hc) (cwV 3 hts (gw_V wd_9_10 wd_9_7 wd_9_8 wd_9_9 wd_1_5) rfl rfl rfl qX6_isIn ⟨Nat.le_of_ble_eq_true rfl, Nat.le_of_ble_eq_true rfl⟩) (kg_preVR (ci := 6) (q := (RX6, TX6, 30)) (q0 := 0) hPc hK hN rfl rfl) rfl rfl hl.1 rfl (lv_room (Nat.le_of_ble_eq_true rfl)) dX6_worst_10 ⟨Nat.zero_le _, Nat.zero_le _⟩) ?_
  refine kg_b_ne (tgt := 18) hx hb hf dX6_worst_13 (by decide) (fun hc hf => ?_) (fun hc hf => ?_)
  · refine lv_aload_n hx hb dX6_worst_18 rfl (lv_at hl 0 rfl) ?_
    obtain ⟨g19, hc, hf⟩ := ob_bind hf
    have hPx := kg_eqP (kg_slf _) hP
    have hDx := kg_eqD (kg_slf _) hD
    refine kg_retWv (pre := ([] : va_W)) (wc := wMd cI cJ A (Md_set_told x 0)) (post := ([] : va_W)) (w1 := wMd cI cJ A g19) (wz := (wMd cI cJ A g19)) (kg_slf _).symm hPx hDx hS hA (va_runV (As := []) (rest := []) ⟨hx, hb, hml, hown, hts⟩ (c_X6_runsAll l dC dI cI cJ A H.size (Md_set_told x 0) _ hc) (cwV 0 hts (gw_V wd_12_17 wd_12_14 wd_12_15 wd_12_16 wd_1_5) rfl rfl rfl qX6_runsAll ⟨Nat.le_of_ble_eq_true rfl, Nat.le_of_ble_eq_true rfl⟩) (kg_preVW (ci := 6) (q := (RX6, TX6, 30)) (q0 := 0) (kg_cutP hPx) (kg_cutD hDx) hK hN rfl rfl) rfl rfl hl.1 rfl (lv_room (Nat.le_of_ble_eq_true rfl)) dX6_worst_19 ⟨Nat.zero_le _, Nat.zero_le _⟩) (fun H locs hP hD hS => ?_)
    refine lv_iconst (v := (-1)) hx hb dX6_worst_22 (by decide) ?_
    refine lv_istore_n (lv' := [(2, .int (-1)), (0, .ref (A 0)), (1, .int v1)]) hx hb dX6_worst_23 rfl hl (by decide) rfl (fun ls hl => ?_)
    refine lv_iconst (v := (-1)) hx hb dX6_worst_24 (by decide) ?_
    refine lv_istore_n (lv' := [(3, .int (-1)), (2, .int (-1)), (0, .ref (A 0)), (1, .int v1)]) hx hb dX6_worst_25 rfl hl (by decide) rfl (fun ls hl => ?_)
    refine lv_iconst (v := 0) hx hb dX6_worst_26 (by decide) ?_
    refine lv_istore (lv' := [(4, .int 0), (3, .int (-1)), (2, .int (-1)), (0, .ref (A 0)), (1, .int v1)]) hx hb dX6_worst_27 hl (by decide) rfl (fun ls hl => ?_)
    have hlp29 : ∀ (x : MdS), ∀ (n : Nat) (v2 : Int32) (v3 : Int32) (v4 : Int32), iter (fun p : Int32 × Int32 × Int32 => Md_m_worst_s29 x v1 p.1 p.2.1 p.2.2) n (v2, v3, v4) = some r0 → ∀ (H : Heap) (locs : List Loc) (ls : Array Slot), va_P (dC, dI) vwCl (wMd cI cJ A x) H → va_D Q (wMd cI cJ A x) → va_S Q s.heap H locs → lv_has ls 6 [(0, .ref (A 0)), (1, .int v1), (2, .int v2), (3, .int v3), (4, .int v4)] → W p l e ({ frames := 7, cells := 0, slots := 0, locals := 183 } : Room) s m args below meth c H locs 0 0 (MQ below (QWi (dC, dI) Q (wMd cI cJ A r0.2) r0.1) args s 0 0 Q) (F0 m 29 ls []) := by
      intro x n
      induction n with
      | zero => intro v2 v3 v4 hf; exact iter_zero hf
      | succ n ih1 =>
        intro v2 v3 v4 hf H locs ls hP hD hS hl
        obtain ⟨q1, hf, hk1⟩ := iter_succ hf
        have hf : Md_m_worst_s29 x v1 v2 v3 v4 = some q1 := hf
        unfold Md_m_worst_s29 at hf
        refine lv_iload hx hb dX6_worst_29 (lv_at hl 4 rfl) ?_
        refine lv_aload_n hx hb dX6_worst_31 rfl (lv_at hl 0 rfl) ?_
        refine va_get (D := (dC, dI)) (ci := 6) (v := .int (Md_m x)) (C := RX6) (T := TX6) (N := 30) hx hb hts hiX6 hown hK hP 0 rfl rfl 2 (by decide) ww1 (fun _ h9 => h9) rfl dX6_worst_32 ?_
        refine kg_icmp_ge (tgt := 100) hx hb hf dX6_worst_35 (by decide) (fun hc hf => ?_) (fun hc hf => ?_)
        · obtain ⟨qq, hf, hqq⟩ := omap_some hf
          have hkq : qq = r0 := by rw [← hqq] at hk1; exact hk1
          rw [hkq] at hf
          clear hkq hqq
          refine lv_iload_n hx hb dX6_worst_100 rfl (lv_at hl 1 rfl) ?_
          refine kg_if_ne (tgt := 108) hx hb hf dX6_worst_101 (by decide) (fun hc hf => ?_) (fun hc hf => ?_)
          · refine lv_iload_n hx hb dX6_worst_108 rfl (lv_at hl 2 rfl) ?_
            obtain rfl := Option.some.inj hf
            exact kg_iretW hx hb hr hlk rfl hP hD hS dX6_worst_109
          · refine lv_iload_n hx hb dX6_worst_104 rfl (lv_at hl 3 rfl) ?_
            refine lv_goto (tgt := 109) hx hb dX6_worst_105 (by decide) ?_
            obtain rfl := Option.some.inj hf
            exact kg_iretW hx hb hr hlk rfl hP hD hS dX6_worst_109
        · refine lv_aload_n hx hb dX6_worst_38 rfl (lv_at hl 0 rfl) ?_
          refine lv_iload hx hb dX6_worst_39 (lv_at hl 4 rfl) ?_
          obtain ⟨g41, hc, hf⟩ := ob_bind hf
          have hPc : va_P (dC, dI) vwCl (wMd cI cJ A x) H := hP
          refine kg_retRi (va_runV (As := [.int v4]) (rest := []) ⟨hx, hb, hml, hown, hts⟩ (c_X6_isBridge l dC dI cI cJ A H x v4 _ hc) (cwV 1 hts (gw_V wd_18_21 wd_18_18 wd_18_19 wd_18_20 wd_1_5) rfl rfl rfl qX6_isBridge ⟨Nat.le_of_ble_eq_true rfl, Nat.le_of_ble_eq_true rfl⟩) (kg_preVR (ci := 6) (q := (RX6, TX6, 30)) (q0 := 0) hPc hK hN rfl rfl) rfl rfl hl.1 rfl (lv_room (Nat.le_of_ble_eq_true rfl)) dX6_worst_41 ⟨Nat.zero_le _, Nat.zero_le _⟩) ?_
          refine kg_b_ne (tgt := 50) hx hb hf dX6_worst_44 (by decide) (fun hc hf => ?_) (fun hc hf => ?_)
          · refine lv_aload_n hx hb dX6_worst_50 rfl (lv_at hl 0 rfl) ?_
            refine lv_iload hx hb dX6_worst_51 (lv_at hl 4 rfl) ?_
            refine lv_aload_n hx hb dX6_worst_53 rfl (lv_at hl 0 rfl) ?_
            refine va_get (D := (dC, dI)) (ci := 6) (v := .ref (A 1)) (C := RX6) (T := TX6) (N := 30) hx hb hts hiX6 hown hK hP 0 rfl rfl 4 (by decide) ww2 (fun _ h9 => h9) rfl dX6_worst_54 ?_
            refine lv_iload hx hb dX6_worst_57 (lv_at hl 4 rfl) ?_
            obtain ⟨g59, hv, hf⟩ := ob_bind hf
            refine kg_iald hx hb hK hP 1 0 rfl rfl hv dX6_worst_59 ?_
            obtain ⟨g60, hc, hf⟩ := ob_bind hf
            have hPc : va_P (dC, dI) vwCl (wMd cI cJ A x) H := hP
            refine kg_retRi (va_runV (As := [.int v4, .int g59]) (rest := []) ⟨hx, hb, hml, hown, hts⟩ (c_X6_side l dC dI cI cJ A H x v4 g59 _ hc) (cwV 2 hts (gw_V wd_20_9 wd_20_6 wd_20_7 wd_20_8 wd_1_5) rfl rfl rfl qX6_side ⟨Nat.le_of_ble_eq_true rfl, Nat.le_of_ble_eq_true rfl⟩) (kg_preVR (ci := 6) (q := (RX6, TX6, 30)) (q0 := 0) hPc hK hN rfl rfl) rfl rfl hl.1 rfl (lv_room (Nat.le_of_ble_eq_true rfl)) dX6_worst_60 ⟨Nat.zero_le _, Nat.zero_le _⟩) ?_
            refine lv_aload_n hx hb dX6_worst_63 rfl (lv_at hl 0 rfl) ?_
            refine lv_iload hx hb dX6_worst_64 (lv_at hl 4 rfl) ?_
            refine lv_aload_n hx hb dX6_worst_66 rfl (lv_at hl 0 rfl) ?_
            refine va_get (D := (dC, dI)) (ci := 6) (v := .ref (A 2)) (C := RX6) (T := TX6) (N := 30) hx hb hts hiX6 hown hK hP 0 rfl rfl 5 (by decide) ww3 (fun _ h9 => h9) rfl dX6_worst_67 ?_
            refine lv_iload hx hb dX6_worst_70 (lv_at hl 4 rfl) ?_
            obtain ⟨g72, hv, hf⟩ := ob_bind hf
            refine kg_iald hx hb hK hP 2 0 rfl rfl hv dX6_worst_72 ?_
            obtain ⟨g73, hc, hf⟩ := ob_bind hf
            have hPc : va_P (dC, dI) vwCl (wMd cI cJ A x) H := hP
            refine kg_retRi (va_runV (As := [.int v4, .int g72]) (rest := [.int g60]) ⟨hx, hb, hml, hown, hts⟩ (c_X6_side l dC dI cI cJ A H x v4 g72 _ hc) (cwV 2 hts (gw_V wd_20_9 wd_20_6 wd_20_7 wd_20_8 wd_1_5) rfl rfl rfl qX6_side ⟨Nat.le_of_ble_eq_true rfl, Nat.le_of_ble_eq_true rfl⟩) (kg_preVR (ci := 6) (q := (RX6, TX6, 30)) (q0 := 0) hPc hK hN rfl rfl) rfl rfl hl.1 rfl (lv_room (Nat.le_of_ble_eq_true rfl)) dX6_worst_73 ⟨Nat.zero_le _, Nat.zero_le _⟩) ?_
            refine lv_imul hx hb dX6_worst_76 ?_
            refine lv_istore (lv' := [(5, .int (g60 * g73)), (0, .ref (A 0)), (1, .int v1), (2, .int v2), (3, .int v3), (4, .int v4)]) hx hb dX6_worst_77 hl (by decide) rfl (fun ls hl => ?_)
            refine lv_iload hx hb dX6_worst_79 (lv_at hl 0 rfl) ?_
            refine lv_iload_n hx hb dX6_worst_81 rfl (lv_at hl 3 rfl) ?_
            refine kg_icmp_gt (tgt := 88) hx hb hf dX6_worst_82 (by decide) (fun hc hf => ?_) (fun hc hf => ?_)
            · refine lv_iload hx hb dX6_worst_88 (lv_at hl 0 rfl) ?_
              refine lv_istore_n (lv' := [(2, .int (g60 * g73)), (5, .int (g60 * g73)), (0, .ref (A 0)), (1, .int v1), (3, .int v3), (4, .int v4)]) hx hb dX6_worst_90 rfl hl (by decide) rfl (fun ls hl => ?_)
              refine lv_iload hx hb dX6_worst_91 (lv_at hl 5 rfl) ?_
              refine lv_istore_n (lv' := [(3, .int v4), (2, .int (g60 * g73)), (5, .int (g60 * g73)), (0, .ref (A 0)), (1, .int v1), (4, .int v4)]) hx hb dX6_worst_93 rfl hl (by decide) rfl (fun ls hl => ?_)
              refine lv_iinc (v := (v4 + 1)) (lv' := [(4, .int (v4 + 1)), (3, .int v4), (2, .int (g60 * g73)), (5, .int (g60 * g73)), (0, .ref (A 0)), (1, .int v1)]) hx hb dX6_worst_94 hl (k := 5) rfl rfl (by decide) rfl (fun ls hl => ?_)
              refine lv_goto (tgt := 29) hx hb dX6_worst_97 (by decide) ?_
              obtain rfl := Option.some.inj hf
              exact ih1 (g60 * g73) v4 (v4 + 1) hk1 _ _ _ hP hD hS (lv_sub hl [4, 5, 2, 1, 0] rfl)
            · refine lv_goto (tgt := 94) hx hb dX6_worst_85 (by decide) ?_
              refine lv_iinc (v := (v4 + 1)) (lv' := [(4, .int (v4 + 1)), (5, .int (g60 * g73)), (0, .ref (A 0)), (1, .int v1), (2, .int v2), (3, .int v3)]) hx hb dX6_worst_94 hl (k := 5) rfl rfl (by decide) rfl (fun ls hl => ?_)
              refine lv_goto (tgt := 29) hx hb dX6_worst_97 (by decide) ?_
              obtain rfl := Option.some.inj hf
              exact ih1 v2 v3 (v4 + 1) hk1 _ _ _ hP hD hS (lv_sub hl [2, 3, 4, 5, 0] rfl)
          · refine lv_goto (tgt := 94) hx hb dX6_worst_47 (by decide) ?_
            refine lv_iinc (v := (v4 + 1)) (lv' := [(4, .int (v4 + 1)), (0, .ref (A 0)), (1, .int v1), (2, .int v2), (3, .int v3)]) hx hb dX6_worst_94 hl (k := 4) rfl rfl (by decide) rfl (fun ls hl => ?_)
            refine lv_goto (tgt := 29) hx hb dX6_worst_97 (by decide) ?_
            obtain rfl := Option.some.inj hf
            exact ih1 v2 v3 (v4 + 1) hk1 _ _ _ hP hD hS (lv_sub hl [1, 2, 3, 4, 0] rfl)
    exact hlp29 g19 FU (-1) (-1) 0 hf _ _ _ hP hD hS (lv_sub hl [3, 4, 2, 1, 0] rfl)
  · refine lv_iconst (v := (-1)) hx hb dX6_worst_16 (by decide) ?_
    obtain rfl := Option.some.inj hf
    exact kg_iretW hx hb hr hlk rfl hP hD hS dX6_worst_17
set_option maxHeartbeats 4000000 in
set_option maxRecDepth 100000 in
theorem c_X6_part (l : Launch) (dC : Nat → ClassId) (dI : Nat → Nat → Nat) (cI cJ : ClassId) (A : Nat → Nat) (hq : Nat) (x : MdS) (v1 : Int32) (v2 : Int32) (r0 : (Int32 × MdS)) (hf : Md_m_part x v1 v2 = some r0) : MWi l yX6_part (wAll yX6_part cX6_part 6 (some .int)) ({ frames := 7, cells := 0, slots := 0, locals := 183 } : Room) [.ref (A 0), .int v1, .int v2] hq (dC, dI) (vTy cI cJ) (wMd cI cJ A x) (wMd cI cJ A r0.2) r0.1 := by
  refine kg_metW (Qc := fun Q => QWi (dC, dI) Q (wMd cI cJ A r0.2) r0.1) (cc := cX6_part) (maxL := 6) (ret := (some .int)) (by decide) rfl (Nat.le_of_ble_eq_true rfl) ?_
  intro p e s m args below meth c Q hx hb hr hts hown hlk hml hP hK hN hD hA hS ls hl
  have hl : lv_has ls 6 [(0, .ref (A 0)), (1, .int v1), (2, .int v2)] := hl
  have ww0 := hts (.fieldLink RX6 71 "SafeBlocksModel" "told" "I") (List.mem_cons_of_mem _ wd_9_3)
  have ww1 := hts (.fieldLink RX6 192 "SafeBlocksModel" "parts" "I") (List.mem_cons_of_mem _ wd_19_6)
  have ww2 := hts (.fieldLink RX6 44 "SafeBlocksModel" "partOf" "[I") (List.mem_cons_of_mem _ wd_8_10)
  have ww3 := hts (.fieldLink RX6 78 "SafeBlocksModel" "m" "I") (List.mem_cons_of_mem _ wd_9_6)
  have hiX6 : ∀ w ∈ u_ws RX6 TX6 30, w ∈ wAll yX6_part cX6_part 6 (some .int) := fun w h => List.mem_cons_of_mem _ (inlX6 w h)
  suffices hgo : ∀ (H : Heap) (locs : List Loc), va_P (dC, dI) vwCl (wMd cI cJ A x) H → va_S Q s.heap H locs → W p l e ({ frames := 7, cells := 0, slots := 0, locals := 183 } : Room) s m args below meth c H locs 0 0 (MQ below (QWi (dC, dI) Q (wMd cI cJ A r0.2) r0.1) args s 0 0 Q) (F0 m 0 ls []) from hgo _ _ hP hS
  clear hP hS
  intro H locs hP hS
  unfold Md_m_part at hf
  refine lv_aload_n hx hb dX6_part_0 rfl (lv_at hl 0 rfl) ?_
  refine lv_iconst (v := 0) hx hb dX6_part_1 (by decide) ?_
  refine kg_put (ci := 6) (v := .int 0) (ty := .int) (C := RX6) (T := TX6) (N := 30) (wz := (wMd cI cJ A (Md_set_told x 0))) hx hb hts hiX6 tyX6 tyX6_ok nmX6 hown hK hP hD hS 0 rfl rfl 0 (by decide) ww0 (fun _ h9 => h9) rfl (tyX6_ok 0 (by decide)) rfl rfl (Nat.le_of_ble_eq_true rfl) dX6_part_2 (sc_Md_told _ _ _ _ _) (fun H locs hP hD hS => ?_)
  refine lv_aload_n hx hb dX6_part_5 rfl (lv_at hl 0 rfl) ?_
  obtain ⟨g6, hc, hf⟩ := ob_bind hf
  have hPx := kg_eqP (kg_slf _) hP
  have hDx := kg_eqD (kg_slf _) hD
  refine kg_retWv (pre := ([] : va_W)) (wc := wMd cI cJ A (Md_set_told x 0)) (post := ([] : va_W)) (w1 := wMd cI cJ A g6) (wz := (wMd cI cJ A g6)) (kg_slf _).symm hPx hDx hS hA (va_runV (As := []) (rest := []) ⟨hx, hb, hml, hown, hts⟩ (c_X6_runsAll l dC dI cI cJ A H.size (Md_set_told x 0) _ hc) (cwV 0 hts (gw_V wd_12_17 wd_12_14 wd_12_15 wd_12_16 wd_1_5) rfl rfl rfl qX6_runsAll ⟨Nat.le_of_ble_eq_true rfl, Nat.le_of_ble_eq_true rfl⟩) (kg_preVW (ci := 6) (q := (RX6, TX6, 30)) (q0 := 0) (kg_cutP hPx) (kg_cutD hDx) hK hN rfl rfl) rfl rfl hl.1 rfl (lv_room (Nat.le_of_ble_eq_true rfl)) dX6_part_6 ⟨Nat.zero_le _, Nat.zero_le _⟩) (fun H locs hP hD hS => ?_)
  refine lv_aload_n hx hb dX6_part_9 rfl (lv_at hl 0 rfl) ?_
  obtain ⟨g10, hc, hf⟩ := ob_bind hf
  have hPx := kg_eqP (kg_slf _) hP
  have hDx := kg_eqD (kg_slf _) hD
  refine kg_retWv (pre := ([] : va_W)) (wc := wMd cI cJ A g6) (post := ([] : va_W)) (w1 := wMd cI cJ A g10) (wz := (wMd cI cJ A g10)) (kg_slf _).symm hPx hDx hS hA (va_runV (As := []) (rest := []) ⟨hx, hb, hml, hown, hts⟩ (c_X6_laysAllParts l dC dI cI cJ A H.size g6 _ hc) (cwV 0 hts (gw_V wd_19_1 wd_18_22 wd_18_23 wd_19_0 wd_1_5) rfl rfl rfl qX6_laysAllParts ⟨Nat.le_of_ble_eq_true rfl, Nat.le_of_ble_eq_true rfl⟩) (kg_preVW (ci := 6) (q := (RX6, TX6, 30)) (q0 := 0) (kg_cutP hPx) (kg_cutD hDx) hK hN rfl rfl) rfl rfl hl.1 rfl (lv_room (Nat.le_of_ble_eq_true rfl)) dX6_part_10 ⟨Nat.zero_le _, Nat.zero_le _⟩) (fun H locs hP hD hS => ?_)
  refine lv_aload_n hx hb dX6_part_13 rfl (lv_at hl 0 rfl) ?_
  refine lv_iload_n hx hb dX6_part_14 rfl (lv_at hl 1 rfl) ?_
  refine lv_i2l hx hb dX6_part_15 rfl ?_
  refine lv_lconst (v := 0) hx hb dX6_part_16 (by decide) ?_
  refine lv_aload_n hx hb dX6_part_17 rfl (lv_at hl 0 rfl) ?_
  refine va_get (D := (dC, dI)) (ci := 6) (v := .int (Md_parts g10)) (C := RX6) (T := TX6) (N := 30) hx hb hts hiX6 hown hK hP 0 rfl rfl 19 (by decide) ww1 (fun _ h9 => h9) rfl dX6_part_18 ?_
  refine lv_i2l hx hb dX6_part_21 rfl ?_
  refine lv_lconst (v := 1) hx hb dX6_part_22 (by decide) ?_
  refine lv_lsub hx hb dX6_part_23 ?_
  obtain ⟨g24, hc, hf⟩ := ob_bind hf
  have hPc : va_P (dC, dI) vwCl (wMd cI cJ A g10) H := hP
  refine kg_retRi (va_runV (As := [.long ((v1 : Int32).toInt64), .long 0, .long ((((Md_parts g10) : Int32).toInt64) - 1)]) (rest := []) ⟨hx, hb, hml, hown, hts⟩ (c_X6_isIn l dC dI cI cJ A H g10 ((v1 : Int32).toInt64) 0 ((((Md_parts g10) : Int32).toInt64) - 1) _ hc) (cwV 3 hts (gw_V wd_9_10 wd_9_7 wd_9_8 wd_9_9 wd_1_5) rfl rfl rfl qX6_isIn ⟨Nat.le_of_ble_eq_true rfl, Nat.le_of_ble_eq_true rfl⟩) (kg_preVR (ci := 6) (q := (RX6, TX6, 30)) (q0 := 0) hPc hK hN rfl rfl) rfl rfl hl.1 rfl (lv_room (Nat.le_of_ble_eq_true rfl)) dX6_part_24 ⟨Nat.zero_le _, Nat.zero_le _⟩) ?_
  refine kg_b_ne (tgt := 32) hx hb hf dX6_part_27 (by decide) (fun hc hf => ?_) (fun hc hf => ?_)
  · refine lv_iconst (v := 0) hx hb dX6_part_32 (by decide) ?_
    refine lv_istore_n (lv' := [(3, .int 0), (0, .ref (A 0)), (1, .int v1), (2, .int v2)]) hx hb dX6_part_33 rfl hl (by decide) rfl (fun ls hl => ?_)
    have hlp34 : ∀ (x : MdS), ∀ (n : Nat) (v3 : Int32), iter (fun p : Int32 => Md_m_part_s34 x v1 v2 p) n (v3) = some r0 → ∀ (H : Heap) (locs : List Loc) (ls : Array Slot), va_P (dC, dI) vwCl (wMd cI cJ A x) H → va_D Q (wMd cI cJ A x) → va_S Q s.heap H locs → lv_has ls 6 [(0, .ref (A 0)), (1, .int v1), (2, .int v2), (3, .int v3)] → W p l e ({ frames := 7, cells := 0, slots := 0, locals := 183 } : Room) s m args below meth c H locs 0 0 (MQ below (QWi (dC, dI) Q (wMd cI cJ A r0.2) r0.1) args s 0 0 Q) (F0 m 34 ls []) := by
      intro x n
      induction n with
      | zero => intro v3 hf; exact iter_zero hf
      | succ n ih1 =>
        intro v3 hf H locs ls hP hD hS hl
        obtain ⟨q1, hf, hk1⟩ := iter_succ hf
        have hf : Md_m_part_s34 x v1 v2 v3 = some q1 := hf
        unfold Md_m_part_s34 at hf
        have hj53 : ∀ (v3 : Int32), Md_m_part_j53 x v1 v2 v3 = some q1 → ∀ (H : Heap) (locs : List Loc) (ls : Array Slot), va_P (dC, dI) vwCl (wMd cI cJ A x) H → va_D Q (wMd cI cJ A x) → va_S Q s.heap H locs → lv_has ls 6 [(0, .ref (A 0)), (1, .int v1), (2, .int v2), (3, .int v3)] → W p l e ({ frames := 7, cells := 0, slots := 0, locals := 183 } : Room) s m args below meth c H locs 0 0 (MQ below (QWi (dC, dI) Q (wMd cI cJ A r0.2) r0.1) args s 0 0 Q) (F0 m 53 ls []) := by
          intro v3 hf H locs ls hP hD hS hl
          unfold Md_m_part_j53 at hf
          refine lv_iload_n hx hb dX6_part_53 rfl (lv_at hl 3 rfl) ?_
          refine lv_iconst (v := 1) hx hb dX6_part_54 (by decide) ?_
          refine lv_iadd hx hb dX6_part_55 ?_
          refine lv_istore_n (lv' := [(3, .int (v3 + 1)), (0, .ref (A 0)), (1, .int v1), (2, .int v2)]) hx hb dX6_part_56 rfl hl (by decide) rfl (fun ls hl => ?_)
          refine lv_goto (tgt := 34) hx hb dX6_part_57 (by decide) ?_
          obtain rfl := Option.some.inj hf
          exact ih1 (v3 + 1) hk1 _ _ _ hP hD hS (lv_sub hl [1, 2, 3, 0] rfl)
        refine lv_aload_n hx hb dX6_part_34 rfl (lv_at hl 0 rfl) ?_
        refine va_get (D := (dC, dI)) (ci := 6) (v := .ref (A 10)) (C := RX6) (T := TX6) (N := 30) hx hb hts hiX6 hown hK hP 0 rfl rfl 18 (by decide) ww2 (fun _ h9 => h9) rfl dX6_part_35 ?_
        refine lv_iload_n hx hb dX6_part_38 rfl (lv_at hl 3 rfl) ?_
        obtain ⟨g39, hv, hf⟩ := ob_bind hf
        refine kg_iald hx hb hK hP 10 0 rfl rfl hv dX6_part_39 ?_
        refine lv_iload_n hx hb dX6_part_40 rfl (lv_at hl 3 rfl) ?_
        refine kg_icmp_ne (tgt := 53) hx hb hf dX6_part_41 (by decide) (fun hc hf => ?_) (fun hc hf => ?_)
        · exact hj53 v3 hf _ _ _ hP hD hS (lv_sub hl [0, 1, 2, 3] rfl)
        · refine lv_aload_n hx hb dX6_part_44 rfl (lv_at hl 0 rfl) ?_
          refine lv_iload_n hx hb dX6_part_45 rfl (lv_at hl 3 rfl) ?_
          obtain ⟨g46, hc, hf⟩ := ob_bind hf
          have hPc : va_P (dC, dI) vwCl (wMd cI cJ A x) H := hP
          refine kg_retRi (va_runV (As := [.int v3]) (rest := []) ⟨hx, hb, hml, hown, hts⟩ (c_X6_partNumber l dC dI cI cJ A H x v3 _ hc) (cwV 1 hts (gw_V wd_20_5 wd_20_2 wd_20_3 wd_20_4 wd_1_5) rfl rfl rfl qX6_partNumber ⟨Nat.le_of_ble_eq_true rfl, Nat.le_of_ble_eq_true rfl⟩) (kg_preVR (ci := 6) (q := (RX6, TX6, 30)) (q0 := 0) hPc hK hN rfl rfl) rfl rfl hl.1 rfl (lv_room (Nat.le_of_ble_eq_true rfl)) dX6_part_46 ⟨Nat.zero_le _, Nat.zero_le _⟩) ?_
          refine lv_iload_n hx hb dX6_part_49 rfl (lv_at hl 1 rfl) ?_
          refine kg_icmp_eq (tgt := 60) hx hb hf dX6_part_50 (by decide) (fun hc hf => ?_) (fun hc hf => ?_)
          · obtain ⟨qq, hf, hqq⟩ := omap_some hf
            have hkq : qq = r0 := by rw [← hqq] at hk1; exact hk1
            rw [hkq] at hf
            clear hkq hqq
            refine lv_iload_n hx hb dX6_part_60 rfl (lv_at hl 2 rfl) ?_
            refine lv_iconst (v := 2) hx hb dX6_part_61 (by decide) ?_
            refine kg_icmp_ne (tgt := 67) hx hb hf dX6_part_62 (by decide) (fun hc hf => ?_) (fun hc hf => ?_)
            · refine lv_iload_n hx hb dX6_part_67 rfl (lv_at hl 2 rfl) ?_
              refine lv_iconst (v := 1) hx hb dX6_part_68 (by decide) ?_
              refine kg_icmp_ne (tgt := 82) hx hb hf dX6_part_69 (by decide) (fun hc hf => ?_) (fun hc hf => ?_)
              · refine lv_iload_n hx hb dX6_part_82 rfl (lv_at hl 2 rfl) ?_
                refine kg_if_eq (tgt := 88) hx hb hf dX6_part_83 (by decide) (fun hc hf => ?_) (fun hc hf => ?_)
                · refine lv_iconst (v := 0) hx hb dX6_part_88 (by decide) ?_
                  refine lv_istore (lv' := [(4, .int 0), (0, .ref (A 0)), (1, .int v1), (2, .int v2), (3, .int v3)]) hx hb dX6_part_89 hl (by decide) rfl (fun ls hl => ?_)
                  refine lv_iconst (v := 0) hx hb dX6_part_91 (by decide) ?_
                  refine lv_istore (lv' := [(5, .int 0), (4, .int 0), (0, .ref (A 0)), (1, .int v1), (2, .int v2), (3, .int v3)]) hx hb dX6_part_92 hl (by decide) rfl (fun ls hl => ?_)
                  have hlp94 : ∀ (x : MdS) (v3 : Int32), ∀ (n : Nat) (v4 : Int32) (v5 : Int32), iter (fun p : Int32 × Int32 => Md_m_part_s94 x v3 p.1 p.2) n (v4, v5) = some r0 → ∀ (H : Heap) (locs : List Loc) (ls : Array Slot), va_P (dC, dI) vwCl (wMd cI cJ A x) H → va_D Q (wMd cI cJ A x) → va_S Q s.heap H locs → lv_has ls 6 [(0, .ref (A 0)), (3, .int v3), (4, .int v4), (5, .int v5)] → W p l e ({ frames := 7, cells := 0, slots := 0, locals := 183 } : Room) s m args below meth c H locs 0 0 (MQ below (QWi (dC, dI) Q (wMd cI cJ A r0.2) r0.1) args s 0 0 Q) (F0 m 94 ls []) := by
                    intro x v3 n
                    induction n with
                    | zero => intro v4 v5 hf; exact iter_zero hf
                    | succ n ih1 =>
                      intro v4 v5 hf H locs ls hP hD hS hl
                      obtain ⟨q1, hf, hk1⟩ := iter_succ hf
                      have hf : Md_m_part_s94 x v3 v4 v5 = some q1 := hf
                      unfold Md_m_part_s94 at hf
                      refine lv_iload hx hb dX6_part_94 (lv_at hl 3 rfl) ?_
                      refine lv_aload_n hx hb dX6_part_96 rfl (lv_at hl 0 rfl) ?_
                      refine va_get (D := (dC, dI)) (ci := 6) (v := .int (Md_m x)) (C := RX6) (T := TX6) (N := 30) hx hb hts hiX6 hown hK hP 0 rfl rfl 2 (by decide) ww3 (fun _ h9 => h9) rfl dX6_part_97 ?_
                      refine kg_icmp_ge (tgt := 126) hx hb hf dX6_part_100 (by decide) (fun hc hf => ?_) (fun hc hf => ?_)
                      · obtain ⟨qq, hf, hqq⟩ := omap_some hf
                        have hkq : qq = r0 := by rw [← hqq] at hk1; exact hk1
                        rw [hkq] at hf
                        clear hkq hqq
                        refine lv_iload hx hb dX6_part_126 (lv_at hl 2 rfl) ?_
                        obtain rfl := Option.some.inj hf
                        exact kg_iretW hx hb hr hlk rfl hP hD hS dX6_part_128
                      · refine lv_aload_n hx hb dX6_part_103 rfl (lv_at hl 0 rfl) ?_
                        refine va_get (D := (dC, dI)) (ci := 6) (v := .ref (A 10)) (C := RX6) (T := TX6) (N := 30) hx hb hts hiX6 hown hK hP 0 rfl rfl 18 (by decide) ww2 (fun _ h9 => h9) rfl dX6_part_104 ?_
                        refine lv_iload hx hb dX6_part_107 (lv_at hl 3 rfl) ?_
                        obtain ⟨g109, hv, hf⟩ := ob_bind hf
                        refine kg_iald hx hb hK hP 10 0 rfl rfl hv dX6_part_109 ?_
                        refine lv_iload_n hx hb dX6_part_110 rfl (lv_at hl 1 rfl) ?_
                        refine kg_icmp_ne (tgt := 120) hx hb hf dX6_part_111 (by decide) (fun hc hf => ?_) (fun hc hf => ?_)
                        · refine lv_iinc (v := (v5 + 1)) (lv' := [(5, .int (v5 + 1)), (0, .ref (A 0)), (3, .int v3), (4, .int v4)]) hx hb dX6_part_120 hl (k := 3) rfl rfl (by decide) rfl (fun ls hl => ?_)
                          refine lv_goto (tgt := 94) hx hb dX6_part_123 (by decide) ?_
                          obtain rfl := Option.some.inj hf
                          exact ih1 v4 (v5 + 1) hk1 _ _ _ hP hD hS (lv_sub hl [1, 2, 3, 0] rfl)
                        · refine lv_iload hx hb dX6_part_114 (lv_at hl 2 rfl) ?_
                          refine lv_iconst (v := 1) hx hb dX6_part_116 (by decide) ?_
                          refine lv_iadd hx hb dX6_part_117 ?_
                          refine lv_istore (lv' := [(4, .int (v4 + 1)), (0, .ref (A 0)), (3, .int v3), (5, .int v5)]) hx hb dX6_part_118 hl (by decide) rfl (fun ls hl => ?_)
                          refine lv_iinc (v := (v5 + 1)) (lv' := [(5, .int (v5 + 1)), (4, .int (v4 + 1)), (0, .ref (A 0)), (3, .int v3)]) hx hb dX6_part_120 hl (k := 3) rfl rfl (by decide) rfl (fun ls hl => ?_)
                          refine lv_goto (tgt := 94) hx hb dX6_part_123 (by decide) ?_
                          obtain rfl := Option.some.inj hf
                          exact ih1 (v4 + 1) (v5 + 1) hk1 _ _ _ hP hD hS (lv_sub hl [2, 3, 1, 0] rfl)
                  exact hlp94 x v3 FU 0 0 hf _ _ _ hP hD hS (lv_sub hl [2, 5, 1, 0] rfl)
                · refine lv_iconst (v := (-1)) hx hb dX6_part_86 (by decide) ?_
                  obtain rfl := Option.some.inj hf
                  exact kg_iretW hx hb hr hlk rfl hP hD hS dX6_part_87
              · refine lv_aload_n hx hb dX6_part_72 rfl (lv_at hl 0 rfl) ?_
                refine lv_aload_n hx hb dX6_part_73 rfl (lv_at hl 0 rfl) ?_
                refine lv_iload_n hx hb dX6_part_74 rfl (lv_at hl 3 rfl) ?_
                obtain ⟨g75, hc, hf⟩ := ob_bind hf
                have hPc : va_P (dC, dI) vwCl (wMd cI cJ A x) H := hP
                refine kg_retRi (va_runV (As := [.int v3]) (rest := [.ref (A 0)]) ⟨hx, hb, hml, hown, hts⟩ (c_X6_nodesOfPart l dC dI cI cJ A H x v3 _ hc) (cwV 1 hts (gw_V wd_33_10 wd_33_7 wd_33_8 wd_33_9 wd_1_5) rfl rfl rfl qX6_nodesOfPart ⟨Nat.le_of_ble_eq_true rfl, Nat.le_of_ble_eq_true rfl⟩) (kg_preVR (ci := 6) (q := (RX6, TX6, 30)) (q0 := 0) hPc hK hN rfl rfl) rfl rfl hl.1 rfl (lv_room (Nat.le_of_ble_eq_true rfl)) dX6_part_75 ⟨Nat.zero_le _, Nat.zero_le _⟩) ?_
                obtain ⟨g78, hc, hf⟩ := ob_bind hf
                have hPc : va_P (dC, dI) vwCl (wMd cI cJ A x) H := hP
                refine kg_retRi (va_runV (As := [.int g75]) (rest := []) ⟨hx, hb, hml, hown, hts⟩ (c_X6_count l dC dI cI cJ A H x g75 _ hc) (cwV 1 hts (gw_V wd_15_1 wd_14_22 wd_14_23 wd_15_0 wd_1_5) rfl rfl rfl qX6_count ⟨Nat.le_of_ble_eq_true rfl, Nat.le_of_ble_eq_true rfl⟩) (kg_preVR (ci := 6) (q := (RX6, TX6, 30)) (q0 := 0) hPc hK hN rfl rfl) rfl rfl hl.1 rfl (lv_room (Nat.le_of_ble_eq_true rfl)) dX6_part_78 ⟨Nat.zero_le _, Nat.zero_le _⟩) ?_
                obtain rfl := Option.some.inj hf
                exact kg_iretW hx hb hr hlk rfl hP hD hS dX6_part_81
            · refine lv_iload_n hx hb dX6_part_65 rfl (lv_at hl 3 rfl) ?_
              obtain rfl := Option.some.inj hf
              exact kg_iretW hx hb hr hlk rfl hP hD hS dX6_part_66
          · exact hj53 v3 hf _ _ _ hP hD hS (lv_sub hl [0, 1, 2, 3] rfl)
    exact hlp34 g10 FU 0 hf _ _ _ hP hD hS (lv_sub hl [1, 2, 3, 0] rfl)
  · refine lv_iconst (v := (-1)) hx hb dX6_part_30 (by decide) ?_
    obtain rfl := Option.some.inj hf
    exact kg_iretW hx hb hr hlk rfl hP hD hS dX6_part_31
set_option maxHeartbeats 4000000 in
set_option maxRecDepth 100000 in
theorem c_X6_without (l : Launch) (dC : Nat → ClassId) (dI : Nat → Nat → Nat) (cI cJ : ClassId) (A : Nat → Nat) (hq : Nat) (x : MdS) (v1 : Int32) (v2 : Int32) (v3 : Int32) (r0 : (Int32 × MdS)) (hf : Md_m_without x v1 v2 v3 = some r0) : MWi l yX6_without (wAll yX6_without cX6_without 6 (some .int)) ({ frames := 4, cells := 0, slots := 0, locals := 119 } : Room) [.ref (A 0), .int v1, .int v2, .int v3] hq (dC, dI) (vTy cI cJ) (wMd cI cJ A x) (wMd cI cJ A r0.2) r0.1 := by
  refine kg_metW (Qc := fun Q => QWi (dC, dI) Q (wMd cI cJ A r0.2) r0.1) (cc := cX6_without) (maxL := 6) (ret := (some .int)) (by decide) rfl (Nat.le_of_ble_eq_true rfl) ?_
  intro p e s m args below meth c Q hx hb hr hts hown hlk hml hP hK hN hD hA hS ls hl
  have hl : lv_has ls 6 [(0, .ref (A 0)), (1, .int v1), (2, .int v2), (3, .int v3)] := hl
  have ww0 := hts (.fieldLink RX6 78 "SafeBlocksModel" "m" "I") (List.mem_cons_of_mem _ wd_9_6)
  have ww1 := hts (.fieldLink RX6 192 "SafeBlocksModel" "parts" "I") (List.mem_cons_of_mem _ wd_19_6)
  have ww2 := hts (.fieldLink RX6 71 "SafeBlocksModel" "told" "I") (List.mem_cons_of_mem _ wd_9_3)
  have ww3 := hts (.constantLong RX6 336 (3)) (List.mem_cons_of_mem _ wd_40_19)
  have hiX6 : ∀ w ∈ u_ws RX6 TX6 30, w ∈ wAll yX6_without cX6_without 6 (some .int) := fun w h => List.mem_cons_of_mem _ (inlX6 w h)
  suffices hgo : ∀ (H : Heap) (locs : List Loc), va_P (dC, dI) vwCl (wMd cI cJ A x) H → va_S Q s.heap H locs → W p l e ({ frames := 4, cells := 0, slots := 0, locals := 119 } : Room) s m args below meth c H locs 0 0 (MQ below (QWi (dC, dI) Q (wMd cI cJ A r0.2) r0.1) args s 0 0 Q) (F0 m 0 ls []) from hgo _ _ hP hS
  clear hP hS
  intro H locs hP hS
  unfold Md_m_without at hf
  have hj75 : ∀ (x : MdS) (v4 : Int32) (w0 : Int32), Md_m_without_j75 x v3 v4 w0 = some r0 → ∀ (H : Heap) (locs : List Loc) (ls : Array Slot), va_P (dC, dI) vwCl (wMd cI cJ A x) H → va_D Q (wMd cI cJ A x) → va_S Q s.heap H locs → lv_has ls 6 [(0, .ref (A 0)), (3, .int v3), (4, .int v4)] → W p l e ({ frames := 4, cells := 0, slots := 0, locals := 119 } : Room) s m args below meth c H locs 0 0 (MQ below (QWi (dC, dI) Q (wMd cI cJ A r0.2) r0.1) args s 0 0 Q) (F0 m 75 ls [.int w0]) := by
    intro x v4 w0 hf H locs ls hP hD hS hl
    unfold Md_m_without_j75 at hf
    refine lv_istore (lv' := [(5, .int w0), (0, .ref (A 0)), (3, .int v3), (4, .int v4)]) hx hb dX6_without_75 hl (by decide) rfl (fun ls hl => ?_)
    refine lv_iload_n hx hb dX6_without_77 rfl (lv_at hl 2 rfl) ?_
    refine kg_if_ne (tgt := 90) hx hb hf dX6_without_78 (by decide) (fun hc hf => ?_) (fun hc hf => ?_)
    · refine lv_iload_n hx hb dX6_without_90 rfl (lv_at hl 2 rfl) ?_
      refine lv_iconst (v := 2) hx hb dX6_without_91 (by decide) ?_
      refine kg_icmp_ne (tgt := 104) hx hb hf dX6_without_92 (by decide) (fun hc hf => ?_) (fun hc hf => ?_)
      · refine lv_iload_n hx hb dX6_without_104 rfl (lv_at hl 2 rfl) ?_
        refine lv_iconst (v := 1) hx hb dX6_without_105 (by decide) ?_
        refine kg_icmp_ne (tgt := 127) hx hb hf dX6_without_106 (by decide) (fun hc hf => ?_) (fun hc hf => ?_)
        · refine lv_aload_n hx hb dX6_without_127 rfl (lv_at hl 1 rfl) ?_
          refine lv_aload_n hx hb dX6_without_128 rfl (lv_at hl 1 rfl) ?_
          refine va_get (D := (dC, dI)) (ci := 6) (v := .int (Md_m x)) (C := RX6) (T := TX6) (N := 30) hx hb hts hiX6 hown hK hP 0 rfl rfl 2 (by decide) ww0 (fun _ h9 => h9) rfl dX6_without_129 ?_
          refine lv_iload hx hb dX6_without_132 (lv_at hl 3 rfl) ?_
          refine lv_iload hx hb dX6_without_134 (lv_at hl 0 rfl) ?_
          obtain ⟨g136, hc, hf⟩ := ob_bind hf
          have hPx := kg_eqP (kg_slf _) hP
          have hDx := kg_eqD (kg_slf _) hD
          refine kg_retWv (pre := ([] : va_W)) (wc := wMd cI cJ A x) (post := ([] : va_W)) (w1 := wMd cI cJ A g136) (wz := (wMd cI cJ A g136)) (kg_slf _).symm hPx hDx hS hA (va_runV (As := [.int (Md_m x), .int v4, .int w0]) (rest := []) ⟨hx, hb, hml, hown, hts⟩ (c_X6_laysParts l dC dI cI cJ A H.size x (Md_m x) v4 w0 _ hc) (cwV 3 hts (gw_V wd_19_5 wd_19_2 wd_19_3 wd_19_4 wd_1_5) rfl rfl rfl qX6_laysParts ⟨Nat.le_of_ble_eq_true rfl, Nat.le_of_ble_eq_true rfl⟩) (kg_preVW (ci := 6) (q := (RX6, TX6, 30)) (q0 := 0) (kg_cutP hPx) (kg_cutD hDx) hK hN rfl rfl) rfl rfl hl.1 rfl (lv_room (Nat.le_of_ble_eq_true rfl)) dX6_without_136 ⟨Nat.zero_le _, Nat.zero_le _⟩) (fun H locs hP hD hS => ?_)
          refine lv_aload_n hx hb dX6_without_139 rfl (lv_at hl 1 rfl) ?_
          refine va_get (D := (dC, dI)) (ci := 6) (v := .int (Md_parts g136)) (C := RX6) (T := TX6) (N := 30) hx hb hts hiX6 hown hK hP 0 rfl rfl 19 (by decide) ww1 (fun _ h9 => h9) rfl dX6_without_140 ?_
          obtain rfl := Option.some.inj hf
          exact kg_iretW hx hb hr hlk rfl hP hD hS dX6_without_143
        · refine lv_aload_n hx hb dX6_without_109 rfl (lv_at hl 1 rfl) ?_
          refine lv_iload hx hb dX6_without_110 (lv_at hl 3 rfl) ?_
          refine lv_iload hx hb dX6_without_112 (lv_at hl 0 rfl) ?_
          obtain ⟨g114, hc, hf⟩ := ob_bind hf
          have hPc : va_P (dC, dI) vwCl (wMd cI cJ A x) H := hP
          refine kg_retRi (va_runV (As := [.int v4, .int w0]) (rest := []) ⟨hx, hb, hml, hown, hts⟩ (c_X6_landsWithout l dC dI cI cJ A H x v4 w0 _ hc) (cwV 2 hts (gw_V wd_40_23 wd_40_20 wd_40_21 wd_40_22 wd_1_5) rfl rfl rfl qX6_landsWithout ⟨Nat.le_of_ble_eq_true rfl, Nat.le_of_ble_eq_true rfl⟩) (kg_preVR (ci := 6) (q := (RX6, TX6, 30)) (q0 := 0) hPc hK hN rfl rfl) rfl rfl hl.1 rfl (lv_room (Nat.le_of_ble_eq_true rfl)) dX6_without_114 ⟨Nat.zero_le _, Nat.zero_le _⟩) ?_
          refine lv_aload_n hx hb dX6_without_117 rfl (lv_at hl 1 rfl) ?_
          refine lv_iload hx hb dX6_without_118 (lv_at hl 3 rfl) ?_
          refine lv_iload hx hb dX6_without_120 (lv_at hl 0 rfl) ?_
          obtain ⟨g122, hc, hf⟩ := ob_bind hf
          have hPc : va_P (dC, dI) vwCl (wMd cI cJ A x) H := hP
          refine kg_retRi (va_runV (As := [.int v4, .int w0]) (rest := [.int g114]) ⟨hx, hb, hml, hown, hts⟩ (c_X6_bridgesWithout l dC dI cI cJ A H x v4 w0 _ hc) (cwV 2 hts (gw_V wd_41_3 wd_41_0 wd_41_1 wd_41_2 wd_1_5) rfl rfl rfl qX6_bridgesWithout ⟨Nat.le_of_ble_eq_true rfl, Nat.le_of_ble_eq_true rfl⟩) (kg_preVR (ci := 6) (q := (RX6, TX6, 30)) (q0 := 0) hPc hK hN rfl rfl) rfl rfl hl.1 rfl (lv_room (Nat.le_of_ble_eq_true rfl)) dX6_without_122 ⟨Nat.zero_le _, Nat.zero_le _⟩) ?_
          refine lv_iadd hx hb dX6_without_125 ?_
          obtain rfl := Option.some.inj hf
          exact kg_iretW hx hb hr hlk rfl hP hD hS dX6_without_126
      · refine lv_aload_n hx hb dX6_without_95 rfl (lv_at hl 1 rfl) ?_
        refine lv_iload hx hb dX6_without_96 (lv_at hl 3 rfl) ?_
        refine lv_iload hx hb dX6_without_98 (lv_at hl 0 rfl) ?_
        obtain ⟨g100, hc, hf⟩ := ob_bind hf
        have hPc : va_P (dC, dI) vwCl (wMd cI cJ A x) H := hP
        refine kg_retRi (va_runV (As := [.int v4, .int w0]) (rest := []) ⟨hx, hb, hml, hown, hts⟩ (c_X6_bridgesWithout l dC dI cI cJ A H x v4 w0 _ hc) (cwV 2 hts (gw_V wd_41_3 wd_41_0 wd_41_1 wd_41_2 wd_1_5) rfl rfl rfl qX6_bridgesWithout ⟨Nat.le_of_ble_eq_true rfl, Nat.le_of_ble_eq_true rfl⟩) (kg_preVR (ci := 6) (q := (RX6, TX6, 30)) (q0 := 0) hPc hK hN rfl rfl) rfl rfl hl.1 rfl (lv_room (Nat.le_of_ble_eq_true rfl)) dX6_without_100 ⟨Nat.zero_le _, Nat.zero_le _⟩) ?_
        obtain rfl := Option.some.inj hf
        exact kg_iretW hx hb hr hlk rfl hP hD hS dX6_without_103
    · refine lv_aload_n hx hb dX6_without_81 rfl (lv_at hl 1 rfl) ?_
      refine lv_iload hx hb dX6_without_82 (lv_at hl 3 rfl) ?_
      refine lv_iload hx hb dX6_without_84 (lv_at hl 0 rfl) ?_
      obtain ⟨g86, hc, hf⟩ := ob_bind hf
      have hPc : va_P (dC, dI) vwCl (wMd cI cJ A x) H := hP
      refine kg_retRi (va_runV (As := [.int v4, .int w0]) (rest := []) ⟨hx, hb, hml, hown, hts⟩ (c_X6_landsWithout l dC dI cI cJ A H x v4 w0 _ hc) (cwV 2 hts (gw_V wd_40_23 wd_40_20 wd_40_21 wd_40_22 wd_1_5) rfl rfl rfl qX6_landsWithout ⟨Nat.le_of_ble_eq_true rfl, Nat.le_of_ble_eq_true rfl⟩) (kg_preVR (ci := 6) (q := (RX6, TX6, 30)) (q0 := 0) hPc hK hN rfl rfl) rfl rfl hl.1 rfl (lv_room (Nat.le_of_ble_eq_true rfl)) dX6_without_86 ⟨Nat.zero_le _, Nat.zero_le _⟩) ?_
      obtain rfl := Option.some.inj hf
      exact kg_iretW hx hb hr hlk rfl hP hD hS dX6_without_89
  have hj63 : ∀ (x : MdS) (w0 : Int32), Md_m_without_j63 x v1 v2 v3 w0 = some r0 → ∀ (H : Heap) (locs : List Loc) (ls : Array Slot), va_P (dC, dI) vwCl (wMd cI cJ A x) H → va_D Q (wMd cI cJ A x) → va_S Q s.heap H locs → lv_has ls 6 [(0, .ref (A 0)), (1, .int v1), (2, .int v2), (3, .int v3)] → W p l e ({ frames := 4, cells := 0, slots := 0, locals := 119 } : Room) s m args below meth c H locs 0 0 (MQ below (QWi (dC, dI) Q (wMd cI cJ A r0.2) r0.1) args s 0 0 Q) (F0 m 63 ls [.int w0]) := by
    intro x w0 hf H locs ls hP hD hS hl
    unfold Md_m_without_j63 at hf
    refine lv_istore (lv' := [(4, .int w0), (0, .ref (A 0)), (1, .int v1), (2, .int v2), (3, .int v3)]) hx hb dX6_without_63 hl (by decide) rfl (fun ls hl => ?_)
    refine lv_iload_n hx hb dX6_without_65 rfl (lv_at hl 2 rfl) ?_
    refine lv_iconst (v := 1) hx hb dX6_without_66 (by decide) ?_
    refine kg_icmp_ne (tgt := 74) hx hb hf dX6_without_67 (by decide) (fun hc hf => ?_) (fun hc hf => ?_)
    · refine lv_iconst (v := (-1)) hx hb dX6_without_74 (by decide) ?_
      exact hj75 x w0 (-1) hf _ _ _ hP hD hS (lv_sub hl [1, 4, 0] rfl)
    · refine lv_iload_n hx hb dX6_without_70 rfl (lv_at hl 3 rfl) ?_
      refine lv_goto (tgt := 75) hx hb dX6_without_71 (by decide) ?_
      exact hj75 x w0 v2 hf _ _ _ hP hD hS (lv_sub hl [1, 4, 0] rfl)
  have hj54 : ∀ (x : MdS), Md_m_without_j54 x v1 v2 v3 = some r0 → ∀ (H : Heap) (locs : List Loc) (ls : Array Slot), va_P (dC, dI) vwCl (wMd cI cJ A x) H → va_D Q (wMd cI cJ A x) → va_S Q s.heap H locs → lv_has ls 6 [(0, .ref (A 0)), (1, .int v1), (2, .int v2), (3, .int v3)] → W p l e ({ frames := 4, cells := 0, slots := 0, locals := 119 } : Room) s m args below meth c H locs 0 0 (MQ below (QWi (dC, dI) Q (wMd cI cJ A r0.2) r0.1) args s 0 0 Q) (F0 m 54 ls []) := by
    intro x hf H locs ls hP hD hS hl
    unfold Md_m_without_j54 at hf
    refine lv_iload_n hx hb dX6_without_54 rfl (lv_at hl 1 rfl) ?_
    refine kg_if_ne (tgt := 62) hx hb hf dX6_without_55 (by decide) (fun hc hf => ?_) (fun hc hf => ?_)
    · refine lv_iconst (v := (-1)) hx hb dX6_without_62 (by decide) ?_
      exact hj63 x (-1) hf _ _ _ hP hD hS (lv_sub hl [0, 1, 2, 3] rfl)
    · refine lv_iload_n hx hb dX6_without_58 rfl (lv_at hl 2 rfl) ?_
      refine lv_goto (tgt := 63) hx hb dX6_without_59 (by decide) ?_
      exact hj63 x v2 hf _ _ _ hP hD hS (lv_sub hl [0, 1, 2, 3] rfl)
  refine lv_aload_n hx hb dX6_without_0 rfl (lv_at hl 0 rfl) ?_
  refine lv_iconst (v := 0) hx hb dX6_without_1 (by decide) ?_
  refine kg_put (ci := 6) (v := .int 0) (ty := .int) (C := RX6) (T := TX6) (N := 30) (wz := (wMd cI cJ A (Md_set_told x 0))) hx hb hts hiX6 tyX6 tyX6_ok nmX6 hown hK hP hD hS 0 rfl rfl 0 (by decide) ww2 (fun _ h9 => h9) rfl (tyX6_ok 0 (by decide)) rfl rfl (Nat.le_of_ble_eq_true rfl) dX6_without_2 (sc_Md_told _ _ _ _ _) (fun H locs hP hD hS => ?_)
  refine lv_aload_n hx hb dX6_without_5 rfl (lv_at hl 0 rfl) ?_
  refine lv_iload_n hx hb dX6_without_6 rfl (lv_at hl 1 rfl) ?_
  refine lv_i2l hx hb dX6_without_7 rfl ?_
  refine lv_lconst (v := 0) hx hb dX6_without_8 (by decide) ?_
  refine lv_lconst (v := 1) hx hb dX6_without_9 (by decide) ?_
  obtain ⟨g10, hc, hf⟩ := ob_bind hf
  have hPc : va_P (dC, dI) vwCl (wMd cI cJ A (Md_set_told x 0)) H := hP
  refine kg_retRi (va_runV (As := [.long ((v1 : Int32).toInt64), .long 0, .long 1]) (rest := []) ⟨hx, hb, hml, hown, hts⟩ (c_X6_isIn l dC dI cI cJ A H (Md_set_told x 0) ((v1 : Int32).toInt64) 0 1 _ hc) (cwV 3 hts (gw_V wd_9_10 wd_9_7 wd_9_8 wd_9_9 wd_1_5) rfl rfl rfl qX6_isIn ⟨Nat.le_of_ble_eq_true rfl, Nat.le_of_ble_eq_true rfl⟩) (kg_preVR (ci := 6) (q := (RX6, TX6, 30)) (q0 := 0) hPc hK hN rfl rfl) rfl rfl hl.1 rfl (lv_room (Nat.le_of_ble_eq_true rfl)) dX6_without_10 ⟨Nat.zero_le _, Nat.zero_le _⟩) ?_
  refine kg_b_eq (tgt := 52) hx hb hf dX6_without_13 (by decide) (fun hc hf => ?_) (fun hc hf => ?_)
  · refine lv_iconst (v := (-1)) hx hb dX6_without_52 (by decide) ?_
    obtain rfl := Option.some.inj hf
    exact kg_iretW hx hb hr hlk rfl hP hD hS dX6_without_53
  · refine lv_aload_n hx hb dX6_without_16 rfl (lv_at hl 0 rfl) ?_
    refine lv_iload_n hx hb dX6_without_17 rfl (lv_at hl 3 rfl) ?_
    refine lv_i2l hx hb dX6_without_18 rfl ?_
    refine lv_lconst (v := 0) hx hb dX6_without_19 (by decide) ?_
    refine lv_ldc2 (v := 3) hx hb hown ww3 dX6_without_20 ?_
    obtain ⟨g23, hc, hf⟩ := ob_bind hf
    have hPc : va_P (dC, dI) vwCl (wMd cI cJ A (Md_set_told x 0)) H := hP
    refine kg_retRi (va_runV (As := [.long ((v3 : Int32).toInt64), .long 0, .long 3]) (rest := []) ⟨hx, hb, hml, hown, hts⟩ (c_X6_isIn l dC dI cI cJ A H (Md_set_told x 0) ((v3 : Int32).toInt64) 0 3 _ hc) (cwV 3 hts (gw_V wd_9_10 wd_9_7 wd_9_8 wd_9_9 wd_1_5) rfl rfl rfl qX6_isIn ⟨Nat.le_of_ble_eq_true rfl, Nat.le_of_ble_eq_true rfl⟩) (kg_preVR (ci := 6) (q := (RX6, TX6, 30)) (q0 := 0) hPc hK hN rfl rfl) rfl rfl hl.1 rfl (lv_room (Nat.le_of_ble_eq_true rfl)) dX6_without_23 ⟨Nat.zero_le _, Nat.zero_le _⟩) ?_
    refine kg_b_eq (tgt := 52) hx hb hf dX6_without_26 (by decide) (fun hc hf => ?_) (fun hc hf => ?_)
    · refine lv_iconst (v := (-1)) hx hb dX6_without_52 (by decide) ?_
      obtain rfl := Option.some.inj hf
      exact kg_iretW hx hb hr hlk rfl hP hD hS dX6_without_53
    · refine lv_iload_n hx hb dX6_without_29 rfl (lv_at hl 1 rfl) ?_
      refine kg_if_ne (tgt := 44) hx hb hf dX6_without_30 (by decide) (fun hc hf => ?_) (fun hc hf => ?_)
      · refine lv_aload_n hx hb dX6_without_44 rfl (lv_at hl 0 rfl) ?_
        refine lv_iload_n hx hb dX6_without_45 rfl (lv_at hl 2 rfl) ?_
        obtain ⟨g46, hc, hf⟩ := ob_bind hf
        have hPc : va_P (dC, dI) vwCl (wMd cI cJ A (Md_set_told x 0)) H := hP
        refine kg_retRi (va_runV (As := [.int v2]) (rest := []) ⟨hx, hb, hml, hown, hts⟩ (c_X6_isNode l dC dI cI cJ A H (Md_set_told x 0) v2 _ hc) (cwV 1 hts (gw_V wd_12_13 wd_12_10 wd_12_11 wd_12_12 wd_1_5) rfl rfl rfl qX6_isNode ⟨Nat.le_of_ble_eq_true rfl, Nat.le_of_ble_eq_true rfl⟩) (kg_preVR (ci := 6) (q := (RX6, TX6, 30)) (q0 := 0) hPc hK hN rfl rfl) rfl rfl hl.1 rfl (lv_room (Nat.le_of_ble_eq_true rfl)) dX6_without_46 ⟨Nat.zero_le _, Nat.zero_le _⟩) ?_
        refine kg_b_ne (tgt := 54) hx hb hf dX6_without_49 (by decide) (fun hc hf => ?_) (fun hc hf => ?_)
        · exact hj54 (Md_set_told x 0) hf _ _ _ hP hD hS (lv_sub hl [0, 1, 2, 3] rfl)
        · refine lv_iconst (v := (-1)) hx hb dX6_without_52 (by decide) ?_
          obtain rfl := Option.some.inj hf
          exact kg_iretW hx hb hr hlk rfl hP hD hS dX6_without_53
      · refine lv_aload_n hx hb dX6_without_33 rfl (lv_at hl 0 rfl) ?_
        refine lv_iload_n hx hb dX6_without_34 rfl (lv_at hl 2 rfl) ?_
        obtain ⟨g35, hc, hf⟩ := ob_bind hf
        have hPc : va_P (dC, dI) vwCl (wMd cI cJ A (Md_set_told x 0)) H := hP
        refine kg_retRi (va_runV (As := [.int v2]) (rest := []) ⟨hx, hb, hml, hown, hts⟩ (c_X6_isLink l dC dI cI cJ A H (Md_set_told x 0) v2 _ hc) (cwV 1 hts (gw_V wd_18_17 wd_18_14 wd_18_15 wd_18_16 wd_1_5) rfl rfl rfl qX6_isLink ⟨Nat.le_of_ble_eq_true rfl, Nat.le_of_ble_eq_true rfl⟩) (kg_preVR (ci := 6) (q := (RX6, TX6, 30)) (q0 := 0) hPc hK hN rfl rfl) rfl rfl hl.1 rfl (lv_room (Nat.le_of_ble_eq_true rfl)) dX6_without_35 ⟨Nat.zero_le _, Nat.zero_le _⟩) ?_
        refine kg_b_eq (tgt := 52) hx hb hf dX6_without_38 (by decide) (fun hc hf => ?_) (fun hc hf => ?_)
        · refine lv_iconst (v := (-1)) hx hb dX6_without_52 (by decide) ?_
          obtain rfl := Option.some.inj hf
          exact kg_iretW hx hb hr hlk rfl hP hD hS dX6_without_53
        · refine lv_goto (tgt := 54) hx hb dX6_without_41 (by decide) ?_
          exact hj54 (Md_set_told x 0) hf _ _ _ hP hD hS (lv_sub hl [0, 1, 2, 3] rfl)
set_option maxHeartbeats 4000000 in
set_option maxRecDepth 100000 in
theorem c_X6_ring (l : Launch) (dC : Nat → ClassId) (dI : Nat → Nat → Nat) (cI cJ : ClassId) (A : Nat → Nat) (hq : Nat) (x : MdS) (v1 : Int32) (v2 : Int32) (r0 : (Int32 × MdS)) (hf : Md_m_ring x v1 v2 = some r0) : MWi l yX6_ring (wAll yX6_ring cX6_ring 3 (some .int)) ({ frames := 7, cells := 0, slots := 0, locals := 183 } : Room) [.ref (A 0), .int v1, .int v2] hq (dC, dI) (vTy cI cJ) (wMd cI cJ A x) (wMd cI cJ A r0.2) r0.1 := by
  refine kg_metW (Qc := fun Q => QWi (dC, dI) Q (wMd cI cJ A r0.2) r0.1) (cc := cX6_ring) (maxL := 3) (ret := (some .int)) (by decide) rfl (Nat.le_of_ble_eq_true rfl) ?_
  intro p e s m args below meth c Q hx hb hr hts hown hlk hml hP hK hN hD hA hS ls hl
  have hl : lv_has ls 3 [(0, .ref (A 0)), (1, .int v1), (2, .int v2)] := hl
  have ww0 := hts (.fieldLink RX6 71 "SafeBlocksModel" "told" "I") (List.mem_cons_of_mem _ wd_9_3)
  have ww1 := hts (.fieldLink RX6 17 "SafeBlocksModel" "second" "[I") (List.mem_cons_of_mem _ wd_8_1)
  have ww2 := hts (.fieldLink RX6 13 "SafeBlocksModel" "first" "[I") (List.mem_cons_of_mem _ wd_8_0)
  have ww3 := hts (.fieldLink RX6 311 "SafeBlocksModel" "wayLong" "I") (List.mem_cons_of_mem _ wd_33_21)
  have ww4 := hts (.fieldLink RX6 65 "SafeBlocksModel" "wayNode" "[I") (List.mem_cons_of_mem _ wd_8_17)
  have hiX6 : ∀ w ∈ u_ws RX6 TX6 30, w ∈ wAll yX6_ring cX6_ring 3 (some .int) := fun w h => List.mem_cons_of_mem _ (inlX6 w h)
  suffices hgo : ∀ (H : Heap) (locs : List Loc), va_P (dC, dI) vwCl (wMd cI cJ A x) H → va_S Q s.heap H locs → W p l e ({ frames := 7, cells := 0, slots := 0, locals := 183 } : Room) s m args below meth c H locs 0 0 (MQ below (QWi (dC, dI) Q (wMd cI cJ A r0.2) r0.1) args s 0 0 Q) (F0 m 0 ls []) from hgo _ _ hP hS
  clear hP hS
  intro H locs hP hS
  unfold Md_m_ring at hf
  refine lv_aload_n hx hb dX6_ring_0 rfl (lv_at hl 0 rfl) ?_
  refine lv_iconst (v := 0) hx hb dX6_ring_1 (by decide) ?_
  refine kg_put (ci := 6) (v := .int 0) (ty := .int) (C := RX6) (T := TX6) (N := 30) (wz := (wMd cI cJ A (Md_set_told x 0))) hx hb hts hiX6 tyX6 tyX6_ok nmX6 hown hK hP hD hS 0 rfl rfl 0 (by decide) ww0 (fun _ h9 => h9) rfl (tyX6_ok 0 (by decide)) rfl rfl (Nat.le_of_ble_eq_true rfl) dX6_ring_2 (sc_Md_told _ _ _ _ _) (fun H locs hP hD hS => ?_)
  refine lv_aload_n hx hb dX6_ring_5 rfl (lv_at hl 0 rfl) ?_
  refine lv_iload_n hx hb dX6_ring_6 rfl (lv_at hl 1 rfl) ?_
  obtain ⟨g7, hc, hf⟩ := ob_bind hf
  have hPc : va_P (dC, dI) vwCl (wMd cI cJ A (Md_set_told x 0)) H := hP
  refine kg_retRi (va_runV (As := [.int v1]) (rest := []) ⟨hx, hb, hml, hown, hts⟩ (c_X6_isLink l dC dI cI cJ A H (Md_set_told x 0) v1 _ hc) (cwV 1 hts (gw_V wd_18_17 wd_18_14 wd_18_15 wd_18_16 wd_1_5) rfl rfl rfl qX6_isLink ⟨Nat.le_of_ble_eq_true rfl, Nat.le_of_ble_eq_true rfl⟩) (kg_preVR (ci := 6) (q := (RX6, TX6, 30)) (q0 := 0) hPc hK hN rfl rfl) rfl rfl hl.1 rfl (lv_room (Nat.le_of_ble_eq_true rfl)) dX6_ring_7 ⟨Nat.zero_le _, Nat.zero_le _⟩) ?_
  refine kg_b_ne (tgt := 15) hx hb hf dX6_ring_10 (by decide) (fun hc hf => ?_) (fun hc hf => ?_)
  · refine lv_aload_n hx hb dX6_ring_15 rfl (lv_at hl 0 rfl) ?_
    obtain ⟨g16, hc, hf⟩ := ob_bind hf
    have hPx := kg_eqP (kg_slf _) hP
    have hDx := kg_eqD (kg_slf _) hD
    refine kg_retWv (pre := ([] : va_W)) (wc := wMd cI cJ A (Md_set_told x 0)) (post := ([] : va_W)) (w1 := wMd cI cJ A g16) (wz := (wMd cI cJ A g16)) (kg_slf _).symm hPx hDx hS hA (va_runV (As := []) (rest := []) ⟨hx, hb, hml, hown, hts⟩ (c_X6_runsAll l dC dI cI cJ A H.size (Md_set_told x 0) _ hc) (cwV 0 hts (gw_V wd_12_17 wd_12_14 wd_12_15 wd_12_16 wd_1_5) rfl rfl rfl qX6_runsAll ⟨Nat.le_of_ble_eq_true rfl, Nat.le_of_ble_eq_true rfl⟩) (kg_preVW (ci := 6) (q := (RX6, TX6, 30)) (q0 := 0) (kg_cutP hPx) (kg_cutD hDx) hK hN rfl rfl) rfl rfl hl.1 rfl (lv_room (Nat.le_of_ble_eq_true rfl)) dX6_ring_16 ⟨Nat.zero_le _, Nat.zero_le _⟩) (fun H locs hP hD hS => ?_)
    refine lv_aload_n hx hb dX6_ring_19 rfl (lv_at hl 0 rfl) ?_
    refine lv_iload_n hx hb dX6_ring_20 rfl (lv_at hl 1 rfl) ?_
    obtain ⟨g21, hc, hf⟩ := ob_bind hf
    have hPc : va_P (dC, dI) vwCl (wMd cI cJ A g16) H := hP
    refine kg_retRi (va_runV (As := [.int v1]) (rest := []) ⟨hx, hb, hml, hown, hts⟩ (c_X6_isBridge l dC dI cI cJ A H g16 v1 _ hc) (cwV 1 hts (gw_V wd_18_21 wd_18_18 wd_18_19 wd_18_20 wd_1_5) rfl rfl rfl qX6_isBridge ⟨Nat.le_of_ble_eq_true rfl, Nat.le_of_ble_eq_true rfl⟩) (kg_preVR (ci := 6) (q := (RX6, TX6, 30)) (q0 := 0) hPc hK hN rfl rfl) rfl rfl hl.1 rfl (lv_room (Nat.le_of_ble_eq_true rfl)) dX6_ring_21 ⟨Nat.zero_le _, Nat.zero_le _⟩) ?_
    refine kg_b_eq (tgt := 29) hx hb hf dX6_ring_24 (by decide) (fun hc hf => ?_) (fun hc hf => ?_)
    · refine lv_aload_n hx hb dX6_ring_29 rfl (lv_at hl 0 rfl) ?_
      refine lv_aload_n hx hb dX6_ring_30 rfl (lv_at hl 0 rfl) ?_
      refine va_get (D := (dC, dI)) (ci := 6) (v := .ref (A 2)) (C := RX6) (T := TX6) (N := 30) hx hb hts hiX6 hown hK hP 0 rfl rfl 5 (by decide) ww1 (fun _ h9 => h9) rfl dX6_ring_31 ?_
      refine lv_iload_n hx hb dX6_ring_34 rfl (lv_at hl 1 rfl) ?_
      obtain ⟨g35, hv, hf⟩ := ob_bind hf
      refine kg_iald hx hb hK hP 2 0 rfl rfl hv dX6_ring_35 ?_
      refine lv_aload_n hx hb dX6_ring_36 rfl (lv_at hl 0 rfl) ?_
      refine va_get (D := (dC, dI)) (ci := 6) (v := .ref (A 1)) (C := RX6) (T := TX6) (N := 30) hx hb hts hiX6 hown hK hP 0 rfl rfl 4 (by decide) ww2 (fun _ h9 => h9) rfl dX6_ring_37 ?_
      refine lv_iload_n hx hb dX6_ring_40 rfl (lv_at hl 1 rfl) ?_
      obtain ⟨g41, hv, hf⟩ := ob_bind hf
      refine kg_iald hx hb hK hP 1 0 rfl rfl hv dX6_ring_41 ?_
      refine lv_iload_n hx hb dX6_ring_42 rfl (lv_at hl 1 rfl) ?_
      obtain ⟨g43, hc, hf⟩ := ob_bind hf
      have hPx := kg_eqP (kg_slf _) hP
      have hDx := kg_eqD (kg_slf _) hD
      refine kg_retWi (pre := ([] : va_W)) (wc := wMd cI cJ A g16) (post := ([] : va_W)) (w1 := wMd cI cJ A g43.2) (wz := (wMd cI cJ A g43.2)) (kg_slf _).symm hPx hDx hS hA (va_runV (As := [.int g35, .int g41, .int v1]) (rest := []) ⟨hx, hb, hml, hown, hts⟩ (c_X6_laysWay l dC dI cI cJ A H.size g16 g35 g41 v1 _ hc) (cwV 3 hts (gw_V wd_34_1 wd_33_22 wd_33_23 wd_34_0 wd_1_5) rfl rfl rfl qX6_laysWay ⟨Nat.le_of_ble_eq_true rfl, Nat.le_of_ble_eq_true rfl⟩) (kg_preVW (ci := 6) (q := (RX6, TX6, 30)) (q0 := 0) (kg_cutP hPx) (kg_cutD hDx) hK hN rfl rfl) rfl rfl hl.1 rfl (lv_room (Nat.le_of_ble_eq_true rfl)) dX6_ring_43 ⟨Nat.zero_le _, Nat.zero_le _⟩) (fun H locs hP hD hS => ?_)
      refine lv_pop hx hb dX6_ring_46 rfl ?_
      refine lv_iload_n hx hb dX6_ring_47 rfl (lv_at hl 2 rfl) ?_
      refine lv_iconst (v := (-1)) hx hb dX6_ring_48 (by decide) ?_
      refine kg_icmp_ne (tgt := 59) hx hb hf dX6_ring_49 (by decide) (fun hc hf => ?_) (fun hc hf => ?_)
      · refine lv_aload_n hx hb dX6_ring_59 rfl (lv_at hl 0 rfl) ?_
        refine lv_iload_n hx hb dX6_ring_60 rfl (lv_at hl 2 rfl) ?_
        refine lv_i2l hx hb dX6_ring_61 rfl ?_
        refine lv_lconst (v := 0) hx hb dX6_ring_62 (by decide) ?_
        refine lv_aload_n hx hb dX6_ring_63 rfl (lv_at hl 0 rfl) ?_
        refine va_get (D := (dC, dI)) (ci := 6) (v := .int (Md_wayLong g43.2)) (C := RX6) (T := TX6) (N := 30) hx hb hts hiX6 hown hK hP 0 rfl rfl 29 (by decide) ww3 (fun _ h9 => h9) rfl dX6_ring_64 ?_
        refine lv_i2l hx hb dX6_ring_67 rfl ?_
        obtain ⟨g68, hc, hf⟩ := ob_bind hf
        have hPc : va_P (dC, dI) vwCl (wMd cI cJ A g43.2) H := hP
        refine kg_retRi (va_runV (As := [.long ((v2 : Int32).toInt64), .long 0, .long (((Md_wayLong g43.2) : Int32).toInt64)]) (rest := []) ⟨hx, hb, hml, hown, hts⟩ (c_X6_isIn l dC dI cI cJ A H g43.2 ((v2 : Int32).toInt64) 0 (((Md_wayLong g43.2) : Int32).toInt64) _ hc) (cwV 3 hts (gw_V wd_9_10 wd_9_7 wd_9_8 wd_9_9 wd_1_5) rfl rfl rfl qX6_isIn ⟨Nat.le_of_ble_eq_true rfl, Nat.le_of_ble_eq_true rfl⟩) (kg_preVR (ci := 6) (q := (RX6, TX6, 30)) (q0 := 0) hPc hK hN rfl rfl) rfl rfl hl.1 rfl (lv_room (Nat.le_of_ble_eq_true rfl)) dX6_ring_68 ⟨Nat.zero_le _, Nat.zero_le _⟩) ?_
        refine kg_b_eq (tgt := 83) hx hb hf dX6_ring_71 (by decide) (fun hc hf => ?_) (fun hc hf => ?_)
        · refine lv_iconst (v := (-1)) hx hb dX6_ring_83 (by decide) ?_
          obtain rfl := Option.some.inj hf
          exact kg_iretW hx hb hr hlk rfl hP hD hS dX6_ring_84
        · refine lv_aload_n hx hb dX6_ring_74 rfl (lv_at hl 0 rfl) ?_
          refine va_get (D := (dC, dI)) (ci := 6) (v := .ref (A 16)) (C := RX6) (T := TX6) (N := 30) hx hb hts hiX6 hown hK hP 0 rfl rfl 27 (by decide) ww4 (fun _ h9 => h9) rfl dX6_ring_75 ?_
          refine lv_iload_n hx hb dX6_ring_78 rfl (lv_at hl 2 rfl) ?_
          obtain ⟨g79, hv, hf⟩ := ob_bind hf
          refine kg_iald hx hb hK hP 16 0 rfl rfl hv dX6_ring_79 ?_
          refine lv_goto (tgt := 84) hx hb dX6_ring_80 (by decide) ?_
          obtain rfl := Option.some.inj hf
          exact kg_iretW hx hb hr hlk rfl hP hD hS dX6_ring_84
      · refine lv_aload_n hx hb dX6_ring_52 rfl (lv_at hl 0 rfl) ?_
        refine va_get (D := (dC, dI)) (ci := 6) (v := .int (Md_wayLong g43.2)) (C := RX6) (T := TX6) (N := 30) hx hb hts hiX6 hown hK hP 0 rfl rfl 29 (by decide) ww3 (fun _ h9 => h9) rfl dX6_ring_53 ?_
        refine lv_iconst (v := 1) hx hb dX6_ring_56 (by decide) ?_
        refine lv_iadd hx hb dX6_ring_57 ?_
        obtain rfl := Option.some.inj hf
        exact kg_iretW hx hb hr hlk rfl hP hD hS dX6_ring_58
    · refine lv_iconst (v := (-1)) hx hb dX6_ring_27 (by decide) ?_
      obtain rfl := Option.some.inj hf
      exact kg_iretW hx hb hr hlk rfl hP hD hS dX6_ring_28
  · refine lv_iconst (v := (-1)) hx hb dX6_ring_13 (by decide) ?_
    obtain rfl := Option.some.inj hf
    exact kg_iretW hx hb hr hlk rfl hP hD hS dX6_ring_14
set_option maxHeartbeats 4000000 in
set_option maxRecDepth 100000 in
theorem c_X6_bridgesBy (l : Launch) (dC : Nat → ClassId) (dI : Nat → Nat → Nat) (cI cJ : ClassId) (A : Nat → Nat) (hq : Nat) (x : MdS) (v1 : Int32) (r0 : (Int32 × MdS)) (hf : Md_m_bridgesBy x v1 = some r0) : MWi l yX6_bridgesBy (wAll yX6_bridgesBy cX6_bridgesBy 2 (some .int)) ({ frames := 6, cells := 0, slots := 0, locals := 163 } : Room) [.ref (A 0), .int v1] hq (dC, dI) (vTy cI cJ) (wMd cI cJ A x) (wMd cI cJ A r0.2) r0.1 := by
  refine kg_metW (Qc := fun Q => QWi (dC, dI) Q (wMd cI cJ A r0.2) r0.1) (cc := cX6_bridgesBy) (maxL := 2) (ret := (some .int)) (by decide) rfl (Nat.le_of_ble_eq_true rfl) ?_
  intro p e s m args below meth c Q hx hb hr hts hown hlk hml hP hK hN hD hA hS ls hl
  have hl : lv_has ls 2 [(0, .ref (A 0)), (1, .int v1)] := hl
  have ww0 := hts (.fieldLink RX6 71 "SafeBlocksModel" "told" "I") (List.mem_cons_of_mem _ wd_9_3)
  have ww1 := hts (.fieldLink RX6 78 "SafeBlocksModel" "m" "I") (List.mem_cons_of_mem _ wd_9_6)
  have ww2 := hts (.fieldLink RX6 20 "SafeBlocksModel" "run" "I") (List.mem_cons_of_mem _ wd_8_2)
  have hiX6 : ∀ w ∈ u_ws RX6 TX6 30, w ∈ wAll yX6_bridgesBy cX6_bridgesBy 2 (some .int) := fun w h => List.mem_cons_of_mem _ (inlX6 w h)
  suffices hgo : ∀ (H : Heap) (locs : List Loc), va_P (dC, dI) vwCl (wMd cI cJ A x) H → va_S Q s.heap H locs → W p l e ({ frames := 6, cells := 0, slots := 0, locals := 163 } : Room) s m args below meth c H locs 0 0 (MQ below (QWi (dC, dI) Q (wMd cI cJ A r0.2) r0.1) args s 0 0 Q) (F0 m 0 ls []) from hgo _ _ hP hS
  clear hP hS
  intro H locs hP hS
  unfold Md_m_bridgesBy at hf
  refine lv_aload_n hx hb dX6_bridgesBy_0 rfl (lv_at hl 0 rfl) ?_
  refine lv_iconst (v := 0) hx hb dX6_bridgesBy_1 (by decide) ?_
  refine kg_put (ci := 6) (v := .int 0) (ty := .int) (C := RX6) (T := TX6) (N := 30) (wz := (wMd cI cJ A (Md_set_told x 0))) hx hb hts hiX6 tyX6 tyX6_ok nmX6 hown hK hP hD hS 0 rfl rfl 0 (by decide) ww0 (fun _ h9 => h9) rfl (tyX6_ok 0 (by decide)) rfl rfl (Nat.le_of_ble_eq_true rfl) dX6_bridgesBy_2 (sc_Md_told _ _ _ _ _) (fun H locs hP hD hS => ?_)
  refine lv_aload_n hx hb dX6_bridgesBy_5 rfl (lv_at hl 0 rfl) ?_
  refine lv_iload_n hx hb dX6_bridgesBy_6 rfl (lv_at hl 1 rfl) ?_
  refine lv_i2l hx hb dX6_bridgesBy_7 rfl ?_
  refine lv_lconst (v := 0) hx hb dX6_bridgesBy_8 (by decide) ?_
  refine lv_aload_n hx hb dX6_bridgesBy_9 rfl (lv_at hl 0 rfl) ?_
  refine va_get (D := (dC, dI)) (ci := 6) (v := .int (Md_m (Md_set_told x 0))) (C := RX6) (T := TX6) (N := 30) hx hb hts hiX6 hown hK hP 0 rfl rfl 2 (by decide) ww1 (fun _ h9 => h9) rfl dX6_bridgesBy_10 ?_
  refine lv_i2l hx hb dX6_bridgesBy_13 rfl ?_
  obtain ⟨g14, hc, hf⟩ := ob_bind hf
  have hPc : va_P (dC, dI) vwCl (wMd cI cJ A (Md_set_told x 0)) H := hP
  refine kg_retRi (va_runV (As := [.long ((v1 : Int32).toInt64), .long 0, .long (((Md_m (Md_set_told x 0)) : Int32).toInt64)]) (rest := []) ⟨hx, hb, hml, hown, hts⟩ (c_X6_isIn l dC dI cI cJ A H (Md_set_told x 0) ((v1 : Int32).toInt64) 0 (((Md_m (Md_set_told x 0)) : Int32).toInt64) _ hc) (cwV 3 hts (gw_V wd_9_10 wd_9_7 wd_9_8 wd_9_9 wd_1_5) rfl rfl rfl qX6_isIn ⟨Nat.le_of_ble_eq_true rfl, Nat.le_of_ble_eq_true rfl⟩) (kg_preVR (ci := 6) (q := (RX6, TX6, 30)) (q0 := 0) hPc hK hN rfl rfl) rfl rfl hl.1 rfl (lv_room (Nat.le_of_ble_eq_true rfl)) dX6_bridgesBy_14 ⟨Nat.zero_le _, Nat.zero_le _⟩) ?_
  refine kg_b_ne (tgt := 22) hx hb hf dX6_bridgesBy_17 (by decide) (fun hc hf => ?_) (fun hc hf => ?_)
  · refine lv_aload_n hx hb dX6_bridgesBy_22 rfl (lv_at hl 0 rfl) ?_
    refine lv_iconst (v := (-1)) hx hb dX6_bridgesBy_23 (by decide) ?_
    refine kg_put (ci := 6) (v := .int (-1)) (ty := .int) (C := RX6) (T := TX6) (N := 30) (wz := (wMd cI cJ A (Md_set_run (Md_set_told x 0) (-1)))) hx hb hts hiX6 tyX6 tyX6_ok nmX6 hown hK hP hD hS 0 rfl rfl 6 (by decide) ww2 (fun _ h9 => h9) rfl (tyX6_ok 6 (by decide)) rfl rfl (Nat.le_of_ble_eq_true rfl) dX6_bridgesBy_24 (sc_Md_run _ _ _ _ _) (fun H locs hP hD hS => ?_)
    refine lv_aload_n hx hb dX6_bridgesBy_27 rfl (lv_at hl 0 rfl) ?_
    refine lv_iload_n hx hb dX6_bridgesBy_28 rfl (lv_at hl 1 rfl) ?_
    obtain ⟨g29, hc, hf⟩ := ob_bind hf
    have hPx := kg_eqP (kg_slf _) hP
    have hDx := kg_eqD (kg_slf _) hD
    refine kg_retWv (pre := ([] : va_W)) (wc := wMd cI cJ A (Md_set_run (Md_set_told x 0) (-1))) (post := ([] : va_W)) (w1 := wMd cI cJ A g29) (wz := (wMd cI cJ A g29)) (kg_slf _).symm hPx hDx hS hA (va_runV (As := [.int v1]) (rest := []) ⟨hx, hb, hml, hown, hts⟩ (c_X6_runs l dC dI cI cJ A H.size (Md_set_run (Md_set_told x 0) (-1)) v1 _ hc) (cwV 1 hts (gw_V wd_12_21 wd_12_18 wd_12_19 wd_12_20 wd_1_5) rfl rfl rfl qX6_runs ⟨Nat.le_of_ble_eq_true rfl, Nat.le_of_ble_eq_true rfl⟩) (kg_preVW (ci := 6) (q := (RX6, TX6, 30)) (q0 := 0) (kg_cutP hPx) (kg_cutD hDx) hK hN rfl rfl) rfl rfl hl.1 rfl (lv_room (Nat.le_of_ble_eq_true rfl)) dX6_bridgesBy_29 ⟨Nat.zero_le _, Nat.zero_le _⟩) (fun H locs hP hD hS => ?_)
    refine lv_aload_n hx hb dX6_bridgesBy_32 rfl (lv_at hl 0 rfl) ?_
    obtain ⟨g33, hc, hf⟩ := ob_bind hf
    have hPc : va_P (dC, dI) vwCl (wMd cI cJ A g29) H := hP
    refine kg_retRi (va_runV (As := []) (rest := []) ⟨hx, hb, hml, hown, hts⟩ (c_X6_bridges l dC dI cI cJ A H g29 _ hc) (cwV 0 hts (gw_V wd_15_9 wd_15_6 wd_15_7 wd_15_8 wd_1_5) rfl rfl rfl qX6_bridges ⟨Nat.le_of_ble_eq_true rfl, Nat.le_of_ble_eq_true rfl⟩) (kg_preVR (ci := 6) (q := (RX6, TX6, 30)) (q0 := 0) hPc hK hN rfl rfl) rfl rfl hl.1 rfl (lv_room (Nat.le_of_ble_eq_true rfl)) dX6_bridgesBy_33 ⟨Nat.zero_le _, Nat.zero_le _⟩) ?_
    obtain rfl := Option.some.inj hf
    exact kg_iretW hx hb hr hlk rfl hP hD hS dX6_bridgesBy_36
  · refine lv_iconst (v := (-1)) hx hb dX6_bridgesBy_20 (by decide) ?_
    obtain rfl := Option.some.inj hf
    exact kg_iretW hx hb hr hlk rfl hP hD hS dX6_bridgesBy_21
set_option maxHeartbeats 4000000 in
set_option maxRecDepth 100000 in
theorem c_X6_look (l : Launch) (dC : Nat → ClassId) (dI : Nat → Nat → Nat) (cI cJ : ClassId) (A : Nat → Nat) (hq : Nat) (x : MdS) (v1 : Int32) (r0 : (Int32 × MdS)) (hf : Md_m_look x v1 = some r0) : MWi l yX6_look (wAll yX6_look cX6_look 2 (some .int)) ({ frames := 8, cells := 0, slots := 0, locals := 196 } : Room) [.ref (A 0), .int v1] hq (dC, dI) (vTy cI cJ) (wMd cI cJ A x) (wMd cI cJ A r0.2) r0.1 := by
  refine kg_metW (Qc := fun Q => QWi (dC, dI) Q (wMd cI cJ A r0.2) r0.1) (cc := cX6_look) (maxL := 2) (ret := (some .int)) (by decide) rfl (Nat.le_of_ble_eq_true rfl) ?_
  intro p e s m args below meth c Q hx hb hr hts hown hlk hml hP hK hN hD hA hS ls hl
  have hl : lv_has ls 2 [(0, .ref (A 0)), (1, .int v1)] := hl
  have ww0 := hts (.fieldLink RX6 71 "SafeBlocksModel" "told" "I") (List.mem_cons_of_mem _ wd_9_3)
  have ww1 := hts (.fieldLink RX6 7 "SafeBlocksModel" "n" "I") (List.mem_cons_of_mem _ wd_7_23)
  have ww2 := hts (.fieldLink RX6 78 "SafeBlocksModel" "m" "I") (List.mem_cons_of_mem _ wd_9_6)
  have ww3 := hts (.fieldLink RX6 192 "SafeBlocksModel" "parts" "I") (List.mem_cons_of_mem _ wd_19_6)
  have ww4 := hts (.fieldLink RX6 166 "SafeBlocksModel" "state" "I") (List.mem_cons_of_mem _ wd_17_0)
  have hiX6 : ∀ w ∈ u_ws RX6 TX6 30, w ∈ wAll yX6_look cX6_look 2 (some .int) := fun w h => List.mem_cons_of_mem _ (inlX6 w h)
  suffices hgo : ∀ (H : Heap) (locs : List Loc), va_P (dC, dI) vwCl (wMd cI cJ A x) H → va_S Q s.heap H locs → W p l e ({ frames := 8, cells := 0, slots := 0, locals := 196 } : Room) s m args below meth c H locs 0 0 (MQ below (QWi (dC, dI) Q (wMd cI cJ A r0.2) r0.1) args s 0 0 Q) (F0 m 0 ls []) from hgo _ _ hP hS
  clear hP hS
  intro H locs hP hS
  unfold Md_m_look at hf
  refine lv_aload_n hx hb dX6_look_0 rfl (lv_at hl 0 rfl) ?_
  refine lv_iconst (v := 0) hx hb dX6_look_1 (by decide) ?_
  refine kg_put (ci := 6) (v := .int 0) (ty := .int) (C := RX6) (T := TX6) (N := 30) (wz := (wMd cI cJ A (Md_set_told x 0))) hx hb hts hiX6 tyX6 tyX6_ok nmX6 hown hK hP hD hS 0 rfl rfl 0 (by decide) ww0 (fun _ h9 => h9) rfl (tyX6_ok 0 (by decide)) rfl rfl (Nat.le_of_ble_eq_true rfl) dX6_look_2 (sc_Md_told _ _ _ _ _) (fun H locs hP hD hS => ?_)
  refine lv_aload_n hx hb dX6_look_5 rfl (lv_at hl 0 rfl) ?_
  obtain ⟨g6, hc, hf⟩ := ob_bind hf
  have hPx := kg_eqP (kg_slf _) hP
  have hDx := kg_eqD (kg_slf _) hD
  refine kg_retWv (pre := ([] : va_W)) (wc := wMd cI cJ A (Md_set_told x 0)) (post := ([] : va_W)) (w1 := wMd cI cJ A g6) (wz := (wMd cI cJ A g6)) (kg_slf _).symm hPx hDx hS hA (va_runV (As := []) (rest := []) ⟨hx, hb, hml, hown, hts⟩ (c_X6_runsAll l dC dI cI cJ A H.size (Md_set_told x 0) _ hc) (cwV 0 hts (gw_V wd_12_17 wd_12_14 wd_12_15 wd_12_16 wd_1_5) rfl rfl rfl qX6_runsAll ⟨Nat.le_of_ble_eq_true rfl, Nat.le_of_ble_eq_true rfl⟩) (kg_preVW (ci := 6) (q := (RX6, TX6, 30)) (q0 := 0) (kg_cutP hPx) (kg_cutD hDx) hK hN rfl rfl) rfl rfl hl.1 rfl (lv_room (Nat.le_of_ble_eq_true rfl)) dX6_look_6 ⟨Nat.zero_le _, Nat.zero_le _⟩) (fun H locs hP hD hS => ?_)
  refine lv_aload_n hx hb dX6_look_9 rfl (lv_at hl 0 rfl) ?_
  obtain ⟨g10, hc, hf⟩ := ob_bind hf
  have hPx := kg_eqP (kg_slf _) hP
  have hDx := kg_eqD (kg_slf _) hD
  refine kg_retWv (pre := ([] : va_W)) (wc := wMd cI cJ A g6) (post := ([] : va_W)) (w1 := wMd cI cJ A g10) (wz := (wMd cI cJ A g10)) (kg_slf _).symm hPx hDx hS hA (va_runV (As := []) (rest := []) ⟨hx, hb, hml, hown, hts⟩ (c_X6_laysAllParts l dC dI cI cJ A H.size g6 _ hc) (cwV 0 hts (gw_V wd_19_1 wd_18_22 wd_18_23 wd_19_0 wd_1_5) rfl rfl rfl qX6_laysAllParts ⟨Nat.le_of_ble_eq_true rfl, Nat.le_of_ble_eq_true rfl⟩) (kg_preVW (ci := 6) (q := (RX6, TX6, 30)) (q0 := 0) (kg_cutP hPx) (kg_cutD hDx) hK hN rfl rfl) rfl rfl hl.1 rfl (lv_room (Nat.le_of_ble_eq_true rfl)) dX6_look_10 ⟨Nat.zero_le _, Nat.zero_le _⟩) (fun H locs hP hD hS => ?_)
  refine lv_iload_n hx hb dX6_look_13 rfl (lv_at hl 1 rfl) ?_
  by_cases hc0 : v1 = 0
  · rw [if_pos hc0] at hf
    refine lv_tableIn (tgt := 72) (off := 58) hx hb dX6_look_14 (by rw [hc0]; decide) (by rw [hc0]; decide) (by rw [hc0]; rfl) (by decide) ?_
    refine lv_aload_n hx hb dX6_look_72 rfl (lv_at hl 0 rfl) ?_
    refine va_get (D := (dC, dI)) (ci := 6) (v := .int (Md_n g10)) (C := RX6) (T := TX6) (N := 30) hx hb hts hiX6 hown hK hP 0 rfl rfl 1 (by decide) ww1 (fun _ h9 => h9) rfl dX6_look_73 ?_
    obtain rfl := Option.some.inj hf
    exact kg_iretW hx hb hr hlk rfl hP hD hS dX6_look_76
  · rw [if_neg hc0] at hf
    by_cases hc1 : v1 = 1
    · rw [if_pos hc1] at hf
      refine lv_tableIn (tgt := 77) (off := 63) hx hb dX6_look_14 (by rw [hc1]; decide) (by rw [hc1]; decide) (by rw [hc1]; rfl) (by decide) ?_
      refine lv_aload_n hx hb dX6_look_77 rfl (lv_at hl 0 rfl) ?_
      refine va_get (D := (dC, dI)) (ci := 6) (v := .int (Md_m g10)) (C := RX6) (T := TX6) (N := 30) hx hb hts hiX6 hown hK hP 0 rfl rfl 2 (by decide) ww2 (fun _ h9 => h9) rfl dX6_look_78 ?_
      obtain rfl := Option.some.inj hf
      exact kg_iretW hx hb hr hlk rfl hP hD hS dX6_look_81
    · rw [if_neg hc1] at hf
      by_cases hc2 : v1 = 2
      · rw [if_pos hc2] at hf
        refine lv_tableIn (tgt := 82) (off := 68) hx hb dX6_look_14 (by rw [hc2]; decide) (by rw [hc2]; decide) (by rw [hc2]; rfl) (by decide) ?_
        refine lv_aload_n hx hb dX6_look_82 rfl (lv_at hl 0 rfl) ?_
        obtain ⟨g83, hc, hf⟩ := ob_bind hf
        have hPc : va_P (dC, dI) vwCl (wMd cI cJ A g10) H := hP
        refine kg_retRi (va_runV (As := []) (rest := []) ⟨hx, hb, hml, hown, hts⟩ (c_X6_bridges l dC dI cI cJ A H g10 _ hc) (cwV 0 hts (gw_V wd_15_9 wd_15_6 wd_15_7 wd_15_8 wd_1_5) rfl rfl rfl qX6_bridges ⟨Nat.le_of_ble_eq_true rfl, Nat.le_of_ble_eq_true rfl⟩) (kg_preVR (ci := 6) (q := (RX6, TX6, 30)) (q0 := 0) hPc hK hN rfl rfl) rfl rfl hl.1 rfl (lv_room (Nat.le_of_ble_eq_true rfl)) dX6_look_83 ⟨Nat.zero_le _, Nat.zero_le _⟩) ?_
        obtain rfl := Option.some.inj hf
        exact kg_iretW hx hb hr hlk rfl hP hD hS dX6_look_86
      · rw [if_neg hc2] at hf
        by_cases hc3 : v1 = 3
        · rw [if_pos hc3] at hf
          refine lv_tableIn (tgt := 87) (off := 73) hx hb dX6_look_14 (by rw [hc3]; decide) (by rw [hc3]; decide) (by rw [hc3]; rfl) (by decide) ?_
          refine lv_aload_n hx hb dX6_look_87 rfl (lv_at hl 0 rfl) ?_
          refine lv_iconst (v := 0) hx hb dX6_look_88 (by decide) ?_
          obtain ⟨g89, hc, hf⟩ := ob_bind hf
          have hPc : va_P (dC, dI) vwCl (wMd cI cJ A g10) H := hP
          refine kg_retRi (va_runV (As := [.int 0]) (rest := []) ⟨hx, hb, hml, hown, hts⟩ (c_X6_names l dC dI cI cJ A H g10 0 _ hc) (cwV 1 hts (gw_V wd_44_21 wd_44_18 wd_44_19 wd_44_20 wd_1_5) rfl rfl rfl qX6_names ⟨Nat.le_of_ble_eq_true rfl, Nat.le_of_ble_eq_true rfl⟩) (kg_preVR (ci := 6) (q := (RX6, TX6, 30)) (q0 := 0) hPc hK hN rfl rfl) rfl rfl hl.1 rfl (lv_room (Nat.le_of_ble_eq_true rfl)) dX6_look_89 ⟨Nat.zero_le _, Nat.zero_le _⟩) ?_
          obtain rfl := Option.some.inj hf
          exact kg_iretW hx hb hr hlk rfl hP hD hS dX6_look_92
        · rw [if_neg hc3] at hf
          by_cases hc4 : v1 = 4
          · rw [if_pos hc4] at hf
            refine lv_tableIn (tgt := 93) (off := 79) hx hb dX6_look_14 (by rw [hc4]; decide) (by rw [hc4]; decide) (by rw [hc4]; rfl) (by decide) ?_
            refine lv_aload_n hx hb dX6_look_93 rfl (lv_at hl 0 rfl) ?_
            refine lv_iconst (v := 1) hx hb dX6_look_94 (by decide) ?_
            obtain ⟨g95, hc, hf⟩ := ob_bind hf
            have hPc : va_P (dC, dI) vwCl (wMd cI cJ A g10) H := hP
            refine kg_retRi (va_runV (As := [.int 1]) (rest := []) ⟨hx, hb, hml, hown, hts⟩ (c_X6_names l dC dI cI cJ A H g10 1 _ hc) (cwV 1 hts (gw_V wd_44_21 wd_44_18 wd_44_19 wd_44_20 wd_1_5) rfl rfl rfl qX6_names ⟨Nat.le_of_ble_eq_true rfl, Nat.le_of_ble_eq_true rfl⟩) (kg_preVR (ci := 6) (q := (RX6, TX6, 30)) (q0 := 0) hPc hK hN rfl rfl) rfl rfl hl.1 rfl (lv_room (Nat.le_of_ble_eq_true rfl)) dX6_look_95 ⟨Nat.zero_le _, Nat.zero_le _⟩) ?_
            obtain rfl := Option.some.inj hf
            exact kg_iretW hx hb hr hlk rfl hP hD hS dX6_look_98
          · rw [if_neg hc4] at hf
            by_cases hc5 : v1 = 5
            · rw [if_pos hc5] at hf
              refine lv_tableIn (tgt := 99) (off := 85) hx hb dX6_look_14 (by rw [hc5]; decide) (by rw [hc5]; decide) (by rw [hc5]; rfl) (by decide) ?_
              refine lv_aload_n hx hb dX6_look_99 rfl (lv_at hl 0 rfl) ?_
              refine va_get (D := (dC, dI)) (ci := 6) (v := .int (Md_parts g10)) (C := RX6) (T := TX6) (N := 30) hx hb hts hiX6 hown hK hP 0 rfl rfl 19 (by decide) ww3 (fun _ h9 => h9) rfl dX6_look_100 ?_
              obtain rfl := Option.some.inj hf
              exact kg_iretW hx hb hr hlk rfl hP hD hS dX6_look_103
            · rw [if_neg hc5] at hf
              by_cases hc6 : v1 = 6
              · rw [if_pos hc6] at hf
                refine lv_tableIn (tgt := 104) (off := 90) hx hb dX6_look_14 (by rw [hc6]; decide) (by rw [hc6]; decide) (by rw [hc6]; rfl) (by decide) ?_
                refine lv_aload_n hx hb dX6_look_104 rfl (lv_at hl 0 rfl) ?_
                obtain ⟨g105, hc, hf⟩ := ob_bind hf
                have hPc : va_P (dC, dI) vwCl (wMd cI cJ A g10) H := hP
                refine kg_retRi (va_runV (As := []) (rest := []) ⟨hx, hb, hml, hown, hts⟩ (c_X6_cuts l dC dI cI cJ A H g10 _ hc) (cwV 0 hts (gw_V wd_45_1 wd_44_22 wd_44_23 wd_45_0 wd_1_5) rfl rfl rfl qX6_cuts ⟨Nat.le_of_ble_eq_true rfl, Nat.le_of_ble_eq_true rfl⟩) (kg_preVR (ci := 6) (q := (RX6, TX6, 30)) (q0 := 0) hPc hK hN rfl rfl) rfl rfl hl.1 rfl (lv_room (Nat.le_of_ble_eq_true rfl)) dX6_look_105 ⟨Nat.zero_le _, Nat.zero_le _⟩) ?_
                obtain rfl := Option.some.inj hf
                exact kg_iretW hx hb hr hlk rfl hP hD hS dX6_look_108
              · rw [if_neg hc6] at hf
                by_cases hc7 : v1 = 7
                · rw [if_pos hc7] at hf
                  refine lv_tableIn (tgt := 109) (off := 95) hx hb dX6_look_14 (by rw [hc7]; decide) (by rw [hc7]; decide) (by rw [hc7]; rfl) (by decide) ?_
                  refine lv_aload_n hx hb dX6_look_109 rfl (lv_at hl 0 rfl) ?_
                  obtain ⟨g110, hc, hf⟩ := ob_bind hf
                  have hPc : va_P (dC, dI) vwCl (wMd cI cJ A g10) H := hP
                  refine kg_retRi (va_runV (As := []) (rest := []) ⟨hx, hb, hml, hown, hts⟩ (c_X6_frail l dC dI cI cJ A H g10 _ hc) (cwV 0 hts (gw_V wd_45_5 wd_45_2 wd_45_3 wd_45_4 wd_1_5) rfl rfl rfl qX6_frail ⟨Nat.le_of_ble_eq_true rfl, Nat.le_of_ble_eq_true rfl⟩) (kg_preVR (ci := 6) (q := (RX6, TX6, 30)) (q0 := 0) hPc hK hN rfl rfl) rfl rfl hl.1 rfl (lv_room (Nat.le_of_ble_eq_true rfl)) dX6_look_110 ⟨Nat.zero_le _, Nat.zero_le _⟩) ?_
                  obtain rfl := Option.some.inj hf
                  exact kg_iretW hx hb hr hlk rfl hP hD hS dX6_look_113
                · rw [if_neg hc7] at hf
                  by_cases hc8 : v1 = 8
                  · rw [if_pos hc8] at hf
                    refine lv_tableIn (tgt := 114) (off := 100) hx hb dX6_look_14 (by rw [hc8]; decide) (by rw [hc8]; decide) (by rw [hc8]; rfl) (by decide) ?_
                    refine lv_aload_n hx hb dX6_look_114 rfl (lv_at hl 0 rfl) ?_
                    obtain ⟨g115, hc, hf⟩ := ob_bind hf
                    have hPc : va_P (dC, dI) vwCl (wMd cI cJ A g10) H := hP
                    refine kg_retRi (va_runV (As := []) (rest := []) ⟨hx, hb, hml, hown, hts⟩ (c_X6_mends l dC dI cI cJ A H g10 _ hc) (cwV 0 hts (gw_V wd_45_9 wd_45_6 wd_45_7 wd_45_8 wd_1_5) rfl rfl rfl qX6_mends ⟨Nat.le_of_ble_eq_true rfl, Nat.le_of_ble_eq_true rfl⟩) (kg_preVR (ci := 6) (q := (RX6, TX6, 30)) (q0 := 0) hPc hK hN rfl rfl) rfl rfl hl.1 rfl (lv_room (Nat.le_of_ble_eq_true rfl)) dX6_look_115 ⟨Nat.zero_le _, Nat.zero_le _⟩) ?_
                    obtain rfl := Option.some.inj hf
                    exact kg_iretW hx hb hr hlk rfl hP hD hS dX6_look_118
                  · rw [if_neg hc8] at hf
                    by_cases hc9 : v1 = 9
                    · rw [if_pos hc9] at hf
                      refine lv_tableIn (tgt := 119) (off := 105) hx hb dX6_look_14 (by rw [hc9]; decide) (by rw [hc9]; decide) (by rw [hc9]; rfl) (by decide) ?_
                      refine lv_aload_n hx hb dX6_look_119 rfl (lv_at hl 0 rfl) ?_
                      refine va_get (D := (dC, dI)) (ci := 6) (v := .int (Md_state g10)) (C := RX6) (T := TX6) (N := 30) hx hb hts hiX6 hown hK hP 0 rfl rfl 3 (by decide) ww4 (fun _ h9 => h9) rfl dX6_look_120 ?_
                      obtain rfl := Option.some.inj hf
                      exact kg_iretW hx hb hr hlk rfl hP hD hS dX6_look_123
                    · rw [if_neg hc9] at hf
                      by_cases hc10 : v1 = 10
                      · rw [if_pos hc10] at hf
                        refine lv_tableIn (tgt := 124) (off := 110) hx hb dX6_look_14 (by rw [hc10]; decide) (by rw [hc10]; decide) (by rw [hc10]; rfl) (by decide) ?_
                        refine lv_aload_n hx hb dX6_look_124 rfl (lv_at hl 0 rfl) ?_
                        obtain ⟨g125, hc, hf⟩ := ob_bind hf
                        have hPc : va_P (dC, dI) vwCl (wMd cI cJ A g10) H := hP
                        refine kg_retRi (va_runV (As := []) (rest := []) ⟨hx, hb, hml, hown, hts⟩ (c_X6_safePairs l dC dI cI cJ A H g10 _ hc) (cwV 0 hts (gw_V wd_45_13 wd_45_10 wd_45_11 wd_45_12 wd_1_5) rfl rfl rfl qX6_safePairs ⟨Nat.le_of_ble_eq_true rfl, Nat.le_of_ble_eq_true rfl⟩) (kg_preVR (ci := 6) (q := (RX6, TX6, 30)) (q0 := 0) hPc hK hN rfl rfl) rfl rfl hl.1 rfl (lv_room (Nat.le_of_ble_eq_true rfl)) dX6_look_125 ⟨Nat.zero_le _, Nat.zero_le _⟩) ?_
                        obtain rfl := Option.some.inj hf
                        exact kg_iretW hx hb hr hlk rfl hP hD hS dX6_look_128
                      · rw [if_neg hc10] at hf
                        have ehc0 := ne_toInt hc0 (k := 0) (by decide)
                        have ehc1 := ne_toInt hc1 (k := 1) (by decide)
                        have ehc2 := ne_toInt hc2 (k := 2) (by decide)
                        have ehc3 := ne_toInt hc3 (k := 3) (by decide)
                        have ehc4 := ne_toInt hc4 (k := 4) (by decide)
                        have ehc5 := ne_toInt hc5 (k := 5) (by decide)
                        have ehc6 := ne_toInt hc6 (k := 6) (by decide)
                        have ehc7 := ne_toInt hc7 (k := 7) (by decide)
                        have ehc8 := ne_toInt hc8 (k := 8) (by decide)
                        have ehc9 := ne_toInt hc9 (k := 9) (by decide)
                        have ehc10 := ne_toInt hc10 (k := 10) (by decide)
                        refine lv_tableOut (tgt := 129) hx hb dX6_look_14 (by omega) (by decide) ?_
                        refine lv_iload_n hx hb dX6_look_129 rfl (lv_at hl 1 rfl) ?_
                        refine lv_bipush (v := 11) hx hb dX6_look_130 (by decide) ?_
                        refine kg_icmp_ne (tgt := 142) hx hb hf dX6_look_132 (by decide) (fun hc hf => ?_) (fun hc hf => ?_)
                        · refine lv_bipush (v := (-10)) hx hb dX6_look_142 (by decide) ?_
                          obtain rfl := Option.some.inj hf
                          exact kg_iretW hx hb hr hlk rfl hP hD hS dX6_look_144
                        · refine lv_aload_n hx hb dX6_look_135 rfl (lv_at hl 0 rfl) ?_
                          obtain ⟨g136, hc, hf⟩ := ob_bind hf
                          have hPc : va_P (dC, dI) vwCl (wMd cI cJ A g10) H := hP
                          refine kg_retRi (va_runV (As := []) (rest := []) ⟨hx, hb, hml, hown, hts⟩ (c_X6_deepest l dC dI cI cJ A H g10 _ hc) (cwV 0 hts (gw_V wd_45_17 wd_45_14 wd_45_15 wd_45_16 wd_1_5) rfl rfl rfl qX6_deepest ⟨Nat.le_of_ble_eq_true rfl, Nat.le_of_ble_eq_true rfl⟩) (kg_preVR (ci := 6) (q := (RX6, TX6, 30)) (q0 := 0) hPc hK hN rfl rfl) rfl rfl hl.1 rfl (lv_room (Nat.le_of_ble_eq_true rfl)) dX6_look_136 ⟨Nat.zero_le _, Nat.zero_le _⟩) ?_
                          refine lv_goto (tgt := 144) hx hb dX6_look_139 (by decide) ?_
                          obtain rfl := Option.some.inj hf
                          exact kg_iretW hx hb hr hlk rfl hP hD hS dX6_look_144
