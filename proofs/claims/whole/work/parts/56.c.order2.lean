/-! CLASS 9: Forest: the row of all blocks, the sums; all read -/
noncomputable def tot (n : Nat) (fa fb : Nat → Nat) (k b : Nat) : Nat := cnt (fun v => b ∈ chn n fa fb k (bnm n fa fb k v)) n
def FoOK (n : Nat) (fa fb : Nat → Nat) (k : Nat) (x : FoS) : Prop :=
  (Fo_names x).toInt = (n : Int) ∧ (Fo_count x).toInt = ((ord n fa fb k).length : Int) ∧ (∀ (j b : Nat), (ord n fa fb k)[j]? = some b → (Fo_order x j).toInt = (b : Int)) ∧
  ∀ b, b < n → (Fo_parent x b).toInt = fPP n fa fb k b ∧ (Fo_upLink x b).toInt = (fP n fa fb k b).2 ∧ (Fo_children x b).toInt = (nch n fa fb k b n : Int) ∧ (Fo_bridgesAt x b).toInt = (nch n fa fb k b n : Int) + (bb (fPP n fa fb k b ≠ -1) : Int) ∧
    (Fo_below x b).toInt = (tot n fa fb k b : Int) ∧ (liv (hB n fa fb k) b → (Fo_deep x b).toInt = ((chn n fa fb k b).length : Int) - 1)
section W56c
variable {fa fb : Nat → Nat} {n k u v b t y r : Nat} {x : FoS} {w : WbS} {L : List (Nat × Nat)}
/-- the second loop's rows -/
def PoI (n : Nat) (fa fb : Nat → Nat) (k j : Nat) (p : FoS × Int32 × Int32) : Prop :=
  p.2.2.toInt = (j : Int) ∧ F2 n fa fb k p.1 ∧ ∃ O W : List Nat, ord n fa fb k = O ++ W.reverse.flatMap (pB n fa fb k) ∧ O.length = j ∧ (∀ c, c ∈ W → c < n ∧ liv (hB n fa fb k) c) ∧
    (Fo_count p.1).toInt = (j : Int) ∧ Wt O (Fo_order p.1) ∧ (∀ b, b ∈ O → (Fo_deep p.1 b).toInt = ((chn n fa fb k b).length : Int) - 1) ∧ Wt W (Fo_waiting p.1) ∧ p.2.1.toInt = (W.length : Int)
theorem po_step (hV : Vd fa fb n k) (hn : n ≤ 32) {M : Nat} {nm : NmS} {j : Nat} {p : FoS × Int32 × Int32} {Q : FoS → Prop} (hj : j < (ord n fa fb k).length) (h : PoI n fa fb k j p) : Ok (Fo_m_putInOrder_s54 M nm p.1 p.2.1 p.2.2) (LR (PoI n fa fb k (j + 1)) Q) := by
  obtain ⟨hi, h2, O, W, hcat, hO, hWl, hcnt, hord, hdeep, hwt, hheld⟩ := h
  obtain ⟨x, v2, v3⟩ := p
  dsimp only at hi h2 hcnt hord hdeep hwt hheld
  dsimp only [Fo_m_putInOrder_s54]
  have hF := FH_f (k := k) (fa := fa) (fb := fb) hV hn
  have hle := ord_len (k := k) (fa := fa) (fb := fb) hV hn
  refine Ok_ite (fun q => by have h0 := h2.1.1; rw [i32_le] at q; omega) (fun _ => ?_)
  have hlen := congrArg List.length hcat
  rw [List.length_append] at hlen
  have hWne : W ≠ [] := fun z => by rw [z] at hlen; simp at hlen; omega
  have hpos : 0 < W.length := List.length_pos_iff.mpr hWne
  refine Ok_ite (fun q => by rw [i32_le, i32_0] at q; omega) (fun _ => ?_)
  obtain ⟨W', B, hWe⟩ : ∃ W' B, W = W' ++ [B] := ⟨W.dropLast, W.getLast hWne, (List.dropLast_concat_getLast hWne).symm⟩
  subst hWe
  obtain ⟨hBn, hBl⟩ := hWl B (by simp)
  have hB32 := Nat.lt_of_lt_of_le hBn hn
  have hWll : (W' ++ [B]).length = W'.length + 1 := by rw [List.length_append]; rfl
  have hrev : (W' ++ [B]).reverse.flatMap (pB n fa fb k) = pB n fa fb k B ++ W'.reverse.flatMap (pB n fa fb k) := by
    rw [List.reverse_append, List.reverse_singleton, List.singleton_append, List.flatMap_cons]
  have hpB : pB n fa fb k B = B :: (cl n fa fb k (B : Int) n).flatMap (pB n fa fb k) := by
    unfold pB
    rw [prB_s hF hBn hBl, cl_chl]
  have hcat1 : ord n fa fb k = O ++ B :: ((cl n fa fb k (B : Int) n).flatMap (pB n fa fb k) ++ W'.reverse.flatMap (pB n fa fb k)) := by
    rw [hcat, hrev, hpB]; simp
  have hcat2 : ord n fa fb k = (O ++ [B]) ++ (W' ++ (cl n fa fb k (B : Int) n).reverse).reverse.flatMap (pB n fa fb k) := by
    rw [hcat1, List.reverse_append, List.reverse_reverse, List.flatMap_append]; simp
  have hcll : ∀ c, c ∈ cl n fa fb k (B : Int) n → c < n ∧ liv (hB n fa fb k) c := fun c hc => by
    rw [cl_chl] at hc
    have := chl_mem.mp hc
    exact ⟨this.1, this.2.1⟩
  have hWl2 : ∀ c, c ∈ W' ++ (cl n fa fb k (B : Int) n).reverse → c < n ∧ liv (hB n fa fb k) c := by
    intro c hc
    rcases List.mem_append.mp hc with q | q
    · exact hWl c (by simp [q])
    · exact hcll c (List.mem_reverse.mp q)
  have hfl := flat_len hV hn (M := (W' ++ (cl n fa fb k (B : Int) n).reverse).reverse) (fun c hc => hWl2 c (List.mem_reverse.mp hc))
  have hlen2 := congrArg List.length hcat2
  rw [List.length_append, List.length_append] at hlen2
  rw [List.length_reverse, List.length_append, List.length_reverse] at hfl
  have hO1 : (O ++ [B]).length = j + 1 := by rw [List.length_append, hO]; rfl
  have hone : ([B] : List Nat).length = 1 := rfl
  have hsp : W'.length + (cl n fa fb k (B : Int) n).length ≤ 32 := by omega
  have hj32 : j < 32 := by omega
  have hW32 : W'.length < 32 := by omega
  have hv2 : (v2 + (-1)).toInt = (W'.length : Int) := nx_p (by rw [hheld, hWll]) (mil hW32)
  have hBw : (Fo_waiting x W'.length).toInt = (B : Int) := Wt_last hwt
  have hpar := (h2.1.2 B hBn).1
  -- from the depth on
  have rest : ∀ wv : Int32, wv.toInt = ((chn n fa fb k B).length : Int) - 1 → Ok (Fo_m_putInOrder_j112 x M nm (v2 + (-1)) v3 (Fo_waiting x W'.length) (Fo_waiting x W'.length) wv) (LR (PoI n fa fb k (j + 1)) Q) := by
    intro wv hwv
    unfold Fo_m_putInOrder_j112
    refine Ok_wrb hBw hB32 (Ok_wrb (k := j) hcnt hj32 (Ok_rdb hBw hB32 ?_))
    have key : ∀ x1 : FoS, F2 n fa fb k x1 → Fo_waiting x1 = Fo_waiting x → (Fo_count x1).toInt = ((j + 1 : Nat) : Int) → Fo_order x1 = va_up (Fo_order x) j (Fo_waiting x W'.length) → Fo_deep x1 = va_up (Fo_deep x) B wv →
        Ok (iter (fun p : FoS × Int32 × Int32 × Int32 => Fo_m_putInOrder_s146 M nm v3 p.1 p.2.1 p.2.2.1 p.2.2.2) FU (x1, v2 + (-1), Fo_lastChild x1 B, 0)) (LR (PoI n fa fb k (j + 1)) Q) := by
      intro x1 g2 gw gc go gd
      refine push_ok hV hn hBn hsp g2 (W0 := W') (by rw [gw]; exact Wt_drop hwt) hv2 (g2.2 B hBn).2.2.1 (fun f h hwt2 hh => ?_)
      refine ⟨nx_s hi (mil hj32), g2, O ++ [B], W' ++ (cl n fa fb k (B : Int) n).reverse, hcat2, hO1, hWl2, gc, ?_, fun b hb => ?_, hwt2, hh⟩
      · show Wt (O ++ [B]) (Fo_order x1)
        rw [go, ← hO]
        exact Wt_app hord hBw
      · show (Fo_deep x1 b).toInt = _
        rw [gd]
        by_cases e : b = B
        · rw [e, vu_s]; exact hwv
        · rw [vu_n e]
          refine hdeep b ?_
          rcases List.mem_append.mp hb with q | q
          · exact q
          · exact absurd (List.mem_singleton.mp q) e
    exact key _ h2 rfl (nx_s hcnt (mil hj32)) rfl rfl
  refine Ok_rdb hv2 hW32 (Ok_rdb hBw hB32 ?_)
  rcases (hF B hBn hBl).1 with ⟨hp, hch⟩ | ⟨a, ha, hal, hp, hch⟩
  · have hp' : (Fo_parent x B).toInt = -1 := hpar.trans hp
    refine Ok_ite (fun _ => rest 0 (by rw [hch]; rfl)) (fun q => absurd (i32_ext (by rw [hp', i32_m1])) q)
  · have hp' : (Fo_parent x B).toInt = (a : Int) := hpar.trans hp
    refine Ok_ite (fun q => by rw [i32_eq, hp', i32_m1] at q; omega) (fun _ => ?_)
    have ha32 := Nat.lt_of_lt_of_le ha hn
    -- the parent stands in the row
    have haO : a ∈ O := by
      have hpf := TOT_PF (n := n) (lv := liv (hB n fa fb k)) (P := fPP n fa fb k)
      have e : TOT n (liv (hB n fa fb k)) (fPP n fa fb k) = O ++ B :: ((cl n fa fb k (B : Int) n).flatMap (pB n fa fb k) ++ W'.reverse.flatMap (pB n fa fb k)) := hcat1
      rw [e] at hpf
      rcases PFst_at hpf with g | ⟨c, g1, g2⟩
      · omega
      · have : c = a := by omega
        rw [this] at g1
        rcases g1 with g1 | g1
        · cases g1
        · exact g1
    refine Ok_rdb hBw hB32 (Ok_rdb hp' ha32 (rest _ ?_))
    have hda := hdeep a haO
    have hca := (hF a ha hal).2
    have hpos2 : 0 < (chn n fa fb k a).length := by unfold chn; rw [List.length_cons]; omega
    have hda2 : (Fo_deep x a).toInt = (((chn n fa fb k a).length - 1 : Nat) : Int) := by omega
    rw [nx_s hda2 (by omega), hch, List.length_cons]
    omega
theorem order_ok (hV : Vd fa fb n k) (hn : n ≤ 32) {nm : NmS} (hBk : NmOK 32 n (hB n fa fb k) nm) (h2 : F2 n fa fb k x) : Ok (Fo_m_putInOrder x 32 nm) (F3 n fa fb k) := by
  have hF := FH_f (k := k) (fa := fa) (fb := fb) hV hn
  have hle := ord_len (k := k) (fa := fa) (fb := fb) hV hn
  have hIB := NI_B (n := n) (k := k) hV
  have hnm := h2.1.1
  unfold Fo_m_putInOrder
  refine Ok_upto (fun (j : Nat) (p : FoS × Int32 × Int32) => p.2.2.toInt = (n : Int) - 1 - (j : Int) ∧ F2 n fa fb k p.1 ∧ (Fo_count p.1).toInt = 0 ∧ Wt (rdn n fa fb k j) (Fo_waiting p.1) ∧ p.2.1.toInt = ((rdn n fa fb k j).length : Int)) (e := n) (by omega) ⟨?_, h2, i32_0, fun i c hi => (by cases hi), i32_0⟩ ?_ ?_
  · show ((Fo_names x) - 1).toInt = _
    rw [i32_sub (by rw [i32_1]; omega) (by rw [i32_1]; omega), i32_1, hnm]
    omega
  · intro j p hj ⟨hi, g2, gc, gw, gh⟩
    obtain ⟨y, v2, v3⟩ := p
    dsimp only at hi g2 gc gw gh
    dsimp only [Fo_m_putInOrder_s14]
    refine Ok_ite (fun q => by rw [i32_lt, i32_0] at q; omega) (fun _ => ?_)
    have hc : v3.toInt = ((n - 1 - j : Nat) : Int) := by omega
    have hcn : n - 1 - j < n := by omega
    have hc32 := Nat.lt_of_lt_of_le hcn hn
    have hnext : (v3 + (-1)).toInt = (n : Int) - 1 - ((j + 1 : Nat) : Int) := by
      rw [i32_add (by rw [i32_m1]; omega) (by rw [i32_m1]; omega), i32_m1]; omega
    have hrl := rdn_len (n := n) (fa := fa) (fb := fb) (k := k) (j := j)
    have hpar := (g2.1.2 _ hcn).1
    have skip : ¬ (liv (hB n fa fb k) (n - 1 - j) ∧ fPP n fa fb k (n - 1 - j) = -1) → Ok (some (Sum.inl (y, v2, v3 + (-1))) : Option ((FoS × Int32 × Int32) ⊕ FoS)) (LR (fun p => p.2.2.toInt = (n : Int) - 1 - ((j + 1 : Nat) : Int) ∧ F2 n fa fb k p.1 ∧ (Fo_count p.1).toInt = 0 ∧ Wt (rdn n fa fb k (j + 1)) (Fo_waiting p.1) ∧ p.2.1.toInt = ((rdn n fa fb k (j + 1)).length : Int)) (F3 n fa fb k)) := by
      intro hno
      rw [rdn_f hno]
      exact Ok_some ⟨hnext, g2, gc, gw, gh⟩
    refine Ok_then (lives_ok (v := v3) hBk hIB.2.1) (fun g hg => Ok_ite (fun q => ?_) (fun q => ?_))
    · obtain ⟨b, b1, b2, b3⟩ := hg.mp q
      have hbe : b = n - 1 - j := by omega
      subst hbe
      refine Ok_rdb hc hc32 (Ok_ite (fun q2 => ?_) (fun q2 => ?_))
      · rw [i32_eq, hpar, i32_m1] at q2
        have hyes : liv (hB n fa fb k) (n - 1 - j) ∧ fPP n fa fb k (n - 1 - j) = -1 := ⟨b3, q2⟩
        rw [rdn_t hyes]
        refine Ok_wrb gh (by omega) (Ok_some ⟨hnext, g2, gc, Wt_app gw hc, ?_⟩)
        rw [List.length_append]
        exact nx_s gh (by omega)
      · rw [i32_eq, hpar, i32_m1] at q2
        exact skip (fun z => q2 z.2)
    · exact skip (fun z => q (hg.mpr ⟨n - 1 - j, hc, hcn, z.1⟩))
  · intro p ⟨hi, g2, gc, gw, gh⟩
    obtain ⟨y, v2, v3⟩ := p
    dsimp only at hi g2 gc gw gh
    dsimp only [Fo_m_putInOrder_s14]
    refine Ok_ite (fun _ => ?_) (fun q => by rw [i32_lt, i32_0] at q; omega)
    refine Ok_omap ?_
    refine Ok_upto (PoI n fa fb k) (e := (ord n fa fb k).length) (by omega) ⟨i32_0, g2, [], rdn n fa fb k n, ?_, rfl, fun c hc => ?_, gc, fun i c hi => (by cases hi), fun b hb => (by cases hb), gw, gh⟩ (fun j p hj hp => po_step hV hn hj hp) ?_
    · rw [rdn_rts]; rfl
    · have : c ∈ rts n (liv (hB n fa fb k)) (fPP n fa fb k) := by rw [← rdn_rts]; exact List.mem_reverse.mpr hc
      have := rts_mem.mp this
      exact ⟨this.1, this.2.1⟩
    · intro p ⟨hi, h2', O, W, hcat, hO, hWl, hcnt, hord, hdeep, hwt, hheld⟩
      obtain ⟨x, v2, v3⟩ := p
      dsimp only at hi h2' hcnt hord hdeep hwt hheld
      dsimp only [Fo_m_putInOrder_s54]
      have hlen := congrArg List.length hcat
      rw [List.length_append] at hlen
      have hfl := flat_len hV hn (M := W.reverse) (fun c hc => hWl c (List.mem_reverse.mp hc))
      rw [List.length_reverse] at hfl
      have hW0 : W = [] := List.length_eq_zero_iff.mp (by omega)
      rw [hW0] at hcat hheld
      have hOe : ord n fa fb k = O := by rw [hcat]; simp
      have done : Ok (omap (some x) : Option ((FoS × Int32 × Int32) ⊕ FoS)) (LR (fun _ => False) (F3 n fa fb k)) := by
        refine Ok_omap (Ok_some ⟨h2', hcnt, fun i c hic => ?_, fun b hb hl => ?_⟩)
        · rw [hOe] at hic; exact hord i c hic
        · refine hdeep b ?_
          rw [← hOe]
          exact (ord_mem hV hn).mpr ⟨hb, hl⟩
      refine Ok_ite (fun _ => done) (fun _ => Ok_ite (fun _ => done) (fun q => ?_))
      rw [i32_le, i32_0, hheld] at q
      exact absurd (Int.le_refl 0) q
theorem tot_le {b : Nat} : tot n fa fb k b ≤ n := cnt_le
/-- while sums go up: from the children that stand in a row's end -/
noncomputable def sub (n : Nat) (fa fb : Nat → Nat) (k : Nat) (S : List Nat) (b : Nat) : Nat := cnt (fun v => bnm n fa fb k v = b) n + sumN (fun c => bb (c ∈ S ∧ fPP n fa fb k c = (b : Int)) * tot n fa fb k c) n
theorem sub_full (hV : Vd fa fb n k) (hn : n ≤ 32) {S : List Nat} {b : Nat} (hb : b < n) (h : ∀ c, c < n → liv (hB n fa fb k) c → fPP n fa fb k c = (b : Int) → c ∈ S) : sub n fa fb k S b = tot n fa fb k b := by
  have hF := FH_f (k := k) (fa := fa) (fb := fb) hV hn
  by_cases hl : liv (hB n fa fb k) b
  · have := tot_rec hF hb hl (nm := bnm n fa fb k) (N := n) (fun v hv => bnm_lt hV hv)
    unfold sub tot
    rw [this]
    congr 1
    refine sumN_congr (fun c hc => ?_)
    have e : bb (c ∈ S ∧ fPP n fa fb k c = (b : Int)) = bb (liv (hB n fa fb k) c ∧ fPP n fa fb k c = (b : Int)) := bb_congr ⟨fun z => ⟨fPP_liv z.2, z.2⟩, fun z => ⟨h c hc z.1 z.2, z.2⟩⟩
    rw [e]
  · have h0 : tot n fa fb k b = 0 := by
      refine cnt_none (fun v hv hm => ?_)
      have hbv := bnm_lt (k := k) (fa := fa) (fb := fb) hV hv
      exact hl (ch_ok hF rfl hbv.1 hbv.2 b hm).2.1
    rw [h0]
    unfold sub
    have e1 : cnt (fun v => bnm n fa fb k v = b) n = 0 := cnt_none (fun v hv he => hl (he ▸ (bnm_lt hV hv).2))
    rw [e1, sumN_congr (g := fun _ => 0) (fun c hc => ?_), sumN_zero]
    rw [bb_f, Nat.zero_mul]
    intro z
    rcases fP_ok (n := n) (k := k) (fa := fa) (fb := fb) hV hc with q | ⟨d, _, q, hd⟩
    · have q : fPP n fa fb k c = -1 := q
      omega
    · have q : fPP n fa fb k c = (d : Int) := q
      have : d = b := by omega
      exact hl (this ▸ hd)
theorem sub_cons {S : List Nat} {B b : Nat} (hB : B < n) (hn : B ∉ S) : sub n fa fb k (B :: S) b = sub n fa fb k S b + (if fPP n fa fb k B = (b : Int) then tot n fa fb k B else 0) := by
  unfold sub
  rw [Nat.add_assoc]
  congr 1
  have e : ∀ c, c < n → bb (c ∈ B :: S ∧ fPP n fa fb k c = (b : Int)) * tot n fa fb k c = bb (c ∈ S ∧ fPP n fa fb k c = (b : Int)) * tot n fa fb k c + (if B = c then (if fPP n fa fb k B = (b : Int) then tot n fa fb k B else 0) else 0) := by
    intro c _
    by_cases e : B = c
    · subst e
      rw [if_pos rfl, bb_f (p := B ∈ S ∧ fPP n fa fb k B = (b : Int)) (fun z => hn z.1)]
      by_cases d : fPP n fa fb k B = (b : Int)
      · rw [bb_t ⟨List.mem_cons_self, d⟩, if_pos d]; omega
      · rw [bb_f (fun z => d z.2), if_neg d]; omega
    · rw [if_neg e, bb_congr (show (c ∈ B :: S ∧ fPP n fa fb k c = (b : Int)) ↔ (c ∈ S ∧ fPP n fa fb k c = (b : Int)) from ⟨fun z => ⟨(List.mem_cons.mp z.1).elim (fun q => absurd q.symm e) (fun q => q), z.2⟩, fun z => ⟨List.mem_cons_of_mem _ z.1, z.2⟩⟩)]
      omega
  rw [sumN_congr e, sumN_add, sumN_one hB]
theorem sub_le (hn : n ≤ 32) {S : List Nat} {b : Nat} : sub n fa fb k S b ≤ 32 + 32 * 32 := by
  unfold sub
  have h1 : cnt (fun v => bnm n fa fb k v = b) n ≤ n := cnt_le
  have h2 : sumN (fun c => bb (c ∈ S ∧ fPP n fa fb k c = (b : Int)) * tot n fa fb k c) n ≤ n * 32 := sumN_le (fun c _ => by
    have h3 := tot_le (n := n) (fa := fa) (fb := fb) (k := k) (b := c)
    by_cases z : (c ∈ S ∧ fPP n fa fb k c = (b : Int))
    · rw [bb_t z]; omega
    · rw [bb_f z]; omega)
  have h4 : n * 32 ≤ 32 * 32 := Nat.mul_le_mul_right _ hn
  omega
theorem sumUp_ok (hV : Vd fa fb n k) (hn : n ≤ 32) (h3 : F3 n fa fb k x) : Ok (Fo_m_sumUp x) (FoOK n fa fb k) := by
  obtain ⟨⟨⟨h0, h1⟩, h2⟩, hcnt, hord, hdeep⟩ := h3
  have hF := FH_f (k := k) (fa := fa) (fb := fb) hV hn
  have hle := ord_len (k := k) (fa := fa) (fb := fb) hV hn
  have hnd : (ord n fa fb k).Nodup := TOT_nodup hF
  unfold Fo_m_sumUp
  refine Ok_upto (fun (j : Nat) (p : FoS × Int32) => p.2.toInt = ((ord n fa fb k).length : Int) - 1 - (j : Int) ∧ ∃ f, p.1 = Fo_set_below x f ∧ ∀ b, b < n → (f b).toInt = (sub n fa fb k ((ord n fa fb k).drop ((ord n fa fb k).length - j)) b : Int)) (e := (ord n fa fb k).length) (by omega) ⟨?_, Fo_below x, rfl, fun b hb => ?_⟩ ?_ ?_
  · show ((Fo_count x) - 1).toInt = _
    rw [i32_sub (by rw [i32_1]; omega) (by rw [i32_1]; omega), i32_1, hcnt]
    omega
  · rw [(h1 b hb).2.2]
    unfold sub
    rw [Nat.sub_zero, List.drop_length, sumN_congr (g := fun _ => 0) (fun c _ => by rw [bb_f (fun z => by cases z.1), Nat.zero_mul]), sumN_zero, Nat.add_zero]
  · intro j p hj ⟨hi, f, hp0, hf⟩
    obtain ⟨y, v1⟩ := p
    dsimp only at hi hp0
    subst hp0
    dsimp only [Fo_m_sumUp_s7]
    refine Ok_ite (fun q => by rw [i32_lt, i32_0] at q; omega) (fun _ => ?_)
    have hpl : (ord n fa fb k).length - 1 - j < (ord n fa fb k).length := by omega
    have hv1 : v1.toInt = (((ord n fa fb k).length - 1 - j : Nat) : Int) := by omega
    obtain ⟨B, hBat⟩ := getE hpl
    obtain ⟨hBn, hBl⟩ := (ord_mem hV hn).mp (List.mem_of_getElem? hBat)
    have hB32 := Nat.lt_of_lt_of_le hBn hn
    have hoB := hord _ B hBat
    have hnext : (v1 + (-1)).toInt = ((ord n fa fb k).length : Int) - 1 - ((j + 1 : Nat) : Int) := by
      rw [i32_add (by rw [i32_m1]; omega) (by rw [i32_m1]; omega), i32_m1]; omega
    have e1 : (ord n fa fb k).length - j = (ord n fa fb k).length - 1 - j + 1 := by omega
    have e2 : (ord n fa fb k).length - (j + 1) = (ord n fa fb k).length - 1 - j := by omega
    have hdrop : (ord n fa fb k).drop ((ord n fa fb k).length - (j + 1)) = B :: (ord n fa fb k).drop ((ord n fa fb k).length - j) := by
      rw [e1, e2]
      rw [List.drop_eq_getElem_cons hpl]
      rw [List.getElem?_eq_getElem hpl] at hBat
      rw [Option.some.inj hBat]
    have hsplit : ord n fa fb k = (ord n fa fb k).take ((ord n fa fb k).length - (j + 1)) ++ B :: (ord n fa fb k).drop ((ord n fa fb k).length - j) := by
      rw [← hdrop, List.take_append_drop]
    have hBS : B ∉ (ord n fa fb k).drop ((ord n fa fb k).length - j) := by
      intro z
      rw [hsplit] at hnd
      exact (List.nodup_cons.mp (List.nodup_append.mp hnd).2.1).1 z
    have hfB := hf B hBn
    rw [sub_full hV hn hBn (fun c hc hl hP => TOT_behind hF hsplit hc hl hP)] at hfB
    have hpar := (h1 B hBn).1
    refine Ok_rdb hv1 (by omega) (Ok_rdb hoB hB32 ?_)
    rcases (hF B hBn hBl).1 with ⟨hp, -⟩ | ⟨a, ha, hal, hp, -⟩
    · have hp' : (Fo_parent x B).toInt = -1 := hpar.trans hp
      refine Ok_ite (fun _ => Ok_some ⟨hnext, f, rfl, fun b hb => ?_⟩) (fun q => absurd (i32_ext (by rw [show (Fo_parent (Fo_set_below x f) B).toInt = (Fo_parent x B).toInt from rfl, hp', i32_m1])) q)
      rw [hdrop, sub_cons hBn hBS, if_neg (by rw [hp]; omega)]
      exact hf b hb
    · have hp' : (Fo_parent x B).toInt = (a : Int) := hpar.trans hp
      have ha32 := Nat.lt_of_lt_of_le ha hn
      refine Ok_ite (fun q => by
        have q2 : (Fo_parent x B).toInt = -1 := by rw [show Fo_parent x B = Fo_parent (Fo_set_below x f) B from rfl, q, i32_m1]
        omega) (fun _ => ?_)
      refine Ok_rdb hoB hB32 (Ok_rdb hp' ha32 (Ok_rdb hoB hB32 (Ok_wrb hp' ha32 (Ok_some ⟨hnext, _, rfl, fun b hb => ?_⟩))))
      rw [hdrop, sub_cons hBn hBS]
      show (va_up f a (f a + f B) b).toInt = _
      by_cases e : b = a
      · subst e
        have hs := sub_le (n := n) (fa := fa) (fb := fb) (k := k) hn (S := (ord n fa fb k).drop ((ord n fa fb k).length - j)) (b := b)
        have ht := tot_le (n := n) (fa := fa) (fb := fb) (k := k) (b := B)
        have hfb := hf b hb
        rw [vu_s, if_pos hp, i32_add (by omega) (by omega), hfb, hfB]
        exact (Int.natCast_add _ _).symm
      · rw [vu_n e, if_neg (by rw [hp]; omega)]
        exact hf b hb
  · intro p ⟨hi, f, hp0, hf⟩
    obtain ⟨y, v1⟩ := p
    dsimp only at hi hp0
    subst hp0
    dsimp only [Fo_m_sumUp_s7]
    refine Ok_ite (fun _ => ?_) (fun q => by rw [i32_lt, i32_0] at q; omega)
    refine Ok_omap (Ok_some ⟨h0, hcnt, hord, fun b hb => ⟨(h1 b hb).1, (h1 b hb).2.1, (h2 b hb).1, (h2 b hb).2.1, ?_, hdeep b hb⟩⟩)
    show (f b).toInt = _
    rw [hf b hb, Nat.sub_self, List.drop_zero, sub_full hV hn hb (fun c hc hl _ => (ord_mem hV hn).mpr ⟨hc, hl⟩)]
theorem readF_ok (hV : Vd fa fb n k) (hn : n ≤ 32) (hk : k ≤ 64) (hW : WbOK n k fa fb w) : Ok (Fo_m_read x w) (FoOK n fa fb k) := by
  obtain ⟨hli, hfi, hE, hTr, hB0, hL0, hP0⟩ := hW
  have hnd := hTr.1
  unfold Fo_m_read
  refine Ok_for n (fun j y => (Fo_names y).toInt = (n : Int) ∧ ∀ b, b < j → (Fo_parent y b).toInt = -1 ∧ (Fo_upLink y b).toInt = -1 ∧ (Fo_children y b).toInt = 0 ∧ (Fo_bridgesAt y b).toInt = 0 ∧ (Fo_below y b).toInt = 0 ∧ (Fo_lastChild y b).toInt = -1 ∧ (Fo_childBefore y b).toInt = -1) (by omega) i32_0 ⟨hnd, fun b hb => absurd hb (Nat.not_lt_zero b)⟩ ?_ ?_
  · intro j y i hj hi ⟨y0, y1⟩
    dsimp only [Fo_m_read_s10]
    have hj32 := Nat.lt_of_lt_of_le hj hn
    refine Ok_ite (fun q => by rw [i32_le] at q; omega) (fun _ => ?_)
    refine Ok_wrb hi hj32 (Ok_wrb hi hj32 (Ok_wrb hi hj32 (Ok_wrb hi hj32 (Ok_wrb hi hj32 (Ok_wrb hi hj32 (Ok_wrb hi hj32 (Ok_some ⟨nx_s hi (mil hj32), y0, fun b hb => ?_⟩)))))))
    show (va_up (Fo_parent y) j (-1) b).toInt = -1 ∧ (va_up (Fo_upLink y) j (-1) b).toInt = -1 ∧ (va_up (Fo_children y) j 0 b).toInt = 0 ∧ (va_up (Fo_bridgesAt y) j 0 b).toInt = 0 ∧ (va_up (Fo_below y) j 0 b).toInt = 0 ∧ (va_up (Fo_lastChild y) j (-1) b).toInt = -1 ∧ (va_up (Fo_childBefore y) j (-1) b).toInt = -1
    by_cases e : b = j
    · rw [e, vu_s, vu_s, vu_s, vu_s, vu_s, vu_s, vu_s]
      exact ⟨i32_m1, i32_m1, i32_0, i32_0, i32_0, i32_m1, i32_m1⟩
    · rw [vu_n e, vu_n e, vu_n e, vu_n e, vu_n e, vu_n e, vu_n e]
      exact y1 b (by omega)
  · intro y i hi ⟨y0, y1⟩
    dsimp only [Fo_m_read_s10]
    refine Ok_ite (fun _ => ?_) (fun q => by rw [i32_le] at q; omega)
    refine Ok_omap ?_
    refine Ok_then (readNodes_ok hV hn hk hTr hE hB0 y0 (fun b hb => ⟨(y1 b hb).1, (y1 b hb).2.1, (y1 b hb).2.2.2.2.1⟩) (fun b hb => ⟨(y1 b hb).2.2.1, (y1 b hb).2.2.2.1, (y1 b hb).2.2.2.2.2.1, (y1 b hb).2.2.2.2.2.2⟩)) (fun g75 h75 => ?_)
    refine Ok_then (hang_ok hV hn h75.1 h75.2) (fun g79 h79 => ?_)
    refine Ok_then (order_ok hV hn hB0 h79) (fun g87 h87 => ?_)
    refine Ok_then (sumUp_ok hV hn h87) (fun g91 h91 => Ok_some h91)
end W56c
