/-! CLASS 4: Web: turning -/
section W56
variable {fa fb : Nat → Nat} {n k u v a b y t r e o c : Nat} {x : WbS} {L M : List (Nat × Nat)}
def EndOK (k : Nat) (fa fb : Nat → Nat) (x : WbS) : Prop := ∀ l, l < k → (Wb_endedBy x l).toInt = hC fa fb k l
theorem isBr_ok {x : WbS} {w : Int32} (hE : EndOK k fa fb x) (hk : k ≤ 64) (hw : w.toInt = (t : Int)) (ht : t < k) : Ok (Wb_m_isBridge x w) (fun r => r = qb fa fb k t) := by
  unfold Wb_m_isBridge
  have e := hE t ht
  refine Ok_rdb hw (Nat.lt_of_lt_of_le ht hk) (Ok_ite (fun c => ?_) (fun c => ?_))
  · rw [i32_eq, e, i32_m1] at c
    refine Ok_some ?_
    unfold qb
    rw [decide_eq_true c]
  · rw [i32_eq, e, i32_m1] at c
    refine Ok_some ?_
    unfold qb
    rw [decide_eq_false c]
/-- the rows of a turning that goes on -/
def TuR (fa fb : Nat → Nat) (n k r e : Nat) (nx0 : Int × Int) (x : WbS) (j : Nat) (p : WbS × Int32 × Int32 × Int32 × Int32) : Prop :=
  p.2.2.2.2.toInt = (j : Int) ∧ ∃ (f g : Nat → Int32) (t : Int32) (par : Nat → Int × Int), p.1 = Wb_set_turned (Wb_set_upLink (Wb_set_up x f) g) t ∧ (∀ v, v < n → (f v).toInt = (par v).1 ∧ (g v).toInt = (par v).2) ∧
    ((∃ (c : Nat) (nx : Int × Int), c < n ∧ ld fa fb k c = ld fa fb k r ∧ p.2.1.toInt = (c : Int) ∧ p.2.2.1.toInt = nx.1 ∧ p.2.2.2.1.toInt = nx.2 ∧
        rvU idn par c nx (pa fa fb k c r) = rvU idn (up1 n fa fb k) e nx0 (pa fa fb k e r) ∧ (∀ w, w ∈ c :: nmL idn (pa fa fb k c r) → par w = up1 n fa fb k w) ∧
        t.toInt + ((fw fa fb (qb fa fb k) k c r).length : Int) = 1 + ((fw fa fb (qb fa fb k) k e r).length : Int) ∧ j + (pa fa fb k c r).length = (pa fa fb k e r).length) ∨
     (p.2.1.toInt = -1 ∧ par = rvU idn (up1 n fa fb k) e nx0 (pa fa fb k e r) ∧ t.toInt = 1 + ((fw fa fb (qb fa fb k) k e r).length : Int) ∧ j = (pa fa fb k e r).length + 1))
theorem fw_le : (fw fa fb (qb fa fb k) k u v).length ≤ (pa fa fb k u v).length := List.length_filter_le _ _
theorem tu_b1 {j p q n : Nat} (h : j + p = q) (h2 : q < n) : ¬ ((n : Int) ≤ (j : Int)) := by omega
theorem tu_b2 {j p q n : Nat} (h : j + p = q) (h2 : q < n) (h3 : n ≤ 32) : j < 1000000 := by omega
theorem tu_b3 {t : Int} {a b c : Nat} (h : t + (a : Int) = 1 + (b : Int)) (hb : b ≤ c) (hc : c < 32) (ha : a ≤ c) : -2147483648 ≤ t + 1 ∧ t + 1 < 2147483648 := by omega
theorem turn_step (hV : Vd fa fb n k) (hn : n ≤ 32) (hk : k ≤ 64) (hnd : (Wb_nodes x).toInt = (n : Int)) (hE : EndOK k fa fb x) (hR : ∀ c, ld fa fb k c = ld fa fb k r → hR n fa fb k c = r) (he : e < n) (hl : ld fa fb k e = ld fa fb k r) {nx0 : Int × Int} {j : Nat} {p : WbS × Int32 × Int32 × Int32 × Int32} {Q : WbS → Prop} (hj : j < (pa fa fb k e r).length + 1)
    (h : TuR fa fb n k r e nx0 x j p) : Ok (Wb_m_turn_s17 p.1 p.2.1 p.2.2.1 p.2.2.2.1 p.2.2.2.2) (LR (TuR fa fb n k r e nx0 x (j + 1)) Q) := by
  obtain ⟨hi, f, g, t, par, hp0, hpar, hst⟩ := h
  obtain ⟨y0, v4, v5, v6, v7⟩ := p
  dsimp only at hp0 hi
  have hlen := pa_len (v := r) hV he hl
  rcases hst with ⟨c, nx, hc, hcr, pc, px1, px2, hrv, hag, ht, hjl⟩ | ⟨_, _, _, hj2⟩
  · dsimp only at pc px1 px2
    subst hp0
    dsimp only [Wb_m_turn_s17]
    refine Ok_ite (fun q => ?_) (fun _ => ?_)
    · rw [i32_le] at q
      have q2 : (n : Int) ≤ (j : Int) := by rw [← hi, ← hnd]; exact q
      exact absurd q2 (tu_b1 hjl hlen)
    · have hj6 := tu_b2 hjl hlen hn
      refine Ok_ite (fun q => by rw [i32_eq, pc, i32_m1] at q; omega) (fun _ => ?_)
      have hc32 := Nat.lt_of_lt_of_le hc hn
      refine Ok_rdb pc hc32 (Ok_rdb pc hc32 (Ok_wrb pc hc32 (Ok_wrb pc hc32 ?_)))
      have hpc : par c = up1 n fa fb k c := hag c List.mem_cons_self
      have hfc := hpar c hc
      rw [hpc] at hfc
      -- the new rows
      have hnew : ∀ v, v < n → (va_up f c v5 v).toInt = (upf par c nx v).1 ∧ (va_up g c v6 v).toInt = (upf par c nx v).2 := by
        intro v hv
        unfold upf
        by_cases e : v = c
        · subst e; rw [vu_s, vu_s, if_pos rfl]; exact ⟨px1, px2⟩
        · rw [vu_n e, vu_n e, if_neg e]; exact hpar v hv
      cases hp : pa fa fb k c r with
      | nil =>
        have e1 := up1_r (hR c hcr) hp
        refine Ok_ite (fun _ => ?_) (fun q => absurd (i32_ext (by rw [show (Wb_upLink (Wb_set_turned (Wb_set_upLink (Wb_set_up x f) g) t) c).toInt = (g c).toInt from rfl, hfc.2, e1.2, i32_m1])) q)
        refine Ok_some ⟨nx_s hi hj6, va_up f c v5, va_up g c v6, t, upf par c nx, rfl, hnew, Or.inr ⟨?_, ?_, ?_, ?_⟩⟩
        · show (f c).toInt = -1
          rw [hfc.1, e1.1]
        · rw [← hrv, hp]; rfl
        · have h0 : fw fa fb (qb fa fb k) k c r = [] := by unfold fw; rw [hp]; rfl
          rw [h0] at ht
          show t.toInt = _
          rw [← ht]; show _ = t.toInt + ((0 : Nat) : Int); omega
        · rw [hp] at hjl
          rw [← hjl]; rfl
      | cons s M =>
        obtain ⟨tt, y⟩ := s
        have e1 := up1_s hV hcr (hR c hcr) hp
        have hd := pa_hd hcr hp
        have hy := (isE_lt hV hd.1 hd.2.2.1).2
        have hyr := hd.2.2.2.2
        have hgt : (g c).toInt = (tt : Int) := hfc.2.trans e1.2
        have hft : (f c).toInt = (y : Int) := hfc.1.trans e1.1
        have hnod : (c :: nmL idn (pa fa fb k c r)).Nodup := by
          have := nm_nodup (q := fun _ => true) (nm := idn) (v := r) hV NmQ_id rfl hc hcr
          rw [fw_true] at this
          exact this
        have hcM : c ∉ y :: nmL idn (pa fa fb k y r) := by
          have := (List.nodup_cons.mp hnod).1
          rw [hp, hd.2.2.2.1] at this
          exact this
        have hrun : ∀ t2 : Int32, t2.toInt + ((fw fa fb (qb fa fb k) k y r).length : Int) = 1 + ((fw fa fb (qb fa fb k) k e r).length : Int) →
            TuR fa fb n k r e nx0 x (j + 1) (Wb_set_turned (Wb_set_upLink (Wb_set_up (Wb_set_turned (Wb_set_upLink (Wb_set_up x f) g) t) (va_up f c v5)) (va_up g c v6)) t2, f c, v4, g c, v7 + 1) := by
          intro t2 ht2
          refine ⟨nx_s hi hj6, va_up f c v5, va_up g c v6, t2, upf par c nx, rfl, hnew, Or.inl ⟨y, ((c : Int), (tt : Int)), hy, hyr, hft, pc, hgt, ?_, ?_, ht2, ?_⟩⟩
          · rw [← hrv, hp, hd.2.2.2.1]; rfl
          · intro w hw
            have hwc : w ≠ c := fun z => hcM (z ▸ hw)
            unfold upf
            rw [if_neg hwc]
            refine hag w ?_
            rw [hp, hd.2.2.2.1]
            exact List.mem_cons_of_mem _ hw
          · rw [hp, List.length_cons, hd.2.2.2.1] at hjl
            omega
        refine Ok_ite (fun q => ?_) (fun _ => ?_)
        · have q2 : (g c).toInt = -1 := by rw [show g c = Wb_upLink (Wb_set_turned (Wb_set_upLink (Wb_set_up x f) g) t) c from rfl, q, i32_m1]
          rw [hgt] at q2; omega
        · refine Ok_then (isBr_ok (k := k) (fa := fa) (fb := fb) (t := tt) (x := Wb_set_upLink (Wb_set_up (Wb_set_turned (Wb_set_upLink (Wb_set_up x f) g) t) (va_up f c v5)) (va_up g c v6)) hE hk hgt hd.1) (fun g77 h77 => ?_)
          have hfw : fw fa fb (qb fa fb k) k c r = if qb fa fb k tt = true then (tt, y) :: fw fa fb (qb fa fb k) k y r else fw fa fb (qb fa fb k) k y r := by
            unfold fw
            rw [hp, List.filter_cons, hd.2.2.2.1]
          refine Ok_ite (fun q => ?_) (fun q => ?_)
          · rw [h77] at q
            rw [if_pos q] at hfw
            rw [hfw, List.length_cons] at ht
            refine Ok_some (hrun (t + 1) ?_)
            have hle := fw_le (fa := fa) (fb := fb) (k := k) (u := e) (v := r)
            have hle2 : (fw fa fb (qb fa fb k) k y r).length + 1 ≤ (pa fa fb k e r).length := by
              have h5 := fw_le (fa := fa) (fb := fb) (k := k) (u := y) (v := r)
              rw [hp, List.length_cons, hd.2.2.2.1] at hjl
              omega
            have hb := tu_b3 ht hle (Nat.lt_of_lt_of_le hlen hn) hle2
            rw [i32_add (by rw [i32_1]; exact hb.1) (by rw [i32_1]; exact hb.2), i32_1]
            omega
          · rw [h77] at q
            rw [if_neg q] at hfw
            rw [hfw] at ht
            exact Ok_some (hrun t ht)
  · exact absurd hj (by rw [hj2]; exact Nat.lt_irrefl _)
theorem turn_ok (hV : Vd fa fb n k) (hn : n ≤ 32) (hk : k ≤ 64) (hT : TrOK n k fa fb x) (hE : EndOK k fa fb x) (he : e < n) {w1 w2 w3 : Int32} (h1 : w1.toInt = (e : Int)) (h2 : w2.toInt = (o : Int)) (h3 : w3.toInt = (k : Int)) :
    Ok (Wb_m_turn x w1 w2 w3) (fun q => ∃ f g t, q = Wb_set_turned (Wb_set_upLink (Wb_set_up x f) g) t ∧ (∀ v, v < n → (f v).toInt = (rvU idn (up1 n fa fb k) e ((o : Int), (k : Int)) (pa fa fb k e (hR n fa fb k e)) v).1 ∧ (g v).toInt = (rvU idn (up1 n fa fb k) e ((o : Int), (k : Int)) (pa fa fb k e (hR n fa fb k e)) v).2) ∧
      t.toInt = 1 + ((fw fa fb (qb fa fb k) k e (hR n fa fb k e)).length : Int)) := by
  obtain ⟨hnd, hup⟩ := hT
  obtain ⟨hR1, hR2⟩ := hR_ok hV
  obtain ⟨r, hr⟩ : ∃ r, r = hR n fa fb k e := ⟨_, rfl⟩
  have her : ld fa fb k e = ld fa fb k r := by rw [hr]; exact (hR1 e he).2.symm
  have hRr : ∀ c, ld fa fb k c = ld fa fb k r → hR n fa fb k c = r := fun c hc => by rw [hr]; exact hR2 c e (hc.trans her.symm)
  rw [← hr]
  have hlen := pa_len (v := r) hV he her
  unfold Wb_m_turn
  refine Ok_upto (TuR fa fb n k r e ((o : Int), (k : Int)) x) (e := (pa fa fb k e r).length + 1) (by omega) ?_ (fun j p hj hp => turn_step hV hn hk hnd hE hRr he her hj hp) ?_
  · exact ⟨i32_0, Wb_up x, Wb_upLink x, 1, up1 n fa fb k, rfl, hup, Or.inl ⟨e, _, he, her, h1, h2, h3, rfl, fun _ _ => rfl, by rw [i32_1], by omega⟩⟩
  · intro p ⟨hi, f, g, t, par, hp0, hpar, hst⟩
    obtain ⟨y0, v4, v5, v6, v7⟩ := p
    dsimp only at hp0 hi
    rcases hst with ⟨c, nx, hc, hcr, pc, px1, px2, hrv, hag, ht, hjl⟩ | ⟨pc, hpe, ht, hj2⟩
    · omega
    · subst hp0
      dsimp only [Wb_m_turn_s17]
      subst hpe
      have done : Ok (omap (some (Wb_set_turned (Wb_set_upLink (Wb_set_up x f) g) t)) : Option ((WbS × Int32 × Int32 × Int32 × Int32) ⊕ WbS)) (LR (fun _ => False) (fun q => ∃ f g t, q = Wb_set_turned (Wb_set_upLink (Wb_set_up x f) g) t ∧ (∀ v, v < n → (f v).toInt = (rvU idn (up1 n fa fb k) e ((o : Int), (k : Int)) (pa fa fb k e r) v).1 ∧ (g v).toInt = (rvU idn (up1 n fa fb k) e ((o : Int), (k : Int)) (pa fa fb k e r) v).2) ∧ t.toInt = 1 + ((fw fa fb (qb fa fb k) k e r).length : Int))) :=
        Ok_omap (Ok_some ⟨f, g, t, rfl, hpar, ht⟩)
      refine Ok_ite (fun _ => done) (fun _ => Ok_ite (fun _ => done) (fun q => ?_))
      exact absurd (i32_ext (by rw [i32_m1]; exact pc)) q
/-- the land that is turned, and the other end -/
def tE (n : Nat) (fa fb : Nat → Nat) (k : Nat) : Nat := if N_of (hL n fa fb (k + 1)) (fa k) = N_of (hL n fa fb k) (fa k) then fb k else fa k
def tO (n : Nat) (fa fb : Nat → Nat) (k : Nat) : Nat := if N_of (hL n fa fb (k + 1)) (fa k) = N_of (hL n fa fb k) (fa k) then fa k else fb k
theorem tEO : isE fa fb k (tE n fa fb k) (tO n fa fb k) := by
  unfold tE tO
  by_cases c : N_of (hL n fa fb (k + 1)) (fa k) = N_of (hL n fa fb k) (fa k)
  · rw [if_pos c, if_pos c]; exact Or.inr ⟨rfl, rfl⟩
  · rw [if_neg c, if_neg c]; exact Or.inl ⟨rfl, rfl⟩
theorem hR_both (hT : TL fa fb k) (hv : ld fa fb k v = ld fa fb k (fa k) ∨ ld fa fb k v = ld fa fb k (fb k)) : hR n fa fb (k + 1) v = hR n fa fb k (tO n fa fb k) := by
  have p1 : ¬ ld fa fb k (fa k) = ld fa fb k (fb k) ∧ (ld fa fb k v = ld fa fb k (fa k) ∨ ld fa fb k v = ld fa fb k (fb k)) := ⟨hT, hv⟩
  rw [hR_s, if_pos p1]
  unfold tO
  by_cases c : N_of (hL n fa fb (k + 1)) (fa k) = N_of (hL n fa fb k) (fa k)
  · rw [if_pos c, if_pos c]
  · rw [if_neg c, if_neg c]
theorem hR_far (hv : ¬ (ld fa fb k v = ld fa fb k (fa k) ∨ ld fa fb k v = ld fa fb k (fb k)) ∨ ¬ TL fa fb k) : hR n fa fb (k + 1) v = hR n fa fb k v := by
  rw [hR_s, if_neg]
  intro z
  rcases hv with h | h
  · exact h z.2
  · exact h z.1
/-- the steps up after a tree link, by names, for a kind -/
theorem up_tree {q q2 : Nat → Bool} {nm : Nat → Nat} {par : Nat → Int × Int} (hV : Vd fa fb n (k + 1)) (hT : TL fa fb k) (hN : NmQ fa fb q nm n k) (hq : ∀ t, t < k → q2 t = q t) (hq2 : q2 k = true)
    (hpar : ∀ v, v < n → par (nm v) = hdw nm (-1, -1) (fw fa fb q k v (hR n fa fb k v))) (hv : v < n) :
    rvU nm par (nm (tE n fa fb k)) ((nm (tO n fa fb k) : Int), (k : Int)) (fw fa fb q k (tE n fa fb k) (hR n fa fb k (tE n fa fb k))) (nm v) = hdw nm (-1, -1) (fw fa fb q2 (k + 1) v (hR n fa fb (k + 1) v)) := by
  have hV' : Vd fa fb n k := Vd_le hV (by omega)
  obtain ⟨hR1, hR2⟩ := hR_ok hV'
  have hEO := tEO (fa := fa) (fb := fb) (n := n) (k := k)
  have hb := isE_lt hV (Nat.lt_succ_self k) hEO
  have hne : ¬ ld fa fb k (tE n fa fb k) = ld fa fb k (tO n fa fb k) := by
    rcases hEO with ⟨e1, e2⟩ | ⟨e1, e2⟩
    · rw [← e1, ← e2]; exact hT
    · rw [← e1, ← e2]; exact fun z => hT z.symm
  have hside : ∀ {w : Nat}, (ld fa fb k w = ld fa fb k (fa k) ∨ ld fa fb k w = ld fa fb k (fb k)) ↔ (ld fa fb k w = ld fa fb k (tE n fa fb k) ∨ ld fa fb k w = ld fa fb k (tO n fa fb k)) := by
    intro w
    rcases hEO with ⟨e1, e2⟩ | ⟨e1, e2⟩
    · rw [← e1, ← e2]
    · rw [← e1, ← e2]; exact Or.comm
  have her := (hR1 _ hb.1).2.symm
  have hor := (hR1 _ hb.2).2
  by_cases c : ld fa fb k v = ld fa fb k (tE n fa fb k)
  · have h1 := turn_up (nx := ((nm (tO n fa fb k) : Int), (k : Int))) (par := par) hV' hN hb.1 (hR1 _ hb.1).1 her (fun w hw hwl => by
      rw [hpar w hw, hR2 w (tE n fa fb k) (hwl.trans her.symm)]) hv (c.trans her)
    rw [h1, hR_both hT (hside.mpr (Or.inl c)), fw_over hT hEO c hor hq hq2]
    cases fw fa fb q k v (tE n fa fb k) with
    | nil => rfl
    | cons s L => rfl
  · rw [turn_far hV' hN hb.1 her hv (fun z => c (z.trans her.symm)), hpar v hv]
    by_cases d : ld fa fb k v = ld fa fb k (tO n fa fb k)
    · rw [hR_both hT (hside.mpr (Or.inr d)), hR2 v _ d, fw_later (d.trans hor.symm) hq]
    · rw [hR_far (Or.inl (fun z => (hside.mp z).elim c d)), fw_later (hR1 v hv).2.symm hq]
theorem Tr_tree (hV : Vd fa fb n (k + 1)) (hT : TL fa fb k) (hv : v < n) :
    rvU idn (up1 n fa fb k) (tE n fa fb k) ((tO n fa fb k : Int), (k : Int)) (pa fa fb k (tE n fa fb k) (hR n fa fb k (tE n fa fb k))) v = up1 n fa fb (k + 1) v := by
  have := up_tree (q := fun _ => true) (q2 := fun _ => true) (nm := idn) (par := up1 n fa fb k) hV hT NmQ_id (fun _ _ => rfl) rfl (fun w _ => by unfold up1; rw [fw_true]; rfl) hv
  rw [fw_true, fw_true] at this
  exact this
theorem up1_close (hV : Vd fa fb n (k + 1)) (hT : ¬ TL fa fb k) (hv : v < n) : up1 n fa fb (k + 1) v = up1 n fa fb k v := by
  obtain ⟨hR1, hR2⟩ := hR_ok (Vd_le hV (Nat.le_succ k))
  unfold up1
  rw [hR_far (Or.inr hT), pa_later (hR1 v hv).2.symm (by omega)]
end W56
