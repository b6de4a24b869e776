/-! REFERENCE 3: turning; shrinking -/
def T3 (x : MdS) (p u : Nat → Int32) (t : Int32) : MdS := Md_set_turned (Md_set_up (Md_set_parent x p) u) t
section R3
variable {fa fb : Nat → Nat} {n k u v b c t y r a d e o : Nat} {x : MdS} {L M : List (Nat × Nat)}
theorem T3_0 : T3 x (Md_parent x) (Md_up x) (Md_turned x) = x := rfl
theorem T3_1 {p u f g : Nat → Int32} {t t2 : Int32} : Md_set_turned (Md_set_up (Md_set_parent (T3 x p u t) f) g) t2 = T3 x f g t2 := rfl
theorem T3_p {p u : Nat → Int32} {t : Int32} : Md_parent (T3 x p u t) = p := rfl
theorem T3_u {p u : Nat → Int32} {t : Int32} : Md_up (T3 x p u t) = u := rfl
theorem T3_u2 {p u f : Nat → Int32} {t : Int32} : Md_up (Md_set_parent (T3 x p u t) f) = u := rfl
theorem T3_t {p u f g : Nat → Int32} {t : Int32} : Md_turned (Md_set_up (Md_set_parent (T3 x p u t) f) g) = t := rfl
theorem turnsR_ok (hV : Vd fa fb n k) (hn : n ≤ 32) (hP : ParOK n fa fb k x) (hno : ∀ v, v < n → (Md_nameOf x v).toInt = (bnm n fa fb k v : Int)) (he : e < n) (ho : o < n) {t0 : Nat} (ht0 : (Md_turned x).toInt = (t0 : Int)) (ht0l : t0 < 1000)
    {w1 w2 w3 : Int32} (h1 : w1.toInt = (e : Int)) (h2 : w2.toInt = (o : Int)) (h3 : w3.toInt = (k : Int)) :
    Ok (Md_m_turns x w1 w2 w3) (fun q => ∃ p u t, q = T3 x p u t ∧ (∀ b, b < n → liv (hB n fa fb k) b → (p b).toInt = (rvU (bnm n fa fb k) (bup n fa fb k) (bnm n fa fb k e) ((bnm n fa fb k o : Int), (k : Int)) (fw fa fb (qb fa fb k) k e (hR n fa fb k e)) b).1 ∧ (u b).toInt = (rvU (bnm n fa fb k) (bup n fa fb k) (bnm n fa fb k e) ((bnm n fa fb k o : Int), (k : Int)) (fw fa fb (qb fa fb k) k e (hR n fa fb k e)) b).2) ∧
      t.toInt = ((t0 + (fw fa fb (qb fa fb k) k e (hR n fa fb k e)).length + 1 : Nat) : Int)) := by
  obtain ⟨hR1, hR2⟩ := hR_ok hV
  obtain ⟨r, hr⟩ : ∃ r, r = hR n fa fb k e := ⟨_, rfl⟩
  have her : ld fa fb k e = ld fa fb k r := by rw [hr]; exact (hR1 e he).2.symm
  rw [← hr]
  obtain ⟨TG, hTG⟩ : ∃ TG, TG = rvU (bnm n fa fb k) (bup n fa fb k) (bnm n fa fb k e) ((bnm n fa fb k o : Int), (k : Int)) (fw fa fb (qb fa fb k) k e r) := ⟨_, rfl⟩
  rw [← hTG]
  have hlen32 : (fw fa fb (qb fa fb k) k e r).length < 32 := by
    have h5 := fw_le (fa := fa) (fb := fb) (k := k) (u := e) (v := r)
    have h6 := pa_len (v := r) hV he her
    omega
  unfold Md_m_turns
  have ne := hno e he
  have no := hno o ho
  have b1 : Ok (Md_m_blockAt x w1) (fun q => q = Md_nameOf x e) := by
    unfold Md_m_blockAt
    exact Ok_rdb h1 (by omega) (Ok_some rfl)
  have b2 : Ok (Md_m_blockAt x w2) (fun q => q = Md_nameOf x o) := by
    unfold Md_m_blockAt
    exact Ok_rdb h2 (by omega) (Ok_some rfl)
  refine Ok_then b1 (fun g2 hg2 => Ok_then b2 (fun g9 hg9 => ?_))
  subst hg2 hg9
  refine Ok_upto (fun (i : Nat) (p : MdS × Int32 × Int32 × Int32) => ∃ (pp uu : Nat → Int32) (t : Int32) (par : Nat → Int × Int), p.1 = T3 x pp uu t ∧ (∀ b, b < n → liv (hB n fa fb k) b → (pp b).toInt = (par b).1 ∧ (uu b).toInt = (par b).2) ∧ t.toInt = ((t0 + i : Nat) : Int) ∧
      ((∃ (y : Nat) (nx : Int × Int), y < n ∧ ld fa fb k y = ld fa fb k r ∧ p.2.1.toInt = (bnm n fa fb k y : Int) ∧ p.2.2.1.toInt = nx.1 ∧ p.2.2.2.toInt = nx.2 ∧ rvU (bnm n fa fb k) par (bnm n fa fb k y) nx (fw fa fb (qb fa fb k) k y r) = TG ∧
          (∀ w, w ∈ bnm n fa fb k y :: nmL (bnm n fa fb k) (fw fa fb (qb fa fb k) k y r) → par w = bup n fa fb k w) ∧ i + (fw fa fb (qb fa fb k) k y r).length = (fw fa fb (qb fa fb k) k e r).length) ∨
       (p.2.1.toInt = -1 ∧ par = TG ∧ i = (fw fa fb (qb fa fb k) k e r).length + 1))) (e := (fw fa fb (qb fa fb k) k e r).length + 1) (by omega) ?_ ?_ ?_
  · exact ⟨Md_parent x, Md_up x, Md_turned x, bup n fa fb k, T3_0.symm, hP, ht0, Or.inl ⟨e, _, he, her, ne, no, h3, hTG.symm, fun _ _ => rfl, by omega⟩⟩
  · intro i p hi ⟨pp, uu, t, par, hp0, hpar, ht, hst⟩
    obtain ⟨y0, v4, v5, v6⟩ := p
    dsimp only at hp0
    subst hp0
    rcases hst with ⟨y, nx, hy, hyr, pc, px1, px2, hrv, hag, hil⟩ | ⟨_, _, hj⟩
    · dsimp only at pc px1 px2
      dsimp only [Md_m_turns_s17]
      have hby := bnm_lt (k := k) (fa := fa) (fb := fb) hV hy
      have hb32 : bnm n fa fb k y < 32 := by omega
      refine Ok_ite (fun q => by rw [i32_eq, pc, i32_m1] at q; omega) (fun _ => ?_)
      rw [T3_p, T3_u]
      refine Ok_rdb pc hb32 (Ok_rdb pc hb32 (Ok_wrb pc hb32 ?_))
      rw [T3_u2]
      refine Ok_wrb pc hb32 ?_
      rw [T3_t, T3_1]
      have hyR : hR n fa fb k y = r := by rw [hr]; exact hR2 y e (hyr.trans her.symm)
      have hpc : par (bnm n fa fb k y) = hdw (bnm n fa fb k) (-1, -1) (fw fa fb (qb fa fb k) k y r) := by
        rw [hag _ List.mem_cons_self, bup_bnm hV hy, hyR]
      have hfc := hpar _ hby.1 hby.2
      rw [hpc] at hfc
      have hnew : ∀ b, b < n → liv (hB n fa fb k) b → (va_up pp (bnm n fa fb k y) v5 b).toInt = (upf par (bnm n fa fb k y) nx b).1 ∧ (va_up uu (bnm n fa fb k y) v6 b).toInt = (upf par (bnm n fa fb k y) nx b).2 := by
        intro b hb hl
        unfold upf
        by_cases e : b = bnm n fa fb k y
        · rw [e, vu_s, vu_s, if_pos rfl]; exact ⟨px1, px2⟩
        · rw [vu_n e, vu_n e, if_neg e]; exact hpar b hb hl
      have ht1 : (t + 1).toInt = ((t0 + (i + 1) : Nat) : Int) := nx_s (k := t0 + i) ht (by omega)
      cases hp : fw fa fb (qb fa fb k) k y r with
      | nil =>
        rw [hp] at hfc hil hrv
        refine Ok_some ⟨_, _, _, upf par (bnm n fa fb k y) nx, rfl, hnew, ht1, Or.inr ⟨hfc.1, ?_, ?_⟩⟩
        · rw [← hrv]; rfl
        · rw [← hil]; rfl
      | cons s M =>
        obtain ⟨tt, z⟩ := s
        obtain ⟨q, g1, g2, g3, g4, g5, g6, g7, g8, g9, g10⟩ := fw_hd hyr hp
        have hz := (isE_lt hV g6 g8).2
        have hnod := nm_nodup (nm := bnm n fa fb k) hV (NmQ_b hV) rfl hy hyr
        rw [hp] at hfc hil hrv hag hnod
        subst g4
        have hcM : bnm n fa fb k y ∉ bnm n fa fb k z :: nmL (bnm n fa fb k) (fw fa fb (qb fa fb k) k z r) := (List.nodup_cons.mp hnod).1
        refine Ok_some ⟨_, _, _, upf par (bnm n fa fb k y) nx, rfl, hnew, ht1, Or.inl ⟨z, ((bnm n fa fb k y : Int), (tt : Int)), hz, g9, hfc.1, pc, hfc.2, ?_, fun w hw => ?_, ?_⟩⟩
        · rw [← hrv]; rfl
        · have hwc : w ≠ bnm n fa fb k y := fun q => hcM (q ▸ hw)
          unfold upf
          rw [if_neg hwc]
          exact hag w (List.mem_cons_of_mem _ hw)
        · rw [List.length_cons] at hil
          omega
    · omega
  · intro p ⟨pp, uu, t, par, hp0, hpar, ht, hst⟩
    obtain ⟨y0, v4, v5, v6⟩ := p
    dsimp only at hp0
    subst hp0
    rcases hst with ⟨y, nx, hy, hyr, pc, px1, px2, hrv, hag, hil⟩ | ⟨pc, hpe, hj⟩
    · omega
    · dsimp only at pc
      subst hpe
      dsimp only [Md_m_turns_s17]
      refine Ok_ite (fun _ => Ok_omap (Ok_some ⟨pp, uu, t, rfl, hpar, ?_⟩)) (fun q => absurd (i32_ext (by rw [pc, i32_m1])) q)
      rw [ht]; rfl
theorem has_any {x : MdS} {m v : Int32} : ∃ b, Md_m_has x m v = some b := by
  unfold Md_m_has
  split
  · exact ⟨_, rfl⟩
  · exact ⟨_, rfl⟩
/-- the nearest to the root among those on the way -/
def isTop (n : Nat) (fa fb : Nat → Nat) (k : Nat) (S : List Nat) (T : Nat) : Prop := T ∈ S ∧ ∀ c, c ∈ S → (chn n fa fb k T).length ≤ (chn n fa fb k c).length
def rgS (n : Nat) (fa fb : Nat → Nat) (k : Nat) : List Nat := bnm n fa fb k (fa k) :: nmL (bnm n fa fb k) (fw fa fb (qb fa fb k) k (fa k) (fb k))
theorem rgS_node (hV : Vd fa fb n (k + 1)) (hc : ld fa fb k (fa k) = ld fa fb k (fb k)) (h : c ∈ rgS n fa fb k) : c < n ∧ liv (hB n fa fb k) c ∧ ∃ x, x < n ∧ onW fa fb k (fa k) (fb k) x ∧ bnm n fa fb k x = c := by
  have hV' : Vd fa fb n k := Vd_le hV (Nat.le_succ k)
  obtain ⟨x, hx, ho, he⟩ := nm_onW hV' (hV k (Nat.lt_succ_self k)).1 hc h
  have := bnm_lt (k := k) (fa := fa) (fb := fb) hV' hx
  rw [he] at this
  exact ⟨this.1, this.2, x, hx, ho, he⟩
theorem chn_fw (hV : Vd fa fb n k) (hx : u < n) : (chn n fa fb k (bnm n fa fb k u)).length = (fw fa fb (qb fa fb k) k u (hR n fa fb k u)).length + 1 := dp_len hV hx
/-- steps up of those on the way: of the top one not on the way, of the others on it -/
theorem top_facts (hV : Vd fa fb n (k + 1)) (hc : ld fa fb k (fa k) = ld fa fb k (fb k)) {T : Nat} (hT : isTop n fa fb k (rgS n fa fb k) T) :
    (∀ c, c ∈ rgS n fa fb k → c ≠ T → ∃ t y M, fw fa fb (qb fa fb k) k c (hR n fa fb k c) = (t, y) :: M ∧ t ∈ lks (pa fa fb k (fa k) (fb k)) ∧ qb fa fb k t = true) ∧
    (∀ t y M, fw fa fb (qb fa fb k) k T (hR n fa fb k T) = (t, y) :: M → t ∉ lks (pa fa fb k (fa k) (fb k)) ∧ bnm n fa fb k y ∉ rgS n fa fb k ∧ y < n) ∧
    (∀ t, t ∈ lks (pa fa fb k (fa k) (fb k)) → qb fa fb k t = true → ∃ c y M, c ∈ rgS n fa fb k ∧ c ≠ T ∧ fw fa fb (qb fa fb k) k c (hR n fa fb k c) = (t, y) :: M) := by
  have hV' : Vd fa fb n k := Vd_le hV (Nat.le_succ k)
  obtain ⟨hR1, hR2⟩ := hR_ok hV'
  have ha := (hV k (Nat.lt_succ_self k)).1
  obtain ⟨r, hr⟩ : ∃ r, r = hR n fa fb k (fa k) := ⟨_, rfl⟩
  have har : ld fa fb k (fa k) = ld fa fb k r := by rw [hr]; exact (hR1 _ ha).2.symm
  obtain ⟨hTm, hTmin⟩ := hT
  obtain ⟨hTn, hTl, xT, hxT, hoT, hxTe⟩ := rgS_node hV hc hTm
  -- by nodes
  have node : ∀ {c x : Nat}, x < n → onW fa fb k (fa k) (fb k) x → bnm n fa fb k x = c → hR n fa fb k c = r ∧ fw fa fb (qb fa fb k) k c r = fw fa fb (qb fa fb k) k x r ∧ (chn n fa fb k c).length = (fw fa fb (qb fa fb k) k x r).length + 1 ∧ hR n fa fb k x = r := by
    intro c x hx ho he
    have hxr : hR n fa fb k x = r := by rw [hr]; exact hR2 x (fa k) ho.1.symm
    have h1 := chn_fw hV' hx
    rw [he, hxr] at h1
    refine ⟨by rw [← he, hR_bnm hV' hx]; exact hxr, by rw [← he]; exact fw_bnm hV' hx (ho.1.symm.trans har), h1, hxr⟩
  have hnT := node hxT hoT hxTe
  have hTup : ∀ t y M, fw fa fb (qb fa fb k) k xT r = (t, y) :: M → t ∉ lks (pa fa fb k (fa k) (fb k)) := by
    intro t y M e ht
    have := top_not hoT har e ht hc
    have hy := (fw_hd_lt hV' (hoT.1.symm.trans har) e).1
    have hny := node hy this.1 rfl
    have hmem : bnm n fa fb k y ∈ rgS n fa fb k := onW_nm hV' (NmQ_b hV') ha hy this.1
    have := hTmin _ hmem
    omega
  refine ⟨fun c hcm hcT => ?_, fun t y M e => ?_, fun t ht hq => ?_⟩
  · obtain ⟨hcn, hcl, x, hx, ho, hxe⟩ := rgS_node hV hc hcm
    have hnc := node hx ho hxe
    rw [hnc.1, hnc.2.1]
    have contra : (fw fa fb (qb fa fb k) k x r = [] ∨ ∃ t y M, fw fa fb (qb fa fb k) k x r = (t, y) :: M ∧ t ∉ lks (pa fa fb k (fa k) (fb k))) → False := by
      intro hd
      have h1 := top_near hc har ho hoT hd
      have h2 := hTmin c hcm
      have h0 : fw fa fb (qb fa fb k) k xT x = [] := List.length_eq_zero_iff.mp (by omega)
      have := (NmQ_b (n := n) hV' xT x hxT hx).mpr ⟨hoT.1.symm.trans ho.1, h0⟩
      rw [hxe, hxTe] at this
      exact hcT this.symm
    cases hp : fw fa fb (qb fa fb k) k x r with
    | nil => exact absurd (Or.inl hp) contra
    | cons s M =>
      obtain ⟨t, y⟩ := s
      refine ⟨t, y, M, rfl, Classical.byContradiction fun z => contra (Or.inr ⟨t, y, M, hp, z⟩), ?_⟩
      obtain ⟨_, _, _, _, _, g5, _⟩ := fw_hd (ho.1.symm.trans har) hp
      exact g5
  · rw [hnT.1, hnT.2.1] at e
    have hxr := hoT.1.symm.trans har
    have hy := (fw_hd_lt hV' hxr e).1
    refine ⟨hTup t y M e, fun hm => ?_, hy⟩
    have h2 := hTmin _ hm
    obtain ⟨_, _, _, g4, _, _, _, _, _, g9, _⟩ := fw_hd hxr e
    obtain ⟨z, g1, g2, g3, g4, g5, g6, g7, g8, g9, g10⟩ := fw_hd hxr e
    have hyr : hR n fa fb k y = r := by
      have h3 := hR2 y xT (g9.trans hxr.symm)
      rw [h3]; exact hnT.2.2.2
    have h1 := chn_fw hV' hy
    rw [hyr] at h1
    have h4 := congrArg List.length e
    rw [List.length_cons, g4] at h4
    omega
  · obtain ⟨x, y, ho, hE, e⟩ := top_up hc har ht hq
    have htk := pa_red.2 t ht
    have hx := (isE_lt hV' htk hE).1
    have hnx := node hx ho rfl
    refine ⟨bnm n fa fb k x, y, _, onW_nm hV' (NmQ_b hV') ha hx ho, fun z => ?_, by rw [hnx.1, hnx.2.1]; exact e⟩
    have h5 := (NmQ_b (n := n) hV' x xT hx hxT).mp (z.trans hxTe.symm)
    have h6 : fw fa fb (qb fa fb k) k x r = fw fa fb (qb fa fb k) k xT r := fw_same h5.1 h5.2 (hoT.1.symm.trans har)
    rw [h6] at e
    exact hTup t y _ e ht
end R3
