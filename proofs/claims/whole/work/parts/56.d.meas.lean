/-! CLASS 10: Forest: how far each block is from one -/
def aw (n : Nat) (fa fb : Nat → Nat) (k B b : Nat) : Int := if bnm n fa fb k b = b ∧ ld fa fb k b = ld fa fb k B then ((fw fa fb (qb fa fb k) k B b).length : Int) else -1
section W56d
variable {fa fb : Nat → Nat} {n k u v b c t y r B : Nat} {x : FoS} {w : WbS} {L : List (Nat × Nat)}
theorem aw_ge : -1 ≤ aw n fa fb k B b := by
  unfold aw
  split <;> omega
theorem chn_dist (hV : Vd fa fb n k) (hBn : B < n) (hl : liv (hB n fa fb k) B) (hc : c ∈ chn n fa fb k B) : c < n ∧ liv (hB n fa fb k) c ∧ ld fa fb k c = ld fa fb k B ∧ (fw fa fb (qb fa fb k) k B c).length + (chn n fa fb k c).length = (chn n fa fb k B).length := by
  obtain ⟨hR1, hR2⟩ := hR_ok hV
  have hBr := (hR1 B hBn).2.symm
  have hc' : c ∈ bnm n fa fb k B :: nmL (bnm n fa fb k) (fw fa fb (qb fa fb k) k B (hR n fa fb k B)) := by rw [liv_bnm hl]; exact hc
  obtain ⟨y, hy, ho, he⟩ := nm_onW hV hBn hBr hc'
  have hcl := bnm_lt (k := k) (fa := fa) (fb := fb) hV hy
  rw [he] at hcl
  have hcy := (NmQ_b (n := n) hV c y hcl.1 hy).mp ((liv_bnm hcl.2).trans he.symm)
  have hcB : ld fa fb k c = ld fa fb k B := hcy.1.trans ho.1.symm
  have hrr : hR n fa fb k c = hR n fa fb k B := hR2 c B hcB
  refine ⟨hcl.1, hcl.2, hcB, ?_⟩
  have h1 : (fw fa fb (qb fa fb k) k B (hR n fa fb k B)).length = (fw fa fb (qb fa fb k) k B y).length + (fw fa fb (qb fa fb k) k y (hR n fa fb k B)).length := by
    unfold fw
    rw [ho.2, List.filter_append, List.length_append]
  have h2 : (fw fa fb (qb fa fb k) k B c).length = (fw fa fb (qb fa fb k) k B y).length := fw_len_same hcy.1 hcy.2 ho.1.symm
  have h3 : fw fa fb (qb fa fb k) k c (hR n fa fb k B) = fw fa fb (qb fa fb k) k y (hR n fa fb k B) := fw_same hcy.1 hcy.2 (ho.1.symm.trans hBr)
  unfold chn
  rw [List.length_cons, List.length_cons, nmL, nmL, List.length_map, List.length_map, hrr, h3, h1, h2]
  omega
/-- a child that is not above: one bridge farther than its parent -/
theorem dist_child (hV : Vd fa fb n k) (hBn : B < n) (hBl : liv (hB n fa fb k) B) (hc : c < n) (hl : liv (hB n fa fb k) c) {a : Nat} (hP : fPP n fa fb k c = (a : Int)) (hn : c ∉ chn n fa fb k B) (hld : ld fa fb k c = ld fa fb k B) :
    (fw fa fb (qb fa fb k) k B c).length = (fw fa fb (qb fa fb k) k B a).length + 1 ∧ ld fa fb k a = ld fa fb k c := by
  obtain ⟨hR1, hR2⟩ := hR_ok hV
  have hcr := (hR1 c hc).2.symm
  have hP2 : (bup n fa fb k c).1 = (a : Int) := by rw [← fP_liv hl]; exact hP
  unfold bup at hP2
  cases hp : fw fa fb (qb fa fb k) k c (hR n fa fb k c) with
  | nil =>
    rw [hp] at hP2
    have hP2 : (-1 : Int) = (a : Int) := hP2
    omega
  | cons s M =>
    obtain ⟨t, y⟩ := s
    rw [hp] at hP2
    have hP2 : (bnm n fa fb k y : Int) = (a : Int) := hP2
    have hya : bnm n fa fb k y = a := by omega
    obtain ⟨z, g1, g2, g3, g4, g5, g6, g7, g8, g9, g10⟩ := fw_hd hcr hp
    have hy := (isE_lt hV g6 g8).2
    have hbe := below_iff hV hc hl hBn hp
    rw [liv_bnm hBl] at hbe
    have htB : t ∉ lks (pa fa fb k B (hR n fa fb k c)) := fun q => hn (hbe.mpr ⟨hld.symm, q⟩)
    have hBr : ld fa fb k B = ld fa fb k (hR n fa fb k c) := hld.symm.trans hcr
    have hzr : ld fa fb k z = ld fa fb k (hR n fa fb k c) := g1.symm.trans hcr
    have htz : t ∈ lks (pa fa fb k z (hR n fa fb k c)) := by rw [g3]; exact List.mem_cons_self
    have hpar := pa_parity (t := t) hzr hBr
    have htzB : t ∈ lks (pa fa fb k z B) := hpar.mpr (fun q => htB (q.mp htz))
    have hyB : ld fa fb k y = ld fa fb k B := g9.trans hBr.symm
    have hzB : ld fa fb k z = ld fa fb k B := hzr.trans hBr.symm
    have ha := bnm_same (k := k) (fa := fa) (fb := fb) hV hy
    rw [hya] at ha
    rcases pa_step (v := B) hyB g6 g7 g8 with e | e
    · have e2 : fw fa fb (qb fa fb k) k z B = (t, y) :: fw fa fb (qb fa fb k) k y B := by
        unfold fw; rw [e, List.filter_cons, if_pos g5]
      refine ⟨?_, ha.1.trans (g9.trans hcr.symm)⟩
      rw [fw_len_same g1 g2 hzB, fw_rev_len hzB, e2, List.length_cons, fw_len_same ha.1 ha.2 hyB, fw_rev_len hyB]
    · exfalso
      have := pa_hd_ne hyB e
      exact this htzB
theorem root_same (hV : Vd fa fb n k) (hBn : B < n) (hBl : liv (hB n fa fb k) B) (hc : c < n) (hl : liv (hB n fa fb k) c) (hP : fPP n fa fb k c = -1) (hld : ld fa fb k c = ld fa fb k B) : c ∈ chn n fa fb k B := by
  obtain ⟨hR1, hR2⟩ := hR_ok hV
  have hcr := (hR1 c hc).2.symm
  have hP2 : (bup n fa fb k c).1 = -1 := by rw [← fP_liv hl]; exact hP
  have hnil : fw fa fb (qb fa fb k) k c (hR n fa fb k c) = [] := by
    unfold bup at hP2
    cases hp : fw fa fb (qb fa fb k) k c (hR n fa fb k c) with
    | nil => rfl
    | cons s M =>
      rw [hp] at hP2
      have hP2 : (bnm n fa fb k s.2 : Int) = -1 := hP2
      omega
  have hrr := hR2 c B hld
  have hBr := (hR1 B hBn).2.symm
  have h1 : bnm n fa fb k c = bnm n fa fb k (hR n fa fb k B) := by
    refine (NmQ_b (n := n) hV c _ hc (hR1 B hBn).1).mpr ⟨hld.trans hBr, ?_⟩
    rw [← hrr]; exact hnil
  have h2 := onW_nm hV (NmQ_b (n := n) hV) hBn (hR1 B hBn).1 (onW_b hBr)
  rw [← h1, liv_bnm hl, liv_bnm hBl] at h2
  exact h2
theorem measure_ok (hV : Vd fa fb n k) (hn : n ≤ 32) (hF : FoOK n fa fb k x) (hBn : B < n) (hBl : liv (hB n fa fb k) B) {w : Int32} (hw : w.toInt = (B : Int)) : Ok (Fo_m_measure x w) (fun q => ∃ f, q = Fo_set_away x f ∧ ∀ b, b < n → (f b).toInt = aw n fa fb k B b) := by
  obtain ⟨h0, hcnt, hord, hrow⟩ := hF
  have hFH := FH_f (k := k) (fa := fa) (fb := fb) hV hn
  have hle := ord_len (k := k) (fa := fa) (fb := fb) hV hn
  have hnd : (ord n fa fb k).Nodup := TOT_nodup hFH
  have hchl : (chn n fa fb k B).length ≤ 32 := (hFH B hBn hBl).2
  have hchn : (chn n fa fb k B).length ≤ n := by
    have hN := nm_nodup (nm := bnm n fa fb k) hV (NmQ_b hV) rfl hBn ((hR_ok hV).1 B hBn).2.symm
    have := List.Nodup.length_le_of_subset hN (l₂ := List.range n) (fun c hc => ?_)
    · unfold chn
      rw [List.length_range, List.length_cons] at this
      rw [List.length_cons]; exact this
    · rw [List.mem_range]
      rw [liv_bnm hBl] at hc
      exact (chn_dist hV hBn hBl hc).1
  -- on the chain: how far
  have haw : ∀ c, c ∈ chn n fa fb k B → aw n fa fb k B c = ((chn n fa fb k B).length : Int) - ((chn n fa fb k c).length : Int) := by
    intro c hc
    obtain ⟨c1, c2, c3, c4⟩ := chn_dist hV hBn hBl hc
    unfold aw
    rw [if_pos ⟨liv_bnm c2, c3⟩]
    omega
  have hclen : ∀ c, c ∈ chn n fa fb k B → 1 ≤ (chn n fa fb k c).length := fun c _ => by unfold chn; rw [List.length_cons]; omega
  unfold Fo_m_measure
  refine Ok_upto (fun (j : Nat) (p : FoS × Int32 × Int32) => p.2.2.toInt = (j : Int) ∧ ∃ f, p.1 = Fo_set_away x f ∧ (∀ b, b < n → (f b).toInt = if b ∈ chn n fa fb k B ∧ (chn n fa fb k B).length < (chn n fa fb k b).length + j then aw n fa fb k B b else -1) ∧
      ((∃ c, c ∈ chn n fa fb k B ∧ (chn n fa fb k c).length + j = (chn n fa fb k B).length ∧ p.2.1.toInt = (c : Int)) ∨ (j = (chn n fa fb k B).length ∧ p.2.1.toInt = -1))) (e := (chn n fa fb k B).length) (by omega) ?_ ?_ ?_
  · refine ⟨i32_0, fillF (Fo_away x) 32 (-1), rfl, fun b hb => ?_, Or.inl ⟨B, ch_self hFH hBn hBl, rfl, hw⟩⟩
    unfold fillF
    rw [if_pos (Nat.lt_of_lt_of_le hb hn), i32_m1, if_neg]
    intro ⟨q1, q2⟩
    have := (chn_dist hV hBn hBl q1).2.2.2
    omega
  · intro j p hj ⟨hi, f, hp0, hf, hst⟩
    obtain ⟨y, v2, v3⟩ := p
    dsimp only at hi hp0 hst
    subst hp0
    dsimp only [Fo_m_measure_s12]
    rcases hst with ⟨c, hc, hcj, hv2⟩ | ⟨hj2, _⟩
    · obtain ⟨c1, c2, c3, c4⟩ := chn_dist hV hBn hBl hc
      have hc32 := Nat.lt_of_lt_of_le c1 hn
      refine Ok_ite (fun q => by rw [i32_le] at q; have q2 : (Fo_names x).toInt ≤ v3.toInt := q; omega) (fun _ => ?_)
      refine Ok_ite (fun q => by rw [i32_eq, hv2, i32_m1] at q; omega) (fun _ => ?_)
      refine Ok_wrb hv2 hc32 (Ok_rdb hv2 hc32 (Ok_some ⟨nx_s hi (by omega), va_up f c v3, rfl, fun b hb => ?_, ?_⟩))
      · by_cases e : b = c
        · rw [e, vu_s, if_pos ⟨hc, by omega⟩, haw c hc, hi]; omega
        · rw [vu_n e, hf b hb]
          by_cases q : b ∈ chn n fa fb k B ∧ (chn n fa fb k B).length < (chn n fa fb k b).length + j
          · rw [if_pos q, if_pos ⟨q.1, by omega⟩]
          · rw [if_neg q, if_neg]
            intro ⟨z1, z2⟩
            have : (chn n fa fb k b).length = (chn n fa fb k c).length := by
              have : ¬ (chn n fa fb k B).length < (chn n fa fb k b).length + j := fun z => q ⟨z1, z⟩
              omega
            exact e (ch_uniq hFH rfl hBn hBl b c z1 hc this)
      · have hpc := (hrow c c1).1
        rcases (hFH c c1 c2).1 with ⟨hp, hch⟩ | ⟨a, ha, hal, hp, hch⟩
        · right
          rw [hch] at hcj
          refine ⟨by rw [← hcj]; show j + 1 = 1 + j; omega, ?_⟩
          show (Fo_parent x c).toInt = -1
          rw [hpc, hp]
        · left
          have haB : a ∈ chn n fa fb k B := (ch_ok hFH rfl hBn hBl c hc).2.2.2.1 a (by rw [hch]; exact List.mem_cons_of_mem _ (ch_self hFH ha hal))
          refine ⟨a, haB, ?_, hpc.trans hp⟩
          rw [hch, List.length_cons] at hcj
          omega
    · omega
  · intro p ⟨hi, f, hp0, hf, hst⟩
    obtain ⟨y, v2, v3⟩ := p
    dsimp only at hi hp0 hst
    subst hp0
    dsimp only [Fo_m_measure_s12]
    have hv2 : v2.toInt = -1 := by
      rcases hst with ⟨c, hc, hcj, _⟩ | ⟨_, h⟩
      · have := hclen c hc; omega
      · exact h
    -- the second loop
    have second : Ok (omap (iter (fun p : FoS × Int32 => Fo_m_measure_s47 p.1 p.2) FU (Fo_set_away x f, 0)) : Option ((FoS × Int32 × Int32) ⊕ FoS)) (LR (fun _ => False) (fun q => ∃ f, q = Fo_set_away x f ∧ ∀ b, b < n → (f b).toInt = aw n fa fb k B b)) := by
      refine Ok_omap ?_
      refine Ok_for (ord n fa fb k).length (fun j z => ∃ g, z = Fo_set_away x g ∧ ∀ b, b < n → (g b).toInt = if b ∈ chn n fa fb k B ∨ b ∈ (ord n fa fb k).take j then aw n fa fb k B b else -1) (by omega) i32_0 ⟨f, rfl, fun b hb => ?_⟩ ?_ ?_
      · rw [hf b hb]
        by_cases q : b ∈ chn n fa fb k B
        · have := hclen b q
          rw [if_pos ⟨q, by omega⟩, if_pos (Or.inl q)]
        · rw [if_neg (fun z => q z.1), if_neg]
          intro z
          rcases z with z | z
          · exact q z
          · cases z
      · intro j z i hj hi ⟨g, hz, hg⟩
        subst hz
        dsimp only [Fo_m_measure_s47]
        refine Ok_ite (fun q => by rw [i32_le] at q; have q2 : (Fo_count x).toInt ≤ i.toInt := q; omega) (fun _ => ?_)
        obtain ⟨c, hcat⟩ := getE hj
        obtain ⟨c1, c2⟩ := (ord_mem hV hn).mp (List.mem_of_getElem? hcat)
        have hc32 := Nat.lt_of_lt_of_le c1 hn
        have hoc := hord j c hcat
        have htk := take_s hcat
        have hpc := (hrow c c1).1
        have hcnt' : c ∉ (ord n fa fb k).take j := by
          intro q
          have e : ord n fa fb k = (ord n fa fb k).take (j + 1) ++ (ord n fa fb k).drop (j + 1) := (List.take_append_drop _ _).symm
          rw [htk] at e
          rw [e] at hnd
          have := (List.nodup_append.mp (List.nodup_append.mp hnd).1).2.2
          exact this c q c (List.mem_singleton.mpr rfl) rfl
        -- nothing is to be done, or one is laid
        have skip : (c ∈ chn n fa fb k B ∨ aw n fa fb k B c = -1) → Ok (some (Sum.inl (Fo_set_away x g, i + 1)) : Option ((FoS × Int32) ⊕ FoS)) (LR (fun p => p.2.toInt = ((j + 1 : Nat) : Int) ∧ ∃ g, p.1 = Fo_set_away x g ∧ ∀ b, b < n → (g b).toInt = if b ∈ chn n fa fb k B ∨ b ∈ (ord n fa fb k).take (j + 1) then aw n fa fb k B b else -1) (fun q => ∃ f, q = Fo_set_away x f ∧ ∀ b, b < n → (f b).toInt = aw n fa fb k B b)) := by
          intro hsk
          refine Ok_some ⟨nx_s hi (by omega), g, rfl, fun b hb => ?_⟩
          rw [hg b hb, htk]
          by_cases e : b = c
          · rw [e]
            rcases hsk with q | q
            · rw [if_pos (Or.inl q), if_pos (Or.inl q)]
            · rw [q]; split <;> split <;> rfl
          · by_cases q : b ∈ chn n fa fb k B ∨ b ∈ (ord n fa fb k).take j
            · rw [if_pos q, if_pos (q.elim Or.inl (fun z => Or.inr (List.mem_append_left _ z)))]
            · rw [if_neg q, if_neg]
              intro z
              rcases z with z | z
              · exact q (Or.inl z)
              · rcases List.mem_append.mp z with z | z
                · exact q (Or.inr z)
                · exact e (List.mem_singleton.mp z)
        have hgc := hg c c1
        refine Ok_rdb hi (by omega) (Ok_rdb hoc hc32 (Ok_rdb hoc hc32 ?_))
        refine Ok_ite (fun q => ?_) (fun q => ?_)
        · have q : (g c).toInt = -1 := by rw [show g c = Fo_away (Fo_set_away x g) c from rfl, q, i32_m1]
          by_cases hcB : c ∈ chn n fa fb k B
          · rw [if_pos (Or.inl hcB)] at hgc
            have := haw c hcB
            have := (chn_dist hV hBn hBl hcB).2.2.2
            omega
          · refine Ok_ite (fun q2 => ?_) (fun q2 => ?_)
            · have q2 : (Fo_parent x c).toInt = -1 := by rw [show Fo_parent x c = Fo_parent (Fo_set_away x g) c from rfl, q2, i32_m1]
              rw [hpc] at q2
              refine skip (Or.inr ?_)
              unfold aw
              rw [if_neg]
              intro z
              exact hcB (root_same hV hBn hBl c1 c2 q2 z.2)
            · rcases (hFH c c1 c2).1 with ⟨hp, -⟩ | ⟨a, ha, hal, hp, -⟩
              · exact absurd (i32_ext (by rw [show (Fo_parent (Fo_set_away x g) c).toInt = (Fo_parent x c).toInt from rfl, hpc, hp, i32_m1])) q2
              · have hpa : (Fo_parent x c).toInt = (a : Int) := hpc.trans hp
                have ha32 := Nat.lt_of_lt_of_le ha hn
                have hat : a ∈ (ord n fa fb k).take j := by
                  have hpf := TOT_PF (n := n) (lv := liv (hB n fa fb k)) (P := fPP n fa fb k)
                  have e : TOT n (liv (hB n fa fb k)) (fPP n fa fb k) = (ord n fa fb k).take j ++ c :: (ord n fa fb k).drop (j + 1) := by
                    have e : ord n fa fb k = (ord n fa fb k).take (j + 1) ++ (ord n fa fb k).drop (j + 1) := (List.take_append_drop _ _).symm
                    rw [htk, List.append_assoc] at e
                    exact e
                  rw [e] at hpf
                  rcases PFst_at hpf with z | ⟨d, z1, z2⟩
                  · omega
                  · have : d = a := by omega
                    rw [this] at z1
                    rcases z1 with z1 | z1
                    · cases z1
                    · exact z1
                have hga := hg a ha
                rw [if_pos (Or.inr hat)] at hga
                have hsame : ld fa fb k c = ld fa fb k B → ld fa fb k a = ld fa fb k B ∧ aw n fa fb k B c = aw n fa fb k B a + 1 := by
                  intro hld
                  have hd := dist_child hV hBn hBl c1 c2 hp hcB hld
                  refine ⟨hd.2.trans hld, ?_⟩
                  unfold aw
                  rw [if_pos ⟨liv_bnm c2, hld⟩, if_pos ⟨liv_bnm hal, hd.2.trans hld⟩, hd.1]
                  exact Int.natCast_add _ _
                have hac : ld fa fb k a = ld fa fb k c := by
                  have h1 : c ∈ chn n fa fb k c := ch_self hFH c1 c2
                  have h2 := ch_par hFH c1 c2 hp
                  exact (chn_dist hV c1 c2 (show a ∈ chn n fa fb k c by rw [h2.2.2]; exact List.mem_cons_of_mem _ (ch_self hFH ha hal))).2.2.1
                refine Ok_rdb hpa ha32 (Ok_ite (fun q3 => ?_) (fun q3 => ?_))
                · have q3 : (g a).toInt = -1 := by rw [show g a = Fo_away (Fo_set_away x g) a from rfl, q3, i32_m1]
                  refine skip (Or.inr ?_)
                  unfold aw
                  rw [if_neg]
                  intro z
                  have h4 := hsame z.2
                  rw [hga] at q3
                  unfold aw at q3
                  rw [if_pos ⟨liv_bnm hal, h4.1⟩] at q3
                  omega
                · have hla : ld fa fb k a = ld fa fb k B := by
                    refine Classical.byContradiction fun z => q3 (i32_ext ?_)
                    show (g a).toInt = _
                    rw [hga, i32_m1]
                    unfold aw
                    rw [if_neg (fun y => z y.2)]
                  have h4 := hsame (hac.symm.trans hla)
                  have hfl : aw n fa fb k B a = ((fw fa fb (qb fa fb k) k B a).length : Int) := by unfold aw; rw [if_pos ⟨liv_bnm hal, hla⟩]
                  have hbd : (fw fa fb (qb fa fb k) k B a).length < 32 := by
                    have h5 := fw_le (fa := fa) (fb := fb) (k := k) (u := B) (v := a)
                    have h6 := pa_len (v := a) hV hBn hla.symm
                    omega
                  refine Ok_rdb hpa ha32 (Ok_wrb hoc hc32 (Ok_some ⟨nx_s hi (by omega), _, rfl, fun b hb => ?_⟩))
                  show (va_up g c (g a + 1) b).toInt = _
                  rw [htk]
                  by_cases e : b = c
                  · rw [e, vu_s, if_pos (Or.inr (List.mem_append_right _ (List.mem_singleton.mpr rfl))), h4.2, hfl]
                    have : (g a).toInt = ((fw fa fb (qb fa fb k) k B a).length : Int) := hga.trans hfl
                    rw [nx_s this (mil hbd)]; rfl
                  · rw [vu_n e, hg b hb]
                    by_cases q : b ∈ chn n fa fb k B ∨ b ∈ (ord n fa fb k).take j
                    · rw [if_pos q, if_pos (q.elim Or.inl (fun z => Or.inr (List.mem_append_left _ z)))]
                    · rw [if_neg q, if_neg]
                      intro z
                      rcases z with z | z
                      · exact q (Or.inl z)
                      · rcases List.mem_append.mp z with z | z
                        · exact q (Or.inr z)
                        · exact e (List.mem_singleton.mp z)
        · have q : ¬ (g c).toInt = -1 := fun z => q (i32_ext (by rw [i32_m1]; exact z))
          refine skip (Or.inl ?_)
          refine Classical.byContradiction fun z => q ?_
          rw [hgc, if_neg (fun y => y.elim z hcnt')]
      · intro z i hi ⟨g, hz, hg⟩
        subst hz
        dsimp only [Fo_m_measure_s47]
        refine Ok_ite (fun _ => Ok_omap (Ok_some ⟨g, rfl, fun b hb => ?_⟩)) (fun q => by rw [i32_le] at q; exact absurd (show (Fo_count x).toInt ≤ i.toInt by omega) q)
        rw [hg b hb, List.take_length]
        by_cases q : b ∈ chn n fa fb k B ∨ b ∈ ord n fa fb k
        · rw [if_pos q]
        · rw [if_neg q]
          unfold aw
          rw [if_neg]
          intro z
          exact q (Or.inr ((ord_mem hV hn).mpr ⟨hb, z.1⟩))
    refine Ok_ite (fun _ => second) (fun _ => Ok_ite (fun _ => second) (fun q => ?_))
    exact absurd (i32_ext (by rw [hv2, i32_m1])) q
end W56d
