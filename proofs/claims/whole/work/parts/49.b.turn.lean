/-! THEORY 11: turning: the first steps upwards, by names -/
def hdw (nm : Nat → Nat) (nx : Int × Int) : List (Nat × Nat) → Int × Int
  | [] => nx
  | s :: _ => ((nm s.2 : Int), (s.1 : Int))
def nmL (nm : Nat → Nat) (L : List (Nat × Nat)) : List Nat := L.map (fun s => nm s.2)
def upf (par : Nat → Int × Int) (c : Nat) (nx : Int × Int) : Nat → Int × Int := fun w => if w = c then nx else par w
def rvU (nm : Nat → Nat) : (Nat → Int × Int) → Nat → Int × Int → List (Nat × Nat) → Nat → Int × Int
  | par, c, nx, [] => upf par c nx
  | par, c, nx, s :: L => rvU nm (upf par c nx) (nm s.2) ((c : Int), (s.1 : Int)) L
def prv (nm : Nat → Nat) : Nat → Int × Int → List (Nat × Nat) → Nat → Option (Int × Int)
  | c, nx, [], w => if w = c then some nx else none
  | c, nx, s :: L, w => match prv nm (nm s.2) ((c : Int), (s.1 : Int)) L w with
    | some r => some r
    | none => if w = c then some nx else none
theorem rvU_prv {nm : Nat → Nat} {L : List (Nat × Nat)} {par : Nat → Int × Int} {c w : Nat} {nx : Int × Int} : rvU nm par c nx L w = (prv nm c nx L w).getD (par w) := by
  induction L generalizing par c nx with
  | nil =>
    unfold rvU prv upf
    by_cases e : w = c
    · rw [if_pos e, if_pos e]; rfl
    · rw [if_neg e, if_neg e]; rfl
  | cons s L ih =>
    unfold rvU prv
    rw [ih]
    cases prv nm (nm s.2) ((c : Int), (s.1 : Int)) L w with
    | some r => rfl
    | none =>
      unfold upf
      by_cases e : w = c
      · simp [e]
      · simp [e]
theorem prv_none {nm : Nat → Nat} {L : List (Nat × Nat)} {c w : Nat} {nx : Int × Int} : prv nm c nx L w = none ↔ ¬ w ∈ c :: nmL nm L := by
  induction L generalizing c nx with
  | nil =>
    unfold prv
    by_cases e : w = c
    · simp [e]
    · simp [e, nmL]
  | cons s L ih =>
    unfold prv
    have h := ih (c := nm s.2) (nx := ((c : Int), (s.1 : Int)))
    cases hp : prv nm (nm s.2) ((c : Int), (s.1 : Int)) L w with
    | some r =>
      have hm : w ∈ nm s.2 :: nmL nm L := Classical.not_not.mp (fun q => by rw [h.mpr q] at hp; cases hp)
      constructor
      · intro q; cases q
      · intro q; exact absurd (List.mem_cons_of_mem _ hm) q
    | none =>
      have hn := h.mp hp
      by_cases e : w = c
      · subst e
        simp
      · dsimp only
        rw [if_neg e]
        refine ⟨fun _ q => ?_, fun _ => rfl⟩
        rcases List.mem_cons.mp q with q | q
        · exact e q
        · exact hn q
section W11
variable {fa fb : Nat → Nat} {Z : Nat → Prop} {q : Nat → Bool} {nm : Nat → Nat} {n k u v x y w t r z a b e o : Nat} {L L1 L2 : List (Nat × Nat)} {nx : Int × Int}
/-- names that are the same iff no step of the kind lies between -/
def NmQ (fa fb : Nat → Nat) (q : Nat → Bool) (nm : Nat → Nat) (n k : Nat) : Prop := ∀ u v, u < n → v < n → (nm u = nm v ↔ ld fa fb k u = ld fa fb k v ∧ fw fa fb q k u v = [])
def Vd (fa fb : Nat → Nat) (n k : Nat) : Prop := ∀ l, l < k → fa l < n ∧ fb l < n
theorem isE_lt (hV : Vd fa fb n k) (ht : t < k) (he : isE fa fb t u v) : u < n ∧ v < n := by
  have := hV t ht
  rcases he with ⟨e1, e2⟩ | ⟨e1, e2⟩
  · omega
  · omega
theorem W_lt (hV : Vd fa fb n k) (h : isW fa fb (TZ fa fb k) u L v) (hu : u < n) : v < n := by
  induction L generalizing u with
  | nil => cases h; exact hu
  | cons s L ih => exact ih h.2.2 (isE_lt hV h.1.1 h.2.1).2
theorem fw_hd_lt (hV : Vd fa fb n k) (hl : ld fa fb k u = ld fa fb k v) (e : fw fa fb q k u v = (t, y) :: L) : y < n ∧ t < k := by
  obtain ⟨z, -, -, -, -, -, h6, -, h8, -⟩ := fw_hd hl e
  exact ⟨(isE_lt hV h6 h8).2, h6⟩
/-- the end's name is on the way -/
theorem nm_end (hV : Vd fa fb n k) (hN : NmQ fa fb q nm n k) : ∀ {m : Nat} {u : Nat}, (fw fa fb q k u v).length = m → u < n → v < n → ld fa fb k u = ld fa fb k v → nm v ∈ nm u :: nmL nm (fw fa fb q k u v) := by
  intro m
  induction m with
  | zero =>
    intro u hm hu hv hl
    have := (hN u v hu hv).mpr ⟨hl, List.length_eq_zero_iff.mp hm⟩
    rw [this]
    exact List.mem_cons_self
  | succ m ih =>
    intro u hm hu hv hl
    cases hp : fw fa fb q k u v with
    | nil => rw [hp] at hm; cases hm
    | cons s M =>
      obtain ⟨t, y⟩ := s
      have hd := fw_hd hl hp
      obtain ⟨z, g1, g2, g3, g4, g5, g6, g7, g8, g9, g10⟩ := hd
      subst g4
      rw [hp] at hm
      have := ih (u := y) (by simpa using hm) (isE_lt hV g6 g8).2 hv g9
      exact List.mem_cons_of_mem _ this
theorem nm_on (hV : Vd fa fb n k) (hN : NmQ fa fb q nm n k) (hu : u < n) (hz : z < n) (hl : ld fa fb k u = ld fa fb k z) (e : pa fa fb k u v = pa fa fb k u z ++ L) : nm z ∈ nm u :: nmL nm (fw fa fb q k u v) := by
  have h1 := nm_end hV hN rfl hu hz hl
  have h2 : fw fa fb q k u v = fw fa fb q k u z ++ L.filter (fun s => q s.1) := by unfold fw; rw [e, List.filter_append]
  rw [h2]
  unfold nmL
  rw [List.map_append]
  rcases List.mem_cons.mp h1 with h | h
  · rw [h]; exact List.mem_cons_self
  · exact List.mem_cons_of_mem _ (List.mem_append_left _ h)
/-- names along a way are unlike -/
theorem nm_nodup (hV : Vd fa fb n k) (hN : NmQ fa fb q nm n k) : ∀ {m : Nat} {u : Nat}, (fw fa fb q k u v).length = m → u < n → ld fa fb k u = ld fa fb k v → (nm u :: nmL nm (fw fa fb q k u v)).Nodup := by
  intro m
  induction m with
  | zero =>
    intro u hm hu hl
    rw [List.length_eq_zero_iff.mp hm]
    exact List.nodup_cons.mpr ⟨List.not_mem_nil, List.nodup_nil⟩
  | succ m ih =>
    intro u hm hu hl
    cases hp : fw fa fb q k u v with
    | nil => rw [hp] at hm; cases hm
    | cons s M =>
      obtain ⟨t, y⟩ := s
      obtain ⟨z, g1, g2, g3, g4, g5, g6, g7, g8, g9, g10⟩ := fw_hd hl hp
      have hi := ih (u := y) (by rw [hp, g4] at hm; simpa using hm) (isE_lt hV g6 g8).2 g9
      have e1 : nm y :: nmL nm (fw fa fb q k y v) = nmL nm ((t, y) :: M) := by rw [g4]; rfl
      rw [← e1]
      refine List.nodup_cons.mpr ⟨fun hm2 => ?_, hi⟩
      -- a name again: the way there holds t
      have key : ∃ w, w < n ∧ nm w = nm u ∧ ∃ L2, pa fa fb k u v = pa fa fb k u w ++ L2 ∧ t ∈ lks (pa fa fb k u w) ∧ ld fa fb k u = ld fa fb k w := by
        rw [e1] at hm2
        obtain ⟨s, hs, he⟩ := List.mem_map.mp hm2
        rw [← hp] at hs
        have hs2 := (fw_mem.mp hs).1
        obtain ⟨A, B, hAB⟩ := List.append_of_mem hs2
        have hAB2 : pa fa fb k u v = (A ++ [s]) ++ B := by rw [hAB]; simp
        obtain ⟨w, w1, w2, w3, w4⟩ := pa_cut hl hAB2
        have hend : w = s.2 := by
          have hW := pa_W w3
          rw [← w1] at hW
          obtain ⟨c, c1, c2⟩ := hW.split
          exact c2.2.2.symm
        have hwn : w < n := W_lt hV (pa_W w3) hu
        refine ⟨w, hwn, by rw [hend]; exact he, B, ?_, ?_, w3⟩
        · rw [← w1]; exact hAB2
        · rw [← w1]
          -- t comes first among the kind's links
          have hsq := (fw_mem.mp hs).2
          have hfu : fw fa fb q k u w = (A ++ [s]).filter (fun s => q s.1) := by unfold fw; rw [← w1]
          have hne : fw fa fb q k u w ≠ [] := by
            rw [hfu]
            intro h0
            have : s ∈ (A ++ [s]).filter (fun s => q s.1) := List.mem_filter.mpr ⟨by simp, hsq⟩
            rw [h0] at this
            cases this
          have hcat : fw fa fb q k u v = fw fa fb q k u w ++ B.filter (fun s => q s.1) := by unfold fw; rw [← w1, hAB2, List.filter_append]
          cases hc : fw fa fb q k u w with
          | nil => exact absurd hc hne
          | cons p P =>
            rw [hp, hc] at hcat
            have : p = (t, y) := by
              have := List.cons.inj hcat
              exact this.1.symm
            have hpm : p ∈ fw fa fb q k u w := by rw [hc]; exact List.mem_cons_self
            have := (fw_mem.mp hpm).1
            rw [← w1] at this
            exact List.mem_map.mpr ⟨p, this, by rw [‹p = (t, y)›]⟩
      obtain ⟨w, w1, w2, L2, w3, w4, w5⟩ := key
      have := ((hN u w hu w1).mp w2.symm).2
      have h0 := fw_nil.mp this t w4
      rw [g5] at h0
      cases h0
/-- the turned land's first steps -/
theorem prv_on (hV : Vd fa fb n k) (hN : NmQ fa fb q nm n k) (he : e < n) (hr : r < n) (hl : ld fa fb k e = ld fa fb k r) :
    ∀ {m : Nat} {x : Nat}, (fw fa fb q k x r).length = m → x < n → ld fa fb k x = ld fa fb k r → pa fa fb k e r = pa fa fb k e x ++ pa fa fb k x r →
    ∀ v, v < n → ld fa fb k v = ld fa fb k r → nm v ∈ nm x :: nmL nm (fw fa fb q k x r) → prv nm (nm x) (hdw nm nx (fw fa fb q k x e)) (fw fa fb q k x r) (nm v) = some (hdw nm nx (fw fa fb q k v e)) := by
  intro m
  induction m with
  | zero =>
    intro x hm hx hxr hon v hv hvr hmem
    rw [List.length_eq_zero_iff.mp hm] at hmem ⊢
    have hvx : nm v = nm x := by simpa [nmL] using hmem
    have := (hN v x hv hx).mp hvx
    unfold prv
    rw [if_pos hvx, fw_same this.1 this.2 (hxr.trans hl.symm)]
  | succ m ih =>
    intro x hm hx hxr hon v hv hvr hmem
    cases hp : fw fa fb q k x r with
    | nil => rw [hp] at hm; cases hm
    | cons s M =>
      obtain ⟨t, y⟩ := s
      obtain ⟨z, g1, g2, g3, g4, g5, g6, g7, g8, g9, g10⟩ := fw_hd hxr hp
      have hyn := (isE_lt hV g6 g8).2
      have hzn := (isE_lt hV g6 g8).1
      have hcut : pa fa fb k e r = (pa fa fb k e x ++ pa fa fb k x z ++ [(t, y)]) ++ pa fa fb k y r := by rw [hon, g10, g3]; simp
      have hcut0 : pa fa fb k e r = (pa fa fb k e x ++ pa fa fb k x z) ++ (t, y) :: pa fa fb k y r := by rw [hon, g10, g3]; simp
      obtain ⟨y', y1, y2, y3, y4⟩ := pa_cut hl hcut
      obtain ⟨z', z1, z2, z3, z4⟩ := pa_cut hl hcut0
      have ez : z' = z := by
        have hd := pa_hd z4 z2.symm
        have : isE fa fb t y z := g8.symm
        exact isE_fix hd.2.1 hd.2.2.1.symm this
      subst ez
      have hon' : pa fa fb k e r = pa fa fb k e y ++ pa fa fb k y r := by
        have ey : y' = y := by
          have hW := pa_W y3
          rw [← y1] at hW
          obtain ⟨c, c1, c2⟩ := hW.split
          exact c2.2.2.symm
        subst ey
        rw [← y1]; exact hcut
      -- y's way to e begins with t
      have hte : t ∉ lks (pa fa fb k z' e) := by
        intro hh
        rw [pa_mem_rev z3, ← z1] at hh
        have hnd := pa_nodup hl
        rw [hcut0, lks_app] at hnd
        exact (List.nodup_append.mp hnd).2.2 t hh t (by simp [lks]) rfl
      have hye : fw fa fb q k y e = (t, z') :: fw fa fb q k z' e := by
        have := fw_cat2 (b := e) (g9.trans hl.symm) g6 g7 g8 hte
        unfold fw
        rw [this, List.filter_cons, if_pos g5]
      have hzx : nm z' = nm x := ((hN x z' hx hzn).mpr ⟨g1, g2⟩).symm
      have hhd : hdw nm nx (fw fa fb q k y e) = ((nm x : Int), (t : Int)) := by rw [hye]; show ((nm z' : Int), (t : Int)) = _; rw [hzx]
      subst g4
      rw [hp] at hm hmem
      unfold prv
      by_cases hc : nm v ∈ nm y :: nmL nm (fw fa fb q k y r)
      · have := ih (x := y) (by simpa using hm) hyn g9 hon' v hv hvr hc
        rw [hhd] at this
        dsimp only
        rw [this]
      · have h0 : prv nm (nm y) ((nm x : Int), (t : Int)) (fw fa fb q k y r) (nm v) = none := prv_none.mpr hc
        have hvx : nm v = nm x := by
          rcases List.mem_cons.mp hmem with h | h
          · exact h
          · exact absurd h hc
        dsimp only
        rw [h0]
        dsimp only
        rw [if_pos hvx]
        have := (hN v x hv hx).mp hvx
        rw [fw_same this.1 this.2 (hxr.trans hl.symm)]
theorem turn_up (hV : Vd fa fb n k) (hN : NmQ fa fb q nm n k) (he : e < n) (hr : r < n) (hl : ld fa fb k e = ld fa fb k r) {par : Nat → Int × Int}
    (hpar : ∀ v, v < n → ld fa fb k v = ld fa fb k r → par (nm v) = hdw nm (-1, -1) (fw fa fb q k v r)) (hv : v < n) (hvr : ld fa fb k v = ld fa fb k r) :
    rvU nm par (nm e) nx (fw fa fb q k e r) (nm v) = hdw nm nx (fw fa fb q k v e) := by
  rw [rvU_prv]
  by_cases hc : nm v ∈ nm e :: nmL nm (fw fa fb q k e r)
  · have h0 : hdw nm nx (fw fa fb q k e e) = nx := by rw [fw_self]; rfl
    have := prv_on (nx := nx) hV hN he hr hl rfl he hl (by rw [pa_self]; rfl) v hv hvr hc
    rw [h0] at this
    rw [this]
    rfl
  · rw [prv_none.mpr hc, hpar v hv hvr]
    show hdw nm (-1, -1) (fw fa fb q k v r) = _
    have hve : ld fa fb k v = ld fa fb k e := hvr.trans hl.symm
    cases hp : fw fa fb q k v r with
    | nil =>
      exfalso
      apply hc
      rw [(hN v r hv hr).mpr ⟨hvr, hp⟩]
      exact nm_end hV hN rfl he hr hl
    | cons s M =>
      obtain ⟨t, y⟩ := s
      obtain ⟨z, g1, g2, g3, g4, g5, g6, g7, g8, g9, g10⟩ := fw_hd hvr hp
      have hze : ld fa fb k z = ld fa fb k e := g1.symm.trans hve
      have hzn := (isE_lt hV g6 g8).1
      rcases pa_step (v := e) (g9.trans hl.symm) g6 g7 g8 with h | h
      · have : fw fa fb q k v e = (t, y) :: fw fa fb q k y e := by
          rw [fw_same g1 g2 hze]
          unfold fw
          rw [h, List.filter_cons, if_pos g5]
        rw [this]
        rfl
      · exfalso
        apply hc
        have hcat := pa_cat hze (g1.symm.trans hvr) h g3
        rw [(hN v z hv hzn).mpr ⟨g1, g2⟩]
        exact nm_on hV hN he hzn hze.symm hcat
/-- other lands stay -/
theorem turn_far (hV : Vd fa fb n k) (hN : NmQ fa fb q nm n k) (he : e < n) (hl : ld fa fb k e = ld fa fb k r) {par : Nat → Int × Int} (hv : v < n) (hvr : ¬ ld fa fb k v = ld fa fb k r) :
    rvU nm par (nm e) nx (fw fa fb q k e r) (nm v) = par (nm v) := by
  rw [rvU_prv, prv_none.mpr]
  · rfl
  · intro hc
    rcases List.mem_cons.mp hc with h | h
    · exact hvr (((hN v e hv he).mp h).1.trans hl)
    · obtain ⟨s, hs, hse⟩ := List.mem_map.mp h
      have hm := (fw_mem.mp hs).1
      obtain ⟨A, B, hAB⟩ := List.append_of_mem hm
      have hAB2 : pa fa fb k e r = A ++ (s.1, s.2) :: B := hAB
      obtain ⟨w, w1, w2, w3, w4⟩ := pa_cut hl hAB2
      have hd := pa_hd w4 w2.symm
      have hsn := (isE_lt hV hd.1 hd.2.2.1).2
      have := ((hN v s.2 hv hsn).mp hse.symm).1
      exact hvr (this.trans hd.2.2.2.2)
/-- what comes behind the land's old first steps: the way over the new link -/
theorem pa_over (hT : TL fa fb k) (hE : isE fa fb k e o) (hv : ld fa fb k v = ld fa fb k e) (hr : ld fa fb k r = ld fa fb k o) : pa fa fb (k + 1) v r = pa fa fb k v e ++ (k, o) :: pa fa fb k o r := by
  rcases hE with ⟨h1, h2⟩ | ⟨h1, h2⟩
  · subst h1 h2
    rw [pa, if_neg hT, if_pos ⟨hv, hr⟩]
  · subst h1 h2
    rw [pa, if_neg hT, if_neg (fun z => hT (z.1.symm.trans hv)), if_pos ⟨hv, hr⟩]
theorem fw_over {q2 : Nat → Bool} (hT : TL fa fb k) (hE : isE fa fb k e o) (hv : ld fa fb k v = ld fa fb k e) (hr : ld fa fb k r = ld fa fb k o) (hq : ∀ t, t < k → q2 t = q t) (hk : q2 k = true) :
    fw fa fb q2 (k + 1) v r = fw fa fb q k v e ++ (k, o) :: fw fa fb q k o r := by
  have cg : ∀ a b, (pa fa fb k a b).filter (fun s => q2 s.1) = (pa fa fb k a b).filter (fun s => q s.1) := fun a b => List.filter_congr (fun s hs => hq _ (pa_red.2 _ (List.mem_map_of_mem hs)))
  unfold fw
  rw [pa_over hT hE hv hr, List.filter_append, List.filter_cons, if_pos hk, cg, cg]
theorem fw_later {q2 : Nat → Bool} (hl : ld fa fb k u = ld fa fb k v) (hq : ∀ t, t < k → q2 t = q t) : fw fa fb q2 (k + 1) u v = fw fa fb q k u v := by
  unfold fw
  rw [pa_later hl (by omega)]
  exact List.filter_congr (fun s hs => hq _ (pa_red.2 _ (List.mem_map_of_mem hs)))
end W11
