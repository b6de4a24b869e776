/-! THEORY 6: the history: names of blocks, lands, parts, what closed a link, the roots -/
def N_0 : NSt := (fun v => v, fun _ => -1, fun _ => -1, fun _ => 1)
def sB (fa fb : Nat → Nat) (s : NSt) (k : Nat) : Nat → Bool := fun b => (nds (fa k) (pa fa fb k (fa k) (fb k))).any (fun y => N_of s y == b)
def sL (fa fb : Nat → Nat) (s : NSt) (k : Nat) : Nat → Bool := fun b => b == N_of s (fa k) || b == N_of s (fb k)
def sP (fa fb : Nat → Nat) (s : NSt) (k : Nat) : Nat → Bool := fun b => b == k || (lks (pa fa fb k (fa k) (fb k))).any (fun t => N_of s t == b)
def hB (n : Nat) (fa fb : Nat → Nat) : Nat → NSt
  | 0 => N_0
  | k + 1 => if ld fa fb k (fa k) = ld fa fb k (fb k) then jn n (hB n fa fb k) (sB fa fb (hB n fa fb k) k) k else hB n fa fb k
def hL (n : Nat) (fa fb : Nat → Nat) : Nat → NSt
  | 0 => N_0
  | k + 1 => if ld fa fb k (fa k) = ld fa fb k (fb k) then hL n fa fb k else jn n (hL n fa fb k) (sL fa fb (hL n fa fb k) k) k
def hP (fa fb : Nat → Nat) : Nat → NSt
  | 0 => N_0
  | k + 1 => if ld fa fb k (fa k) = ld fa fb k (fb k) then jn (k + 1) (hP fa fb k) (sP fa fb (hP fa fb k) k) k else hP fa fb k
def hC (fa fb : Nat → Nat) : Nat → Nat → Int
  | 0, _ => -1
  | k + 1, t => if ld fa fb k (fa k) = ld fa fb k (fb k) then (if t = k then (k : Int) else if (lks (pa fa fb k (fa k) (fb k))).contains t = true ∧ hC fa fb k t = -1 then (k : Int) else hC fa fb k t) else hC fa fb k t
/-- the root of a node's land: when two lands become one, that of the one whose name is kept -/
def hR (n : Nat) (fa fb : Nat → Nat) : Nat → Nat → Nat
  | 0, v => v
  | k + 1, v => if ¬ ld fa fb k (fa k) = ld fa fb k (fb k) ∧ (ld fa fb k v = ld fa fb k (fa k) ∨ ld fa fb k v = ld fa fb k (fb k)) then (if N_of (hL n fa fb (k + 1)) (fa k) = N_of (hL n fa fb k) (fa k) then hR n fa fb k (fa k) else hR n fa fb k (fb k)) else hR n fa fb k v
section W6
variable {fa fb : Nat → Nat} {n k u v t : Nat}
theorem NI_0 (N l : Nat) : NI N N_0 l := by
  refine ⟨fun v hv => ⟨hv, rfl⟩, fun b _ => ⟨fun _ => rfl, fun _ => rfl⟩, fun b hb _ => ⟨?_, rfl⟩, fun b _ h => absurd rfl h⟩
  show 1 = cntN N (fun v => v) b
  have low : ∀ m, m ≤ b → cntN m (fun v => v) b = 0 := by
    intro m
    induction m with
    | zero => intro _; rfl
    | succ m ih => intro h; unfold cntN; dsimp only; rw [ih (by omega), if_neg (by omega)]
  have hi : ∀ m, b < m → cntN m (fun v => v) b = 1 := by
    intro m
    induction m with
    | zero => intro h; omega
    | succ m ih =>
      intro h
      unfold cntN
      by_cases c : m = b
      · rw [if_pos c, low m (by omega)]
      · rw [if_neg c, ih (by omega)]
  exact (hi N hb).symm
theorem NI_mono {N l l2 : Nat} {s : NSt} (h : NI N s l) (hl : l ≤ l2) : NI N s l2 := by
  refine ⟨h.1, h.2.1, h.2.2.1, fun b hb hd => ?_⟩
  obtain ⟨e, i, g1, g2, g3⟩ := h.2.2.2 b hb hd
  exact ⟨e, i, g1, by omega, g3⟩
theorem jn_some {N l : Nat} {s : NSt} {S : Nat → Bool} {b : Nat} (hb : b < N) (hS : S b = true) : ∃ K, K < N ∧ S K = true ∧ kpr (N_mx s) S N = some K ∧ jn N s S l = jnK N s S l K := by
  cases hk : kpr (N_mx s) S N with
  | none => exact absurd hS (kpr_none hk hb)
  | some K =>
    obtain ⟨h1, h2⟩ := kpr_mem hk
    refine ⟨K, h1, h2, rfl, ?_⟩
    unfold jn
    rw [hk]
theorem NI_L (hv : ∀ l, l < k → fa l < n ∧ fb l < n) : NI n (hL n fa fb k) k := by
  induction k with
  | zero => exact NI_0 n 0
  | succ k ih =>
    have h := ih (fun l hl => hv l (by omega))
    unfold hL
    by_cases c : ld fa fb k (fa k) = ld fa fb k (fb k)
    · rw [if_pos c]; exact NI_mono h (by omega)
    · rw [if_neg c]
      obtain ⟨ha, hb⟩ := hv k (by omega)
      have hS : sL fa fb (hL n fa fb k) k (N_of (hL n fa fb k) (fa k)) = true := by simp [sL]
      obtain ⟨K, h1, h2, -, h4⟩ := jn_some (s := hL n fa fb k) (l := k) (h.1 (fa k) ha).1 hS
      rw [h4]
      refine NI_jnK h h1 h2 (fun b hb2 hSb => ?_)
      simp only [sL, Bool.or_eq_true, beq_iff_eq] at hSb
      rcases hSb with rfl | rfl
      · exact (h.1 _ ha).2
      · exact (h.1 _ hb).2
theorem land_same (hv : ∀ l, l < k → fa l < n ∧ fb l < n) (hu : u < n) (hw : v < n) : N_of (hL n fa fb k) u = N_of (hL n fa fb k) v ↔ ld fa fb k u = ld fa fb k v := by
  induction k generalizing u v with
  | zero => exact Iff.rfl
  | succ k ih =>
    have hv' : ∀ l, l < k → fa l < n ∧ fb l < n := fun l hl => hv l (by omega)
    have ih' := fun {u v : Nat} (hu : u < n) (hw : v < n) => ih (u := u) (v := v) hv' hu hw
    obtain ⟨ha, hb⟩ := hv k (by omega)
    have h := NI_L (n := n) (k := k) hv'
    unfold hL
    simp only [ld]
    by_cases c : ld fa fb k (fa k) = ld fa fb k (fb k)
    · rw [if_pos c, ih' hu hw, c]
      by_cases c1 : ld fa fb k u = ld fa fb k (fb k)
      · by_cases c2 : ld fa fb k v = ld fa fb k (fb k)
        · rw [if_pos c1, if_pos c2]; exact ⟨fun _ => rfl, fun _ => c1.trans c2.symm⟩
        · rw [if_pos c1, if_neg c2, c1]
      · by_cases c2 : ld fa fb k v = ld fa fb k (fb k)
        · rw [if_neg c1, if_pos c2, c2]
        · rw [if_neg c1, if_neg c2]
    · rw [if_neg c]
      have hS : sL fa fb (hL n fa fb k) k (N_of (hL n fa fb k) (fa k)) = true := by simp [sL]
      obtain ⟨K, h1, h2, -, h4⟩ := jn_some (s := hL n fa fb k) (l := k) (h.1 (fa k) ha).1 hS
      rw [h4, jnK_same h2]
      have mem : ∀ {w : Nat}, w < n → (sL fa fb (hL n fa fb k) k (N_of (hL n fa fb k) w) = true ↔ ld fa fb k w = ld fa fb k (fa k) ∨ ld fa fb k w = ld fa fb k (fb k)) := by
        intro w hw
        simp only [sL, Bool.or_eq_true, beq_iff_eq]
        rw [ih' hw ha, ih' hw hb]
      rw [mem hu, mem hw, ih' hu hw]
      by_cases c1 : ld fa fb k u = ld fa fb k (fb k)
      · by_cases c2 : ld fa fb k v = ld fa fb k (fb k)
        · rw [if_pos c1, if_pos c2]; exact ⟨fun _ => rfl, fun _ => Or.inl (c1.trans c2.symm)⟩
        · rw [if_pos c1, if_neg c2]
          constructor
          · intro q
            rcases q with q | q
            · exact absurd (q.symm.trans c1) c2
            · rcases q.2 with q | q
              · exact q.symm
              · exact absurd q c2
          · intro q; exact Or.inr ⟨Or.inr c1, Or.inl q.symm⟩
      · by_cases c2 : ld fa fb k v = ld fa fb k (fb k)
        · rw [if_neg c1, if_pos c2]
          constructor
          · intro q
            rcases q with q | q
            · exact absurd (q.trans c2) c1
            · rcases q.1 with q | q
              · exact q
              · exact absurd q c1
          · intro q; exact Or.inr ⟨Or.inl q, Or.inr c2⟩
        · rw [if_neg c1, if_neg c2]
          constructor
          · intro q
            rcases q with q | ⟨q1, q2⟩
            · exact q
            · rcases q1 with q1 | q1
              · rcases q2 with q2 | q2
                · exact q1.trans q2.symm
                · exact absurd q2 c2
              · exact absurd q1 c1
          · intro q; exact Or.inl q
/-- what closed a link -/
theorem hC_brg (ht : t < k) : hC fa fb k t = -1 ↔ brg fa fb k t := by
  induction k with
  | zero => omega
  | succ k ih =>
    unfold hC
    by_cases c : ld fa fb k (fa k) = ld fa fb k (fb k)
    · rw [if_pos c]
      by_cases e : t = k
      · subst e
        rw [if_pos rfl]
        constructor
        · intro q; omega
        · intro q; exact absurd c q.2.1
      · rw [if_neg e]
        have ih' := ih (by omega)
        by_cases d : (lks (pa fa fb k (fa k) (fb k))).contains t = true ∧ hC fa fb k t = -1
        · rw [if_pos d]
          constructor
          · intro q; omega
          · intro q; exact absurd ⟨k, by omega, fun z => z c, by simpa using d.1⟩ q.2.2
        · rw [if_neg d, ih']
          constructor
          · intro q
            refine ⟨by omega, q.2.1, fun ⟨f, h1, h2, h3⟩ => ?_⟩
            by_cases ef : f = k
            · subst ef; exact d ⟨by simpa using h3, ih'.mpr q⟩
            · exact q.2.2 ⟨f, by omega, h2, h3⟩
          · intro q
            exact ⟨by omega, q.2.1, fun ⟨f, h1, h2, h3⟩ => q.2.2 ⟨f, by omega, h2, h3⟩⟩
    · rw [if_neg c]
      by_cases e : t = k
      · subst e
        have h0 : ∀ j, j ≤ t → hC fa fb j t = -1 := by
          intro j
          induction j with
          | zero => intro _; rfl
          | succ j ihj =>
            intro hj
            unfold hC
            rw [ihj (by omega)]
            by_cases c2 : ld fa fb j (fa j) = ld fa fb j (fb j)
            · rw [if_pos c2, if_neg (by omega), if_neg]
              intro ⟨q, _⟩
              have := (pa_red (fa := fa) (fb := fb) (k := j) (u := fa j) (v := fb j)).2 t (by simpa using q)
              omega
            · rw [if_neg c2]
        rw [h0 t (Nat.le_refl _)]
        refine ⟨fun _ => ⟨by omega, c, fun ⟨f, h1, h2, h3⟩ => ?_⟩, fun _ => rfl⟩
        have := (pa_red (fa := fa) (fb := fb) (k := f) (u := fa f) (v := fb f)).2 t h3
        have : f = t ∨ f < t := by omega
        rcases this with q | q
        · subst q; exact h2 c
        · omega
      · rw [ih (by omega)]
        constructor
        · intro q
          refine ⟨by omega, q.2.1, fun ⟨f, h1, h2, h3⟩ => ?_⟩
          by_cases ef : f = k
          · subst ef; exact h2 c
          · exact q.2.2 ⟨f, by omega, h2, h3⟩
        · intro q
          exact ⟨by omega, q.2.1, fun ⟨f, h1, h2, h3⟩ => q.2.2 ⟨f, by omega, h2, h3⟩⟩
end W6
