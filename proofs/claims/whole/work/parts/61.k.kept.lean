/-! REFERENCE 20: all links of the part take the name kept -/
def KeptQ (k : Nat) (P : Nat → Nat) (N : Nat → Nat) (B l : Nat) : Nat := if P l = P k then B else N l
section R20
variable {k j B M : Nat} {x : MdS} {N P : Nat → Nat} {na en it mx : Nat → Int32}
theorem names_kept (hk : k < 64) (hB' : B < 64) (hN : ∀ l, l < k + 1 → (na l).toInt = (N l : Int)) (hPo : ∀ l, l < k + 1 → (Md_partOf x l).toInt = (P l : Int)) (hM : (mx B).toInt = (M : Int)) {v1 v2 : Int32} (h1 : v1.toInt = (k : Int)) (h2 : v2.toInt = (B : Int)) :
    Ok (iter (fun p : MdS × Int32 => Md_m_namesPart_s193 v1 v2 p.1 p.2) FU (N4 x na en it mx, 0)) (fun y => ∃ na' mx', y = N4 x na' en it mx' ∧ (∀ l, l < k + 1 → (na' l).toInt = (KeptQ k P N B l : Int)) ∧ (∀ l, k + 1 ≤ l → na' l = na l) ∧ (mx' B).toInt = ((max M (cnt (fun l => KeptQ k P N B l = B) (k + 1)) : Nat) : Int) ∧ ∀ b, b ≠ B → mx' b = mx b) := by
  refine Ok_for (k + 1) (fun j y => ∃ na', y = N4 x na' en it mx ∧ (∀ l, l < k + 1 → (na' l).toInt = ((if l < j then KeptQ k P N B l else N l : Nat) : Int)) ∧ ∀ l, k + 1 ≤ l → na' l = na l) (by omega) i32_0 ⟨na, rfl, fun l hl => by rw [if_neg (Nat.not_lt_zero l)]; exact hN l hl, fun l _ => rfl⟩ ?_ ?_
  · intro j y i hj hi ⟨na', hy, hg, hfar⟩
    subst hy
    dsimp only [Md_m_namesPart_s193]
    have hj64 : j < 64 := by omega
    have e1 := hPo j hj
    have e2 := hPo k (by omega)
    rw [N4_po, N4_na]
    refine Ok_ite (fun q => by rw [i32_lt] at q; omega) (fun _ => Ok_rdb hi hj64 (Ok_rdb h1 hk (Ok_ite (fun q => ?_) (fun q => ?_))))
    · rw [i32_eq, e1, e2] at q
      refine Ok_wrb hi hj64 ?_
      rw [N4_1]
      refine Ok_some ⟨nx_s hi (by omega), _, rfl, fun l hl => ?_, fun l hl => ?_⟩
      · by_cases e : l = j
        · rw [e, vu_s, h2, if_pos (Nat.lt_succ_self j)]
          unfold KeptQ
          rw [if_pos (Int.natCast_inj.mp q)]
        · rw [vu_n e, hg l hl]
          by_cases q2 : l < j
          · rw [if_pos q2, if_pos (by omega)]
          · rw [if_neg q2, if_neg (by omega)]
      · rw [vu_n (by omega)]; exact hfar l hl
    · rw [i32_eq, e1, e2] at q
      refine Ok_some ⟨nx_s hi (by omega), na', rfl, fun l hl => ?_, hfar⟩
      rw [hg l hl]
      by_cases e : l = j
      · rw [e, if_neg (Nat.lt_irrefl j), if_pos (Nat.lt_succ_self j)]
        unfold KeptQ
        rw [if_neg (fun z => q (by rw [z]))]
      · by_cases q2 : l < j
        · rw [if_pos q2, if_pos (by omega)]
        · rw [if_neg q2, if_neg (by omega)]
  · intro y i hi ⟨na', hy, hg, hfar⟩
    subst hy
    dsimp only [Md_m_namesPart_s193]
    refine Ok_ite (fun _ => Ok_omap ?_) (fun q => by rw [i32_lt] at q; omega)
    have hg' : ∀ l, l < k + 1 → (na' l).toInt = (KeptQ k P N B l : Int) := fun l hl => by rw [hg l hl, if_pos hl]
    rw [N4_mx]
    refine Ok_rdb h2 hB' (Ok_then (linksNamed_ok (x := N4 x na' en it mx) (N := KeptQ k P N B) (by omega) (by rw [N4_na]; exact hg') h2 (nx_s h1 (by omega))) (fun g hc => Ok_wrb h2 hB' ?_))
    rw [N4_3]
    refine Ok_some ⟨na', _, rfl, hg', hfar, ?_, fun b hb => vu_n hb⟩
    rw [vu_s]
    generalize cnt (fun l => KeptQ k P N B l = B) (k + 1) = c at hc
    by_cases q : mx B < g
    · rw [if_pos q, hc]; rw [i32_lt, hM, hc] at q; omega
    · rw [if_neg q, hM]; rw [i32_lt, hM, hc] at q; omega
end R20
