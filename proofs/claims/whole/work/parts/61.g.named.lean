/-! REFERENCE 16: links by the name of their part -/
section R16
variable {fa fb : Nat → Nat} {n k m u v b c t y r a p : Nat} {x z : MdS}
theorem linksNamed_ok {N : Nat → Nat} (hk : k ≤ 64) (hN : ∀ l, l < k → (Md_partName x l).toInt = (N l : Int)) {w1 w2 : Int32} (h1 : w1.toInt = (b : Int)) (h2 : w2.toInt = (k : Int)) : Ok (Md_m_linksNamed x w1 w2) (fun r => r.toInt = (cnt (fun l => N l = b) k : Int)) := by
  unfold Md_m_linksNamed
  refine Ok_cnt k (fun l => N l = b) (by omega) i32_0 i32_0 ?_ ?_
  · intro j c i hj hi
    dsimp only [Md_m_linksNamed_s5]
    have hNj := hN j hj
    refine Ok_ite (fun q => by rw [i32_le] at q; omega) (fun _ => Ok_rdb hi (by omega) (Ok_ite (fun q => ?_) (fun q => ?_)))
    · rw [i32_eq, hNj, h1] at q
      exact Ok_some (Or.inl ⟨Int.natCast_inj.mp q, rfl⟩)
    · rw [i32_eq, hNj, h1] at q
      exact Ok_some (Or.inr ⟨fun z => q (Int.natCast_inj.mpr z), rfl⟩)
  · intro c i hi hc
    dsimp only [Md_m_linksNamed_s5]
    exact Ok_ite (fun _ => Ok_omap (Ok_some hc)) (fun q => by rw [i32_le] at q; omega)
end R16
