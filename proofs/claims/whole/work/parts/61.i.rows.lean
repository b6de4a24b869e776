/-! REFERENCE 18: the names of parts as four rows -/
def N4 (x : MdS) (na en it mx : Nat → Int32) : MdS := Md_set_partMost (Md_set_partInto (Md_set_partEnded (Md_set_partName x na) en) it) mx
section R18
variable {x : MdS} {na en it mx f g : Nat → Int32}
theorem N4_1 : Md_set_partName (N4 x na en it mx) f = N4 x f en it mx := by
  obtain ⟨a1, a2, a3, a4, a5, a6, a7, a8, a9, a10, a11, a12, a13, a14, a15, a16, a17, a18, a19, a20, a21, b, c, d, e, r⟩ := x
  have h0 : N4 (a1, a2, a3, a4, a5, a6, a7, a8, a9, a10, a11, a12, a13, a14, a15, a16, a17, a18, a19, a20, a21, b, c, d, e, r) na en it mx = (a1, a2, a3, a4, a5, a6, a7, a8, a9, a10, a11, a12, a13, a14, a15, a16, a17, a18, a19, a20, a21, na, en, it, mx, r) := rfl
  have h1 : N4 (a1, a2, a3, a4, a5, a6, a7, a8, a9, a10, a11, a12, a13, a14, a15, a16, a17, a18, a19, a20, a21, b, c, d, e, r) f en it mx = (a1, a2, a3, a4, a5, a6, a7, a8, a9, a10, a11, a12, a13, a14, a15, a16, a17, a18, a19, a20, a21, f, en, it, mx, r) := rfl
  rw [h0, h1]
  rfl
theorem N4_2 : Md_set_partInto (Md_set_partEnded (N4 x na en it mx) f) g = N4 x na f g mx := by
  obtain ⟨a1, a2, a3, a4, a5, a6, a7, a8, a9, a10, a11, a12, a13, a14, a15, a16, a17, a18, a19, a20, a21, b, c, d, e, r⟩ := x
  have h0 : N4 (a1, a2, a3, a4, a5, a6, a7, a8, a9, a10, a11, a12, a13, a14, a15, a16, a17, a18, a19, a20, a21, b, c, d, e, r) na en it mx = (a1, a2, a3, a4, a5, a6, a7, a8, a9, a10, a11, a12, a13, a14, a15, a16, a17, a18, a19, a20, a21, na, en, it, mx, r) := rfl
  have h1 : N4 (a1, a2, a3, a4, a5, a6, a7, a8, a9, a10, a11, a12, a13, a14, a15, a16, a17, a18, a19, a20, a21, b, c, d, e, r) na f g mx = (a1, a2, a3, a4, a5, a6, a7, a8, a9, a10, a11, a12, a13, a14, a15, a16, a17, a18, a19, a20, a21, na, f, g, mx, r) := rfl
  rw [h0, h1]
  have h2 : Md_set_partEnded (a1, a2, a3, a4, a5, a6, a7, a8, a9, a10, a11, a12, a13, a14, a15, a16, a17, a18, a19, a20, a21, na, en, it, mx, r) f = (a1, a2, a3, a4, a5, a6, a7, a8, a9, a10, a11, a12, a13, a14, a15, a16, a17, a18, a19, a20, a21, na, f, it, mx, r) := rfl
  rw [h2]
  rfl
theorem N4_3 : Md_set_partMost (N4 x na en it mx) f = N4 x na en it f := by
  obtain ⟨a1, a2, a3, a4, a5, a6, a7, a8, a9, a10, a11, a12, a13, a14, a15, a16, a17, a18, a19, a20, a21, b, c, d, e, r⟩ := x
  have h0 : N4 (a1, a2, a3, a4, a5, a6, a7, a8, a9, a10, a11, a12, a13, a14, a15, a16, a17, a18, a19, a20, a21, b, c, d, e, r) na en it mx = (a1, a2, a3, a4, a5, a6, a7, a8, a9, a10, a11, a12, a13, a14, a15, a16, a17, a18, a19, a20, a21, na, en, it, mx, r) := rfl
  have h1 : N4 (a1, a2, a3, a4, a5, a6, a7, a8, a9, a10, a11, a12, a13, a14, a15, a16, a17, a18, a19, a20, a21, b, c, d, e, r) na en it f = (a1, a2, a3, a4, a5, a6, a7, a8, a9, a10, a11, a12, a13, a14, a15, a16, a17, a18, a19, a20, a21, na, en, it, f, r) := rfl
  rw [h0, h1]
  rfl
theorem N4_na : Md_partName (N4 x na en it mx) = na := rfl
theorem N4_en : Md_partEnded (N4 x na en it mx) = en := rfl
theorem N4_it : Md_partInto (N4 x na en it mx) = it := rfl
theorem N4_mx : Md_partMost (N4 x na en it mx) = mx := rfl
theorem N4_po : Md_partOf (N4 x na en it mx) = Md_partOf x := rfl
theorem N4_ena : Md_partName (Md_set_partEnded x f) = Md_partName x := rfl
theorem N4_eit : Md_partInto (Md_set_partEnded x f) = Md_partInto x := rfl
end R18
