/-! code of an instruction, by its number -/
theorem zx_c0 {o : Nat} {a cv cx cy : Int32} {lw : Nat} (h : zx_co o a lw cv cx cy) (w : o = 0) : cv = 24 ∧ cx = nI lw ∧ cy = a := by
  subst w; unfold zx_co at h; simpa using h
theorem zx_c1 {o : Nat} {a cv cx cy : Int32} {lw : Nat} (h : zx_co o a lw cv cx cy) (w : o = 1) : cv = 24 ∧ cx = nI lw ∧ cy = 0 := by
  subst w; unfold zx_co at h; simpa using h
theorem zx_c2 {o : Nat} {a cv cx cy : Int32} {lw : Nat} (h : zx_co o a lw cv cx cy) (w : o = 2) : cv = 25 ∧ cx = nI lw ∧ cy = a := by
  subst w; unfold zx_co at h; simpa using h
theorem zx_c3 {o : Nat} {a cv cx cy : Int32} {lw : Nat} (h : zx_co o a lw cv cx cy) (w : o = 3) : cv = 25 ∧ cx = a ∧ cy = nI lw := by
  subst w; unfold zx_co at h; simpa using h
theorem zx_c20 {o : Nat} {a cv cx cy : Int32} {lw : Nat} (h : zx_co o a lw cv cx cy) (w : o = 20) : cv = 25 ∧ cx = nI (lw + 1) ∧ cy = nI lw := by
  subst w; unfold zx_co at h; simpa using h
theorem zx_c21 {o : Nat} {a cv cx cy : Int32} {lw : Nat} (h : zx_co o a lw cv cx cy) (w : o = 21) : cv = 26 ∧ cx = nI lw ∧ cy = 0 := by
  subst w; unfold zx_co at h; simpa using h
theorem zx_c9 {o : Nat} {a cv cx cy : Int32} {lw : Nat} (h : zx_co o a lw cv cx cy) (w : o = 9 ∨ o = 10) : cv = 27 ∧ cx = nI lw ∧ cy = a := by
  rcases w with rfl | rfl <;> unfold zx_co at h <;> simpa using h
theorem zx_c16 {o : Nat} {a cv cx cy : Int32} {lw : Nat} (h : zx_co o a lw cv cx cy) (w : o = 16) : (cv = 16 ∨ cv = 28) ∧ cx = nI lw ∧ cy = a := by
  subst w; unfold zx_co at h; simpa using h
theorem zx_ce {o : Nat} {a cv cx cy : Int32} {lw : Nat} (h : zx_co o a lw cv cx cy) (w : o = 4 ∨ o = 5 ∨ o = 6 ∨ o = 7 ∨ o = 8 ∨ o = 11 ∨ o = 12 ∨ o = 13 ∨ o = 14 ∨ o = 15 ∨ o = 17 ∨ o = 18 ∨ o = 19 ∨ o = 22 ∨ o = 23) : cv = nI o ∧ cx = nI lw ∧ cy = a := by
  rcases w with rfl | rfl | rfl | rfl | rfl | rfl | rfl | rfl | rfl | rfl | rfl | rfl | rfl | rfl | rfl <;> unfold zx_co at h <;> simpa using h
