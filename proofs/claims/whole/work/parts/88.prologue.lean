/-! THE LAW'S PROLOGUE: what the constructors make, each in a heap of its own -/
def i_r11 : Option xS := ivd (xfn iE_X11 (ylk il_X11) 2 500 [.ref 0] ([.inr (10, [.null, .null, .null, .int 0, .null, .null, .null, .null])], 0, 0))
def i_r12 : Option xS := ivd (xfn iE_X12 (ylk il_X12) 1 500 [.ref 0] ([.inr (11, [.null, .null, .null, .null, .int 0, .int 0, .int 0, .int 0, .null, .null, .int 0, .null, .null, .null, .null, .null, .null, .int 0])], 0, 0))
def i_h11 : xS := (i_r11).getD ([], 0, 0)
def i_h12 : xS := (i_r12).getD ([], 0, 0)
theorem i_getD {r : Option xS} (h : r.isSome = true) : r = some (r.getD ([], 0, 0)) := by
  cases r with
  | none => cases h
  | some x => rfl
theorem i_e11 : i_r11 = some i_h11 := i_getD (by decide +kernel)
theorem i_e12 : i_r12 = some i_h12 := i_getD (by decide +kernel)
theorem i_c11 : i_h11.2 = (77, 2029) ∧ i_h11.1.length = 78 := by decide +kernel
theorem i_c12 : i_h12.2 = (12, 2000) ∧ i_h12.1.length = 13 := by decide +kernel
