/-! ===== what lies behind the first free address is empty ===== -/
/-- behind the first free address all is empty -/
def Zh (h : MH) : Prop := ∀ a k, hN h ≤ a → hI h a k = 0 ∧ hL h a k = 0 ∧ hR h a k = none
/-- the walk may take it as given -/
theorem q_zero {M : MI} {d b t pc : Nat} {ls : List (Option Value)} {st : List Value} {h : MH} {Q : Option Value → MH → Prop} (kk : Zh h → Wm M d b t pc ls st h Q) : Wm M d b t pc ls st h Q :=
  fun G p l e R s m args below meth c Z H locs lsR k n C hR hH hS hl he => kk hH.2.2.2.2 G p l e R s m args below meth c Z H locs lsR k n C hR hH hS hl he
