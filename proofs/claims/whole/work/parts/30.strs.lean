/-! ===== classes' names; String constants' methods ===== -/
theorem pnX0 : plainName RX0 = true := by decide +kernel
theorem pnX1 : plainName RX1 = true := by decide +kernel
theorem pnX2 : plainName RX2 = true := by decide +kernel
theorem pnX3 : plainName RX3 = true := by decide +kernel
theorem pnX4 : plainName RX4 = true := by decide +kernel
theorem pnX5 : plainName RX5 = true := by decide +kernel
theorem pnX6 : plainName RX6 = true := by decide +kernel
theorem pnX7 : plainName RX7 = true := by decide +kernel
theorem pnX8 : plainName RX8 = true := by decide +kernel
theorem pnX9 : plainName RX9 = true := by decide +kernel
theorem pnX10 : plainName RX10 = true := by decide +kernel
theorem pnJ6 : plainName RJ6 = true := by decide +kernel
theorem pnJ13 : plainName RJ13 = true := by decide +kernel
theorem pnJ0 : plainName RJ0 = true := by decide +kernel
theorem pnJ1 : plainName RJ1 = true := by decide +kernel
theorem pnJ3 : plainName RJ3 = true := by decide +kernel
def strCh (x j : Nat) : Int32 := (strByt.getD x []).getD j 0
def strIxF (c : Int32) : List Int32 → Nat → Int32
  | [], _ => -1
  | b :: l, k => if b = c then nI k else strIxF c l (k + 1)
def strIx (x : Nat) (c : Int32) : Int32 := strIxF c (strByt.getD x []) 0
theorem cS_length {h : MH} {x : Nat} (hx : x < 33) : Cm MJ0_length_8abf5 3 0 0 [.ref x] h (pI fun r h2 => r = nI (strLen.getD x 0) ∧ h2 = h) := sorry
theorem cS_charAt {h : MH} {x : Nat} {j : Int32} (hx : x < 33) (hj : vp_in j (strLen.getD x 0)) : Cm MJ0_charAt_5068e 3 0 0 [.ref x, .int j] h (pI fun r h2 => r = strCh x j.toNatClampNeg ∧ h2 = h) := sorry
theorem cS_indexOf {h : MH} {x : Nat} {c : Int32} (hx : x < 33) : Cm MJ0_indexOf_0f7a4 3 0 0 [.ref x, .int c] h (pI fun r h2 => r = strIx x c ∧ h2 = h) := sorry
section QL
variable {M : MI} {d b t pc : Nat} {ls : List (Option Value)} {st : List Value} {h : MH} {Q : Option Value → MH → Prop}
theorem q_mmaxl {i : Nat} {x y : Int64} (hlk : Cond.methodLink (mN M).cls i Lib.MathLoose.max_long.x ∈ GW) (hst : Cond.static Lib.MathLoose.max_long.x ∈ GW) (hin : Cond.initialized "java/lang/Math" ∈ GW) (hco : Cond.code Lib.MathLoose.max_long.x Lib.MathLoose.max_long.code 4 (some .long) ∈ GW) (hd1 : 1 ≤ d) (hsum : (st.map fun v => v.category).sum ≤ 8) (hd : decode (mB M) pc = .ok (.invokestatic i, 3)) (kk : Wm M d b t (pc + 3) ls (.long (if y < x then x else y) :: st) h Q) : Wm M d b t pc ls (.long y :: .long x :: st) h Q :=
  q_readS (fun G p l e R s m args below meth cd Z H locs lsR kc n C hH hSS hR hml k2 => va_mmax_long C.1 C.2.1 hml C.2.2.2.1 (C.2.2.2.2.1 _ hlk) (C.2.2.2.2.1 _ hst) (C.2.2.2.2.1 _ hin) (C.2.2.2.2.1 _ hco) (by omega) (by rw [sm_vm]; omega) hR.2.2.1 hR.2.2.2 hd k2) kk
theorem q_mminl {i : Nat} {x y : Int64} (hlk : Cond.methodLink (mN M).cls i Lib.MathLoose.min_long.x ∈ GW) (hst : Cond.static Lib.MathLoose.min_long.x ∈ GW) (hin : Cond.initialized "java/lang/Math" ∈ GW) (hco : Cond.code Lib.MathLoose.min_long.x Lib.MathLoose.min_long.code 4 (some .long) ∈ GW) (hd1 : 1 ≤ d) (hsum : (st.map fun v => v.category).sum ≤ 8) (hd : decode (mB M) pc = .ok (.invokestatic i, 3)) (kk : Wm M d b t (pc + 3) ls (.long (if y < x then y else x) :: st) h Q) : Wm M d b t pc ls (.long y :: .long x :: st) h Q :=
  q_readS (fun G p l e R s m args below meth cd Z H locs lsR kc n C hH hSS hR hml k2 => va_mmin_long C.1 C.2.1 hml C.2.2.2.1 (C.2.2.2.2.1 _ hlk) (C.2.2.2.2.1 _ hst) (C.2.2.2.2.1 _ hin) (C.2.2.2.2.1 _ hco) (by omega) (by rw [sm_vm]; omega) hR.2.2.1 hR.2.2.2 hd k2) kk
end QL
theorem sMmaxl : Cond.static Lib.MathLoose.max_long.x ∈ GW := sJ9_max_f86c9
theorem sMminl : Cond.static Lib.MathLoose.min_long.x ∈ GW := sJ9_min_f86c9
theorem cMmaxl : Cond.code Lib.MathLoose.max_long.x Lib.MathLoose.max_long.code 4 (some .long) ∈ GW := kJ9_max_f86c9.1
theorem cMminl : Cond.code Lib.MathLoose.min_long.x Lib.MathLoose.min_long.code 4 (some .long) ∈ GW := kJ9_min_f86c9.1
