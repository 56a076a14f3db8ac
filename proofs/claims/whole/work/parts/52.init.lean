/-! ===== the constructor of the reference; the law up to its loop ===== -/
theorem u_plain_loop {Q : MH → Prop} {a m : Nat} (hm : 2337 ≤ m ∧ m < 100000) : ∀ (n i : Nat) (h : MH), i + n = 2337 → hS h a = (2, m) → Q (rI h a (filI (hI h a) i 2337 0)) → wX10_plain_2 Q (n + 1) a (nI i) h := by
  intro n
  induction n with
  | zero =>
    intro i h hi h1 hq
    have hi : i = 2337 := by omega
    subst hi
    rw [filI_end, rI_self] at hq
    unfold wX10_plain_2
    exact ⟨fun _ => hq, fun c => absurd (nI_le (by omega) (by omega)) c⟩
  | succ n ih =>
    intro i h hi h1 hq
    unfold wX10_plain_2
    refine ⟨fun c => absurd c (nI_ge (by omega) (by omega)), fun c => ⟨m, h1, vp_in_nI (by omega) (by omega), fun h' e => ?_⟩⟩
    rw [nI_clamp (by omega)] at e
    subst e
    rw [show nI i + nI 1 = nI (i + 1) from nI_add i 1]
    refine ih (i + 1) _ (by omega) h1 ?_
    rw [show (nI 0) = 0 from nI_0, rI_fil (by omega)]
    exact hq
theorem u_plain {Q : MH → Prop} {a m : Nat} {h : MH} (hm : 2337 ≤ m ∧ m < 100000) (h1 : hS h a = (2, m)) (hq : Q (rI h a (filI (hI h a) 0 2337 0))) : wX10_plain a h Q := ⟨2338, u_plain_loop hm 2337 0 h (by omega) h1 hq⟩
def gm0 : MH := al gg12 (1, 10)
def q0 : MH := gm0
theorem q0_N : hN q0 = 224 := (hN_al gg12 (1, 10)).trans (congrArg (· + 1) gg12_N)
theorem q0_S : hS q0 223 = (1, 10) := (hS_al gg12 (1, 10) 223).trans (if_pos gg12_N.symm)
def q1 : MH := al q0 (2, 7011)
theorem q1_N : hN q1 = 225 := (hN_al q0 (2, 7011)).trans (congrArg (· + 1) q0_N)
theorem q1_S : hS q1 223 = (1, 10) := kp_al (g := q0) (t := (2, 7011)) (by rw [q0_N]; omega) q0_S
theorem q1_A : hS q1 224 = (2, 7011) := (hS_al q0 (2, 7011) 224).trans (if_pos q0_N.symm)
theorem q1_F : hS q1 224 = (2, 7011) := q1_A
def q2 : MH := sR q1 223 1 (some 224)
theorem q2_N : hN q2 = 225 := (hN_sR q1 223 1 (some 224)).trans q1_N
theorem q2_S : hS q2 223 = (1, 10) := (hS_sR q1 223 1 (some 224) 223).trans q1_S
theorem q2_F : hS q2 224 = (2, 7011) := (hS_sR q1 223 1 (some 224) 224).trans q1_F
theorem q2_R : hR q2 223 1 = some 224 := (hR_sR q1 223 1 223 1 (some 224)).trans (if_pos ⟨rfl, rfl⟩)
def q3 : MH := al q2 (5, 2)
theorem q3_N : hN q3 = 226 := (hN_al q2 (5, 2)).trans (congrArg (· + 1) q2_N)
theorem q3_S : hS q3 223 = (1, 10) := kp_al (g := q2) (t := (5, 2)) (by rw [q2_N]; omega) q2_S
theorem q3_A : hS q3 225 = (5, 2) := (hS_al q2 (5, 2) 225).trans (if_pos q2_N.symm)
theorem q3_F : hS q3 224 = (2, 7011) := kp_al (g := q2) (t := (5, 2)) (by rw [q2_N]; omega) q2_F
theorem q3_R : hR q3 223 1 = some 224 := (hR_al q2 (5, 2) 223 1).trans q2_R
def q4 : MH := sR q3 223 2 (some 225)
theorem q4_N : hN q4 = 226 := (hN_sR q3 223 2 (some 225)).trans q3_N
theorem q4_S : hS q4 223 = (1, 10) := (hS_sR q3 223 2 (some 225) 223).trans q3_S
theorem q4_F : hS q4 224 = (2, 7011) := (hS_sR q3 223 2 (some 225) 224).trans q3_F
theorem q4_R : hR q4 223 1 = some 224 := (hR_sR q3 223 2 223 1 (some 225)).trans ((if_neg (by omega)).trans q3_R)
def q5 : MH := al q4 (2, 900)
theorem q5_N : hN q5 = 227 := (hN_al q4 (2, 900)).trans (congrArg (· + 1) q4_N)
theorem q5_S : hS q5 223 = (1, 10) := kp_al (g := q4) (t := (2, 900)) (by rw [q4_N]; omega) q4_S
theorem q5_A : hS q5 226 = (2, 900) := (hS_al q4 (2, 900) 226).trans (if_pos q4_N.symm)
theorem q5_F : hS q5 224 = (2, 7011) := kp_al (g := q4) (t := (2, 900)) (by rw [q4_N]; omega) q4_F
theorem q5_R : hR q5 223 1 = some 224 := (hR_al q4 (2, 900) 223 1).trans q4_R
def q6 : MH := sR q5 223 3 (some 226)
theorem q6_N : hN q6 = 227 := (hN_sR q5 223 3 (some 226)).trans q5_N
theorem q6_S : hS q6 223 = (1, 10) := (hS_sR q5 223 3 (some 226) 223).trans q5_S
theorem q6_F : hS q6 224 = (2, 7011) := (hS_sR q5 223 3 (some 226) 224).trans q5_F
theorem q6_R : hR q6 223 1 = some 224 := (hR_sR q5 223 3 223 1 (some 226)).trans ((if_neg (by omega)).trans q5_R)
def q7 : MH := al q6 (2, 2337)
theorem q7_N : hN q7 = 228 := (hN_al q6 (2, 2337)).trans (congrArg (· + 1) q6_N)
theorem q7_S : hS q7 223 = (1, 10) := kp_al (g := q6) (t := (2, 2337)) (by rw [q6_N]; omega) q6_S
theorem q7_A : hS q7 227 = (2, 2337) := (hS_al q6 (2, 2337) 227).trans (if_pos q6_N.symm)
theorem q7_F : hS q7 224 = (2, 7011) := kp_al (g := q6) (t := (2, 2337)) (by rw [q6_N]; omega) q6_F
theorem q7_R : hR q7 223 1 = some 224 := (hR_al q6 (2, 2337) 223 1).trans q6_R
def q8 : MH := sR q7 223 4 (some 227)
theorem q8_N : hN q8 = 228 := (hN_sR q7 223 4 (some 227)).trans q7_N
theorem q8_S : hS q8 223 = (1, 10) := (hS_sR q7 223 4 (some 227) 223).trans q7_S
theorem q8_F : hS q8 224 = (2, 7011) := (hS_sR q7 223 4 (some 227) 224).trans q7_F
theorem q8_R : hR q8 223 1 = some 224 := (hR_sR q7 223 4 223 1 (some 227)).trans ((if_neg (by omega)).trans q7_R)
def q9 : MH := sI q8 223 14 ((-1 : Int32))
theorem q9_N : hN q9 = 228 := (hN_sI q8 223 14 ((-1 : Int32))).trans q8_N
theorem q9_S : hS q9 223 = (1, 10) := (hS_sI q8 223 14 ((-1 : Int32)) 223).trans q8_S
theorem q9_F : hS q9 224 = (2, 7011) := (hS_sI q8 223 14 ((-1 : Int32)) 224).trans q8_F
theorem q9_R : hR q9 223 1 = some 224 := (hR_sI q8 223 14 ((-1 : Int32)) 223 1).trans q8_R
def q10 : MH := al q9 (2, 900)
theorem q10_N : hN q10 = 229 := (hN_al q9 (2, 900)).trans (congrArg (· + 1) q9_N)
theorem q10_S : hS q10 223 = (1, 10) := kp_al (g := q9) (t := (2, 900)) (by rw [q9_N]; omega) q9_S
theorem q10_A : hS q10 228 = (2, 900) := (hS_al q9 (2, 900) 228).trans (if_pos q9_N.symm)
theorem q10_F : hS q10 224 = (2, 7011) := kp_al (g := q9) (t := (2, 900)) (by rw [q9_N]; omega) q9_F
theorem q10_R : hR q10 223 1 = some 224 := (hR_al q9 (2, 900) 223 1).trans q9_R
def q11 : MH := sR q10 223 16 (some 228)
theorem q11_N : hN q11 = 229 := (hN_sR q10 223 16 (some 228)).trans q10_N
theorem q11_S : hS q11 223 = (1, 10) := (hS_sR q10 223 16 (some 228) 223).trans q10_S
theorem q11_F : hS q11 224 = (2, 7011) := (hS_sR q10 223 16 (some 228) 224).trans q10_F
theorem q11_R : hR q11 223 1 = some 224 := (hR_sR q10 223 16 223 1 (some 228)).trans ((if_neg (by omega)).trans q10_R)
def q12 : MH := al q11 (2, 7)
theorem q12_N : hN q12 = 230 := (hN_al q11 (2, 7)).trans (congrArg (· + 1) q11_N)
theorem q12_S : hS q12 223 = (1, 10) := kp_al (g := q11) (t := (2, 7)) (by rw [q11_N]; omega) q11_S
theorem q12_A : hS q12 229 = (2, 7) := (hS_al q11 (2, 7) 229).trans (if_pos q11_N.symm)
theorem q12_F : hS q12 224 = (2, 7011) := kp_al (g := q11) (t := (2, 7)) (by rw [q11_N]; omega) q11_F
theorem q12_R : hR q12 223 1 = some 224 := (hR_al q11 (2, 7) 223 1).trans q11_R
def q13 : MH := sR q12 223 17 (some 229)
theorem q13_N : hN q13 = 230 := (hN_sR q12 223 17 (some 229)).trans q12_N
theorem q13_S : hS q13 223 = (1, 10) := (hS_sR q12 223 17 (some 229) 223).trans q12_S
theorem q13_F : hS q13 224 = (2, 7011) := (hS_sR q12 223 17 (some 229) 224).trans q12_F
theorem q13_R : hR q13 223 1 = some 224 := (hR_sR q12 223 17 223 1 (some 229)).trans ((if_neg (by omega)).trans q12_R)
def q14 : MH := al q13 (2, 64)
theorem q14_N : hN q14 = 231 := (hN_al q13 (2, 64)).trans (congrArg (· + 1) q13_N)
theorem q14_S : hS q14 223 = (1, 10) := kp_al (g := q13) (t := (2, 64)) (by rw [q13_N]; omega) q13_S
theorem q14_A : hS q14 230 = (2, 64) := (hS_al q13 (2, 64) 230).trans (if_pos q13_N.symm)
theorem q14_F : hS q14 224 = (2, 7011) := kp_al (g := q13) (t := (2, 64)) (by rw [q13_N]; omega) q13_F
theorem q14_R : hR q14 223 1 = some 224 := (hR_al q13 (2, 64) 223 1).trans q13_R
def q15 : MH := sR q14 223 18 (some 230)
theorem q15_N : hN q15 = 231 := (hN_sR q14 223 18 (some 230)).trans q14_N
theorem q15_S : hS q15 223 = (1, 10) := (hS_sR q14 223 18 (some 230) 223).trans q14_S
theorem q15_F : hS q15 224 = (2, 7011) := (hS_sR q14 223 18 (some 230) 224).trans q14_F
theorem q15_R : hR q15 223 1 = some 224 := (hR_sR q14 223 18 223 1 (some 230)).trans ((if_neg (by omega)).trans q14_R)
def q16 : MH := al q15 (2, 64)
theorem q16_N : hN q16 = 232 := (hN_al q15 (2, 64)).trans (congrArg (· + 1) q15_N)
theorem q16_S : hS q16 223 = (1, 10) := kp_al (g := q15) (t := (2, 64)) (by rw [q15_N]; omega) q15_S
theorem q16_A : hS q16 231 = (2, 64) := (hS_al q15 (2, 64) 231).trans (if_pos q15_N.symm)
theorem q16_F : hS q16 224 = (2, 7011) := kp_al (g := q15) (t := (2, 64)) (by rw [q15_N]; omega) q15_F
theorem q16_R : hR q16 223 1 = some 224 := (hR_al q15 (2, 64) 223 1).trans q15_R
def q17 : MH := sR q16 223 19 (some 231)
theorem q17_N : hN q17 = 232 := (hN_sR q16 223 19 (some 231)).trans q16_N
theorem q17_S : hS q17 223 = (1, 10) := (hS_sR q16 223 19 (some 231) 223).trans q16_S
theorem q17_F : hS q17 224 = (2, 7011) := (hS_sR q16 223 19 (some 231) 224).trans q16_F
theorem q17_R : hR q17 223 1 = some 224 := (hR_sR q16 223 19 223 1 (some 231)).trans ((if_neg (by omega)).trans q16_R)
def q18 : MH := al q17 (2, 64)
theorem q18_N : hN q18 = 233 := (hN_al q17 (2, 64)).trans (congrArg (· + 1) q17_N)
theorem q18_S : hS q18 223 = (1, 10) := kp_al (g := q17) (t := (2, 64)) (by rw [q17_N]; omega) q17_S
theorem q18_A : hS q18 232 = (2, 64) := (hS_al q17 (2, 64) 232).trans (if_pos q17_N.symm)
theorem q18_F : hS q18 224 = (2, 7011) := kp_al (g := q17) (t := (2, 64)) (by rw [q17_N]; omega) q17_F
theorem q18_R : hR q18 223 1 = some 224 := (hR_al q17 (2, 64) 223 1).trans q17_R
def q19 : MH := sR q18 223 20 (some 232)
theorem q19_N : hN q19 = 233 := (hN_sR q18 223 20 (some 232)).trans q18_N
theorem q19_S : hS q19 223 = (1, 10) := (hS_sR q18 223 20 (some 232) 223).trans q18_S
theorem q19_F : hS q19 224 = (2, 7011) := (hS_sR q18 223 20 (some 232) 224).trans q18_F
theorem q19_R : hR q19 223 1 = some 224 := (hR_sR q18 223 20 223 1 (some 232)).trans ((if_neg (by omega)).trans q18_R)
def q20 : MH := al q19 (2, 64)
theorem q20_N : hN q20 = 234 := (hN_al q19 (2, 64)).trans (congrArg (· + 1) q19_N)
theorem q20_S : hS q20 223 = (1, 10) := kp_al (g := q19) (t := (2, 64)) (by rw [q19_N]; omega) q19_S
theorem q20_A : hS q20 233 = (2, 64) := (hS_al q19 (2, 64) 233).trans (if_pos q19_N.symm)
theorem q20_F : hS q20 224 = (2, 7011) := kp_al (g := q19) (t := (2, 64)) (by rw [q19_N]; omega) q19_F
theorem q20_R : hR q20 223 1 = some 224 := (hR_al q19 (2, 64) 223 1).trans q19_R
def q21 : MH := sR q20 223 21 (some 233)
theorem q21_N : hN q21 = 234 := (hN_sR q20 223 21 (some 233)).trans q20_N
theorem q21_S : hS q21 223 = (1, 10) := (hS_sR q20 223 21 (some 233) 223).trans q20_S
theorem q21_F : hS q21 224 = (2, 7011) := (hS_sR q20 223 21 (some 233) 224).trans q20_F
theorem q21_R : hR q21 223 1 = some 224 := (hR_sR q20 223 21 223 1 (some 233)).trans ((if_neg (by omega)).trans q20_R)
def q22 : MH := al q21 (2, 64)
theorem q22_N : hN q22 = 235 := (hN_al q21 (2, 64)).trans (congrArg (· + 1) q21_N)
theorem q22_S : hS q22 223 = (1, 10) := kp_al (g := q21) (t := (2, 64)) (by rw [q21_N]; omega) q21_S
theorem q22_A : hS q22 234 = (2, 64) := (hS_al q21 (2, 64) 234).trans (if_pos q21_N.symm)
theorem q22_F : hS q22 224 = (2, 7011) := kp_al (g := q21) (t := (2, 64)) (by rw [q21_N]; omega) q21_F
theorem q22_R : hR q22 223 1 = some 224 := (hR_al q21 (2, 64) 223 1).trans q21_R
def q23 : MH := sR q22 223 22 (some 234)
theorem q23_N : hN q23 = 235 := (hN_sR q22 223 22 (some 234)).trans q22_N
theorem q23_S : hS q23 223 = (1, 10) := (hS_sR q22 223 22 (some 234) 223).trans q22_S
theorem q23_F : hS q23 224 = (2, 7011) := (hS_sR q22 223 22 (some 234) 224).trans q22_F
theorem q23_R : hR q23 223 1 = some 224 := (hR_sR q22 223 22 223 1 (some 234)).trans ((if_neg (by omega)).trans q22_R)
def q24 : MH := al q23 (2, 126)
theorem q24_N : hN q24 = 236 := (hN_al q23 (2, 126)).trans (congrArg (· + 1) q23_N)
theorem q24_S : hS q24 223 = (1, 10) := kp_al (g := q23) (t := (2, 126)) (by rw [q23_N]; omega) q23_S
theorem q24_A : hS q24 235 = (2, 126) := (hS_al q23 (2, 126) 235).trans (if_pos q23_N.symm)
theorem q24_F : hS q24 224 = (2, 7011) := kp_al (g := q23) (t := (2, 126)) (by rw [q23_N]; omega) q23_F
theorem q24_R : hR q24 223 1 = some 224 := (hR_al q23 (2, 126) 223 1).trans q23_R
def q25 : MH := sR q24 223 24 (some 235)
theorem q25_N : hN q25 = 236 := (hN_sR q24 223 24 (some 235)).trans q24_N
theorem q25_S : hS q25 223 = (1, 10) := (hS_sR q24 223 24 (some 235) 223).trans q24_S
theorem q25_F : hS q25 224 = (2, 7011) := (hS_sR q24 223 24 (some 235) 224).trans q24_F
theorem q25_R : hR q25 223 1 = some 224 := (hR_sR q24 223 24 223 1 (some 235)).trans ((if_neg (by omega)).trans q24_R)
def q26 : MH := al q25 (2, 59049)
theorem q26_N : hN q26 = 237 := (hN_al q25 (2, 59049)).trans (congrArg (· + 1) q25_N)
theorem q26_S : hS q26 223 = (1, 10) := kp_al (g := q25) (t := (2, 59049)) (by rw [q25_N]; omega) q25_S
theorem q26_A : hS q26 236 = (2, 59049) := (hS_al q25 (2, 59049) 236).trans (if_pos q25_N.symm)
theorem q26_F : hS q26 224 = (2, 7011) := kp_al (g := q25) (t := (2, 59049)) (by rw [q25_N]; omega) q25_F
theorem q26_R : hR q26 223 1 = some 224 := (hR_al q25 (2, 59049) 223 1).trans q25_R
def q27 : MH := sR q26 223 27 (some 236)
theorem q27_N : hN q27 = 237 := (hN_sR q26 223 27 (some 236)).trans q26_N
theorem q27_S : hS q27 223 = (1, 10) := (hS_sR q26 223 27 (some 236) 223).trans q26_S
theorem q27_F : hS q27 224 = (2, 7011) := (hS_sR q26 223 27 (some 236) 224).trans q26_F
theorem q27_R : hR q27 223 1 = some 224 := (hR_sR q26 223 27 223 1 (some 236)).trans ((if_neg (by omega)).trans q26_R)
def q28 : MH := al q27 (2, 64)
theorem q28_N : hN q28 = 238 := (hN_al q27 (2, 64)).trans (congrArg (· + 1) q27_N)
theorem q28_S : hS q28 223 = (1, 10) := kp_al (g := q27) (t := (2, 64)) (by rw [q27_N]; omega) q27_S
theorem q28_A : hS q28 237 = (2, 64) := (hS_al q27 (2, 64) 237).trans (if_pos q27_N.symm)
theorem q28_F : hS q28 224 = (2, 7011) := kp_al (g := q27) (t := (2, 64)) (by rw [q27_N]; omega) q27_F
theorem q28_R : hR q28 223 1 = some 224 := (hR_al q27 (2, 64) 223 1).trans q27_R
def q29 : MH := sR q28 223 28 (some 237)
theorem q29_N : hN q29 = 238 := (hN_sR q28 223 28 (some 237)).trans q28_N
theorem q29_S : hS q29 223 = (1, 10) := (hS_sR q28 223 28 (some 237) 223).trans q28_S
theorem q29_F : hS q29 224 = (2, 7011) := (hS_sR q28 223 28 (some 237) 224).trans q28_F
theorem q29_R : hR q29 223 1 = some 224 := (hR_sR q28 223 28 223 1 (some 237)).trans ((if_neg (by omega)).trans q28_R)
def q30 : MH := al q29 (2, 10)
theorem q30_N : hN q30 = 239 := (hN_al q29 (2, 10)).trans (congrArg (· + 1) q29_N)
theorem q30_S : hS q30 223 = (1, 10) := kp_al (g := q29) (t := (2, 10)) (by rw [q29_N]; omega) q29_S
theorem q30_A : hS q30 238 = (2, 10) := (hS_al q29 (2, 10) 238).trans (if_pos q29_N.symm)
theorem q30_F : hS q30 224 = (2, 7011) := kp_al (g := q29) (t := (2, 10)) (by rw [q29_N]; omega) q29_F
theorem q30_R : hR q30 223 1 = some 224 := (hR_al q29 (2, 10) 223 1).trans q29_R
def q31 : MH := sR q30 223 29 (some 238)
theorem q31_N : hN q31 = 239 := (hN_sR q30 223 29 (some 238)).trans q30_N
theorem q31_S : hS q31 223 = (1, 10) := (hS_sR q30 223 29 (some 238) 223).trans q30_S
theorem q31_F : hS q31 224 = (2, 7011) := (hS_sR q30 223 29 (some 238) 224).trans q30_F
theorem q31_R : hR q31 223 1 = some 224 := (hR_sR q30 223 29 223 1 (some 238)).trans ((if_neg (by omega)).trans q30_R)
def q32 : MH := al q31 (2, 10)
theorem q32_N : hN q32 = 240 := (hN_al q31 (2, 10)).trans (congrArg (· + 1) q31_N)
theorem q32_S : hS q32 223 = (1, 10) := kp_al (g := q31) (t := (2, 10)) (by rw [q31_N]; omega) q31_S
theorem q32_A : hS q32 239 = (2, 10) := (hS_al q31 (2, 10) 239).trans (if_pos q31_N.symm)
theorem q32_F : hS q32 224 = (2, 7011) := kp_al (g := q31) (t := (2, 10)) (by rw [q31_N]; omega) q31_F
theorem q32_R : hR q32 223 1 = some 224 := (hR_al q31 (2, 10) 223 1).trans q31_R
def q33 : MH := sR q32 223 30 (some 239)
theorem q33_N : hN q33 = 240 := (hN_sR q32 223 30 (some 239)).trans q32_N
theorem q33_S : hS q33 223 = (1, 10) := (hS_sR q32 223 30 (some 239) 223).trans q32_S
theorem q33_F : hS q33 224 = (2, 7011) := (hS_sR q32 223 30 (some 239) 224).trans q32_F
theorem q33_R : hR q33 223 1 = some 224 := (hR_sR q32 223 30 223 1 (some 239)).trans ((if_neg (by omega)).trans q32_R)
def q34 : MH := al q33 (2, 378)
theorem q34_N : hN q34 = 241 := (hN_al q33 (2, 378)).trans (congrArg (· + 1) q33_N)
theorem q34_S : hS q34 223 = (1, 10) := kp_al (g := q33) (t := (2, 378)) (by rw [q33_N]; omega) q33_S
theorem q34_A : hS q34 240 = (2, 378) := (hS_al q33 (2, 378) 240).trans (if_pos q33_N.symm)
theorem q34_F : hS q34 224 = (2, 7011) := kp_al (g := q33) (t := (2, 378)) (by rw [q33_N]; omega) q33_F
theorem q34_R : hR q34 223 1 = some 224 := (hR_al q33 (2, 378) 223 1).trans q33_R
def q35 : MH := sR q34 223 31 (some 240)
theorem q35_N : hN q35 = 241 := (hN_sR q34 223 31 (some 240)).trans q34_N
theorem q35_S : hS q35 223 = (1, 10) := (hS_sR q34 223 31 (some 240) 223).trans q34_S
theorem q35_F : hS q35 224 = (2, 7011) := (hS_sR q34 223 31 (some 240) 224).trans q34_F
theorem q35_R : hR q35 223 1 = some 224 := (hR_sR q34 223 31 223 1 (some 240)).trans ((if_neg (by omega)).trans q34_R)
def q36 : MH := al q35 (2, 4)
theorem q36_N : hN q36 = 242 := (hN_al q35 (2, 4)).trans (congrArg (· + 1) q35_N)
theorem q36_S : hS q36 223 = (1, 10) := kp_al (g := q35) (t := (2, 4)) (by rw [q35_N]; omega) q35_S
theorem q36_A : hS q36 241 = (2, 4) := (hS_al q35 (2, 4) 241).trans (if_pos q35_N.symm)
theorem q36_F : hS q36 224 = (2, 7011) := kp_al (g := q35) (t := (2, 4)) (by rw [q35_N]; omega) q35_F
theorem q36_R : hR q36 223 1 = some 224 := (hR_al q35 (2, 4) 223 1).trans q35_R
def q37 : MH := sI q36 241 0 ((-1 : Int32))
theorem q37_N : hN q37 = 242 := (hN_sI q36 241 0 ((-1 : Int32))).trans q36_N
theorem q37_S : hS q37 223 = (1, 10) := (hS_sI q36 241 0 ((-1 : Int32)) 223).trans q36_S
theorem q37_F : hS q37 224 = (2, 7011) := (hS_sI q36 241 0 ((-1 : Int32)) 224).trans q36_F
theorem q37_R : hR q37 223 1 = some 224 := (hR_sI q36 241 0 ((-1 : Int32)) 223 1).trans q36_R
theorem q37_A : hS q37 241 = (2, 4) := (hS_sI q36 241 0 ((-1 : Int32)) 241).trans q36_A
def q38 : MH := sI q37 241 1 ((-1 : Int32))
theorem q38_N : hN q38 = 242 := (hN_sI q37 241 1 ((-1 : Int32))).trans q37_N
theorem q38_S : hS q38 223 = (1, 10) := (hS_sI q37 241 1 ((-1 : Int32)) 223).trans q37_S
theorem q38_F : hS q38 224 = (2, 7011) := (hS_sI q37 241 1 ((-1 : Int32)) 224).trans q37_F
theorem q38_R : hR q38 223 1 = some 224 := (hR_sI q37 241 1 ((-1 : Int32)) 223 1).trans q37_R
theorem q38_A : hS q38 241 = (2, 4) := (hS_sI q37 241 1 ((-1 : Int32)) 241).trans q37_A
def q39 : MH := sI q38 241 2 ((-1 : Int32))
theorem q39_N : hN q39 = 242 := (hN_sI q38 241 2 ((-1 : Int32))).trans q38_N
theorem q39_S : hS q39 223 = (1, 10) := (hS_sI q38 241 2 ((-1 : Int32)) 223).trans q38_S
theorem q39_F : hS q39 224 = (2, 7011) := (hS_sI q38 241 2 ((-1 : Int32)) 224).trans q38_F
theorem q39_R : hR q39 223 1 = some 224 := (hR_sI q38 241 2 ((-1 : Int32)) 223 1).trans q38_R
theorem q39_A : hS q39 241 = (2, 4) := (hS_sI q38 241 2 ((-1 : Int32)) 241).trans q38_A
def q40 : MH := sI q39 241 3 ((-1 : Int32))
theorem q40_N : hN q40 = 242 := (hN_sI q39 241 3 ((-1 : Int32))).trans q39_N
theorem q40_S : hS q40 223 = (1, 10) := (hS_sI q39 241 3 ((-1 : Int32)) 223).trans q39_S
theorem q40_F : hS q40 224 = (2, 7011) := (hS_sI q39 241 3 ((-1 : Int32)) 224).trans q39_F
theorem q40_R : hR q40 223 1 = some 224 := (hR_sI q39 241 3 ((-1 : Int32)) 223 1).trans q39_R
theorem q40_A : hS q40 241 = (2, 4) := (hS_sI q39 241 3 ((-1 : Int32)) 241).trans q39_A
def q41 : MH := sR q40 223 34 (some 241)
theorem q41_N : hN q41 = 242 := (hN_sR q40 223 34 (some 241)).trans q40_N
theorem q41_S : hS q41 223 = (1, 10) := (hS_sR q40 223 34 (some 241) 223).trans q40_S
theorem q41_F : hS q41 224 = (2, 7011) := (hS_sR q40 223 34 (some 241) 224).trans q40_F
theorem q41_R : hR q41 223 1 = some 224 := (hR_sR q40 223 34 223 1 (some 241)).trans ((if_neg (by omega)).trans q40_R)
def q42 : MH := al q41 (2, 4)
theorem q42_N : hN q42 = 243 := (hN_al q41 (2, 4)).trans (congrArg (· + 1) q41_N)
theorem q42_S : hS q42 223 = (1, 10) := kp_al (g := q41) (t := (2, 4)) (by rw [q41_N]; omega) q41_S
theorem q42_A : hS q42 242 = (2, 4) := (hS_al q41 (2, 4) 242).trans (if_pos q41_N.symm)
theorem q42_F : hS q42 224 = (2, 7011) := kp_al (g := q41) (t := (2, 4)) (by rw [q41_N]; omega) q41_F
theorem q42_R : hR q42 223 1 = some 224 := (hR_al q41 (2, 4) 223 1).trans q41_R
def q43 : MH := sR q42 223 35 (some 242)
theorem q43_N : hN q43 = 243 := (hN_sR q42 223 35 (some 242)).trans q42_N
theorem q43_S : hS q43 223 = (1, 10) := (hS_sR q42 223 35 (some 242) 223).trans q42_S
theorem q43_F : hS q43 224 = (2, 7011) := (hS_sR q42 223 35 (some 242) 224).trans q42_F
theorem q43_R : hR q43 223 1 = some 224 := (hR_sR q42 223 35 223 1 (some 242)).trans ((if_neg (by omega)).trans q42_R)
def q44 : MH := al q43 (3, 160)
theorem q44_N : hN q44 = 244 := (hN_al q43 (3, 160)).trans (congrArg (· + 1) q43_N)
theorem q44_S : hS q44 223 = (1, 10) := kp_al (g := q43) (t := (3, 160)) (by rw [q43_N]; omega) q43_S
theorem q44_A : hS q44 243 = (3, 160) := (hS_al q43 (3, 160) 243).trans (if_pos q43_N.symm)
theorem q44_F : hS q44 224 = (2, 7011) := kp_al (g := q43) (t := (3, 160)) (by rw [q43_N]; omega) q43_F
theorem q44_R : hR q44 223 1 = some 224 := (hR_al q43 (3, 160) 223 1).trans q43_R
def q45 : MH := sR q44 223 36 (some 243)
theorem q45_N : hN q45 = 244 := (hN_sR q44 223 36 (some 243)).trans q44_N
theorem q45_S : hS q45 223 = (1, 10) := (hS_sR q44 223 36 (some 243) 223).trans q44_S
theorem q45_F : hS q45 224 = (2, 7011) := (hS_sR q44 223 36 (some 243) 224).trans q44_F
theorem q45_R : hR q45 223 1 = some 224 := (hR_sR q44 223 36 223 1 (some 243)).trans ((if_neg (by omega)).trans q44_R)
def qc : MH := rI q45 224 (filI (hI q45 224) 0 2337 0)
theorem qc_N : hN qc = 244 := (hN_rI q45 224 _).trans q45_N
theorem qc_S : hS qc 223 = (1, 10) := (hS_rI q45 224 _ 223).trans q45_S
theorem qc_F : hS qc 224 = (2, 7011) := (hS_rI q45 224 _ 224).trans q45_F
theorem qc_R : hR qc 223 1 = some 224 := (hR_rI q45 224 _ 223 1).trans q45_R
theorem qc_Z : hI qc 224 2 = 0 := (hI_rI q45 224 224 2 _).trans ((if_pos rfl).trans (if_pos (by omega)))
def qb : MH := sI qc 224 1 (nI 1)
theorem qb_N : hN qb = 244 := (hN_sI qc 224 1 (nI 1)).trans qc_N
theorem qb_S : hS qb 223 = (1, 10) := (hS_sI qc 224 1 (nI 1) 223).trans qc_S
theorem qb_F : hS qb 224 = (2, 7011) := (hS_sI qc 224 1 (nI 1) 224).trans qc_F
theorem qb_R : hR qb 223 1 = some 224 := (hR_sI qc 224 1 (nI 1) 223 1).trans qc_R
theorem qb_Z : hI qb 224 2 = 0 := (hI_sI qc 224 1 224 2 (nI 1)).trans ((if_neg (by omega)).trans qc_Z)
def gm1 : MH := sI qb 223 23 (nI 0)
theorem gm1_N : hN gm1 = 244 := (hN_sI qb 223 23 (nI 0)).trans qb_N
theorem gm1_S : hS gm1 223 = (1, 10) := (hS_sI qb 223 23 (nI 0) 223).trans qb_S
theorem gm1_F : hS gm1 224 = (2, 7011) := (hS_sI qb 223 23 (nI 0) 224).trans qb_F
theorem gm1_R : hR gm1 223 1 = some 224 := (hR_sI qb 223 23 (nI 0) 223 1).trans qb_R
theorem gm1_Z : hI gm1 224 2 = 0 := (hI_sI qb 223 23 224 2 (nI 0)).trans ((if_neg (by omega)).trans qb_Z)
set_option maxRecDepth 100000 in
set_option maxHeartbeats 4000000 in
theorem u_X10' {Q : MH → Prop} (hq : Q gm1) : wX10_init 21 71442 223 q0 Q := by
  unfold wX10_init
  refine ⟨by decide, by decide, fun _ e => ?_⟩
  replace e := e.trans q0_N
  subst e
  intro _ e
  replace e := e.trans (show al q0 (2, 7011) = q1 from rfl)
  subst e
  refine ⟨q1_S, fun _ e => ?_⟩
  replace e := e.trans (show sR q1 223 1 (some 224) = q2 from rfl)
  subst e
  refine ⟨by decide, by decide, fun _ e => ?_⟩
  replace e := e.trans q2_N
  subst e
  intro _ e
  replace e := e.trans (show al q2 (5, 2) = q3 from rfl)
  subst e
  refine ⟨q3_S, fun _ e => ?_⟩
  replace e := e.trans (show sR q3 223 2 (some 225) = q4 from rfl)
  subst e
  refine ⟨by decide, by decide, fun _ e => ?_⟩
  replace e := e.trans q4_N
  subst e
  intro _ e
  replace e := e.trans (show al q4 (2, 900) = q5 from rfl)
  subst e
  refine ⟨q5_S, fun _ e => ?_⟩
  replace e := e.trans (show sR q5 223 3 (some 226) = q6 from rfl)
  subst e
  refine ⟨by decide, by decide, fun _ e => ?_⟩
  replace e := e.trans q6_N
  subst e
  intro _ e
  replace e := e.trans (show al q6 (2, 2337) = q7 from rfl)
  subst e
  refine ⟨q7_S, fun _ e => ?_⟩
  replace e := e.trans (show sR q7 223 4 (some 227) = q8 from rfl)
  subst e
  refine ⟨q8_S, fun _ e => ?_⟩
  replace e := e.trans (show sI q8 223 14 ((-1 : Int32)) = q9 from rfl)
  subst e
  refine ⟨by decide, by decide, fun _ e => ?_⟩
  replace e := e.trans q9_N
  subst e
  intro _ e
  replace e := e.trans (show al q9 (2, 900) = q10 from rfl)
  subst e
  refine ⟨q10_S, fun _ e => ?_⟩
  replace e := e.trans (show sR q10 223 16 (some 228) = q11 from rfl)
  subst e
  refine ⟨by decide, by decide, fun _ e => ?_⟩
  replace e := e.trans q11_N
  subst e
  intro _ e
  replace e := e.trans (show al q11 (2, 7) = q12 from rfl)
  subst e
  refine ⟨q12_S, fun _ e => ?_⟩
  replace e := e.trans (show sR q12 223 17 (some 229) = q13 from rfl)
  subst e
  refine ⟨by decide, by decide, fun _ e => ?_⟩
  replace e := e.trans q13_N
  subst e
  intro _ e
  replace e := e.trans (show al q13 (2, 64) = q14 from rfl)
  subst e
  refine ⟨q14_S, fun _ e => ?_⟩
  replace e := e.trans (show sR q14 223 18 (some 230) = q15 from rfl)
  subst e
  refine ⟨by decide, by decide, fun _ e => ?_⟩
  replace e := e.trans q15_N
  subst e
  intro _ e
  replace e := e.trans (show al q15 (2, 64) = q16 from rfl)
  subst e
  refine ⟨q16_S, fun _ e => ?_⟩
  replace e := e.trans (show sR q16 223 19 (some 231) = q17 from rfl)
  subst e
  refine ⟨by decide, by decide, fun _ e => ?_⟩
  replace e := e.trans q17_N
  subst e
  intro _ e
  replace e := e.trans (show al q17 (2, 64) = q18 from rfl)
  subst e
  refine ⟨q18_S, fun _ e => ?_⟩
  replace e := e.trans (show sR q18 223 20 (some 232) = q19 from rfl)
  subst e
  refine ⟨by decide, by decide, fun _ e => ?_⟩
  replace e := e.trans q19_N
  subst e
  intro _ e
  replace e := e.trans (show al q19 (2, 64) = q20 from rfl)
  subst e
  refine ⟨q20_S, fun _ e => ?_⟩
  replace e := e.trans (show sR q20 223 21 (some 233) = q21 from rfl)
  subst e
  refine ⟨by decide, by decide, fun _ e => ?_⟩
  replace e := e.trans q21_N
  subst e
  intro _ e
  replace e := e.trans (show al q21 (2, 64) = q22 from rfl)
  subst e
  refine ⟨q22_S, fun _ e => ?_⟩
  replace e := e.trans (show sR q22 223 22 (some 234) = q23 from rfl)
  subst e
  refine ⟨by decide, by decide, fun _ e => ?_⟩
  replace e := e.trans q23_N
  subst e
  intro _ e
  replace e := e.trans (show al q23 (2, 126) = q24 from rfl)
  subst e
  refine ⟨q24_S, fun _ e => ?_⟩
  replace e := e.trans (show sR q24 223 24 (some 235) = q25 from rfl)
  subst e
  refine ⟨by decide, by decide, fun _ e => ?_⟩
  replace e := e.trans q25_N
  subst e
  intro _ e
  replace e := e.trans (show al q25 (2, 59049) = q26 from rfl)
  subst e
  refine ⟨q26_S, fun _ e => ?_⟩
  replace e := e.trans (show sR q26 223 27 (some 236) = q27 from rfl)
  subst e
  refine ⟨by decide, by decide, fun _ e => ?_⟩
  replace e := e.trans q27_N
  subst e
  intro _ e
  replace e := e.trans (show al q27 (2, 64) = q28 from rfl)
  subst e
  refine ⟨q28_S, fun _ e => ?_⟩
  replace e := e.trans (show sR q28 223 28 (some 237) = q29 from rfl)
  subst e
  refine ⟨by decide, by decide, fun _ e => ?_⟩
  replace e := e.trans q29_N
  subst e
  intro _ e
  replace e := e.trans (show al q29 (2, 10) = q30 from rfl)
  subst e
  refine ⟨q30_S, fun _ e => ?_⟩
  replace e := e.trans (show sR q30 223 29 (some 238) = q31 from rfl)
  subst e
  refine ⟨by decide, by decide, fun _ e => ?_⟩
  replace e := e.trans q31_N
  subst e
  intro _ e
  replace e := e.trans (show al q31 (2, 10) = q32 from rfl)
  subst e
  refine ⟨q32_S, fun _ e => ?_⟩
  replace e := e.trans (show sR q32 223 30 (some 239) = q33 from rfl)
  subst e
  refine ⟨by decide, by decide, fun _ e => ?_⟩
  replace e := e.trans q33_N
  subst e
  intro _ e
  replace e := e.trans (show al q33 (2, 378) = q34 from rfl)
  subst e
  refine ⟨q34_S, fun _ e => ?_⟩
  replace e := e.trans (show sR q34 223 31 (some 240) = q35 from rfl)
  subst e
  refine ⟨by decide, by decide, fun _ e => ?_⟩
  replace e := e.trans q35_N
  subst e
  intro _ e
  replace e := e.trans (show al q35 (2, 4) = q36 from rfl)
  subst e
  refine ⟨4, q36_A, vp_in_nI (by omega) (by omega), fun _ e => ?_⟩
  rw [nI_clamp (by omega)] at e
  replace e := e.trans (show sI q36 241 0 ((-1 : Int32)) = q37 from rfl)
  subst e
  refine ⟨4, q37_A, vp_in_nI (by omega) (by omega), fun _ e => ?_⟩
  rw [nI_clamp (by omega)] at e
  replace e := e.trans (show sI q37 241 1 ((-1 : Int32)) = q38 from rfl)
  subst e
  refine ⟨4, q38_A, vp_in_nI (by omega) (by omega), fun _ e => ?_⟩
  rw [nI_clamp (by omega)] at e
  replace e := e.trans (show sI q38 241 2 ((-1 : Int32)) = q39 from rfl)
  subst e
  refine ⟨4, q39_A, vp_in_nI (by omega) (by omega), fun _ e => ?_⟩
  rw [nI_clamp (by omega)] at e
  replace e := e.trans (show sI q39 241 3 ((-1 : Int32)) = q40 from rfl)
  subst e
  refine ⟨q40_S, fun _ e => ?_⟩
  replace e := e.trans (show sR q40 223 34 (some 241) = q41 from rfl)
  subst e
  refine ⟨by decide, by decide, fun _ e => ?_⟩
  replace e := e.trans q41_N
  subst e
  intro _ e
  replace e := e.trans (show al q41 (2, 4) = q42 from rfl)
  subst e
  refine ⟨q42_S, fun _ e => ?_⟩
  replace e := e.trans (show sR q42 223 35 (some 242) = q43 from rfl)
  subst e
  refine ⟨by decide, by decide, fun _ e => ?_⟩
  replace e := e.trans q43_N
  subst e
  intro _ e
  replace e := e.trans (show al q43 (3, 160) = q44 from rfl)
  subst e
  refine ⟨q44_S, fun _ e => ?_⟩
  replace e := e.trans (show sR q44 223 36 (some 243) = q45 from rfl)
  subst e
  refine ⟨q45_S, 224, q45_R, u_plain (m := 7011) (by omega) q45_F ?_⟩
  show (fun h143 : MH => _) qc
  refine ⟨qc_S, 224, qc_R, 7011, qc_F, vp_in_nI (by omega) (by omega), fun _ e => ?_⟩
  rw [nI_clamp (by omega)] at e
  replace e := e.trans (show sI qc 224 1 (nI 1) = qb from rfl)
  subst e
  refine ⟨qb_S, qb_S, fun _ e => ?_⟩
  replace e := e.trans (show sI qb 223 23 (nI 0) = gm1 from rfl)
  subst e
  refine ⟨1, ?_⟩
  unfold wX10_laysRings_7
  have h5 : hI gm1 224 (nI 2).toNatClampNeg = 0 := by
    rw [nI_clamp (by omega)]
    exact gm1_Z
  refine ⟨gm1_S, 224, gm1_R, 7011, gm1_F, vp_in_nI (by omega) (by omega), fun _ => hq, fun c => absurd ?_ c⟩
  rw [h5]
  decide
theorem u_X10 {Q : MH → Prop} (hq : Q gm1) : wX10_init 21 71442 223 gm0 Q := u_X10' hq

/-- the law, behind both constructors -/
theorem u_law0 {L : Nat} {xs : Nat → Int32} {Q : Int32 → MH → Prop} (hw : ∃ m, wL_law_18 Q L xs m (600000 - 117) (7302250 - 75428) 128 223 (nI 0) gm1) : wL_law L xs 600000 7302250 h00 Q := by
  unfold wL_law
  refine ⟨by decide, by decide, fun _ e => ?_⟩
  replace e := e.trans (show _ = 128 from rfl)
  subst e
  intro _ e
  replace e := e.trans (show _ = gg0 from rfl)
  subst e
  refine ⟨by decide, by decide, u_X9_init ⟨by decide, by decide, fun _ e => ?_⟩⟩
  replace e := e.trans gg12_N
  subst e
  intro _ e
  replace e := e.trans (show al gg12 (1, 10) = gm0 from rfl)
  subst e
  exact ⟨by decide, by decide, u_X10 hw⟩
