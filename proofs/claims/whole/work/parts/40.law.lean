/-! ===== the law: its script, its walk (by program) ===== -/
section QS
variable {M : MI} {d b t pc : Nat} {ls : List (Option Value)} {st : List Value} {h : MH} {Q : Option Value → MH → Prop}
theorem gad_scr (G : GC) : gad G 127 = gV G 63 := rfl
theorem q_sld {L : Nat} {xs : Nat → Int32} {j : Int32} (hM : mX M = sX L xs) (hin : vp_in j L) (hd : decode (mB M) pc = .ok (.iaload, 1)) (kk : Wm M d b t (pc + 1) ls (.int (xs j.toNatClampNeg) :: st) h Q) : Wm M d b t pc ls (.int j :: .ref 127 :: st) h Q :=
  q_readS (fun G p l e R s m args below meth cd Z H locs lsR kc n C hH hSS hR hml k2 => by
    have hX := C.2.2.2.2.2.2.2.2.2
    rw [hM] at hX
    exact va_sld C.1 C.2.1 hX.1 hX.2.1 hX.2.2 hSS hin hd k2) kk
theorem q_slen {L : Nat} {xs : Nat → Int32} (hM : mX M = sX L xs) (hd : decode (mB M) pc = .ok (.arraylength, 1)) (kk : Wm M d b t (pc + 1) ls (.int (nI L) :: st) h Q) : Wm M d b t pc ls (.ref 127 :: st) h Q :=
  q_readS (fun G p l e R s m args below meth cd Z H locs lsR kc n C hH hSS hR hml k2 => by
    have hX := C.2.2.2.2.2.2.2.2.2
    rw [hM] at hX
    exact va_slen C.1 C.2.1 hX.1 hX.2.1 hX.2.2 hSS hd k2) kk
end QS
def wL_law_18 (Q : Int32 → MH → Prop) (L : Nat) (xs : Nat → Int32) : Nat → Nat → Nat → Nat → Nat → Int32 → MH → Prop
  | 0, _, _, _, _, _, _ => False
  | n + 1, b, t, x1, x2, x3, h => Zh h → ((nI L - nI 6) < x3 → Q (nI 1) h) ∧ (¬ ((nI L - nI 6) < x3) → vp_in (x3) L ∧ (((xs (x3).toNatClampNeg &&& nI 63)).toInt < 0 ∨ 45 < ((xs (x3).toNatClampNeg &&& nI 63)).toInt → wL_law_18 Q L xs n b t x1 x2 (x3 + nI 6) h) ∧ ((xs (x3).toNatClampNeg &&& nI 63) = nI 0 → vp_in ((x3 + nI 1)) L ∧ vp_in ((x3 + nI 2)) L ∧ vp_in ((x3 + nI 3)) L ∧ vp_in ((x3 + nI 4)) L ∧ vp_in ((x3 + nI 5)) L ∧ hS h x1 = (1, 9) ∧ wX9_feed x1 (xs ((x3 + nI 1)).toNatClampNeg) (xs ((x3 + nI 2)).toNatClampNeg) (xs ((x3 + nI 3)).toNatClampNeg) (xs ((x3 + nI 4)).toNatClampNeg) (xs ((x3 + nI 5)).toNatClampNeg) h (fun r24 h25 => vp_in ((x3 + nI 1)) L ∧ vp_in ((x3 + nI 2)) L ∧ vp_in ((x3 + nI 3)) L ∧ vp_in ((x3 + nI 4)) L ∧ vp_in ((x3 + nI 5)) L ∧ hS h25 x2 = (1, 10) ∧ wX10_feed x2 (xs ((x3 + nI 1)).toNatClampNeg) (xs ((x3 + nI 2)).toNatClampNeg) (xs ((x3 + nI 3)).toNatClampNeg) (xs ((x3 + nI 4)).toNatClampNeg) (xs ((x3 + nI 5)).toNatClampNeg) h25 (fun r32 h33 => (r24 = r32 → wL_law_18 Q L xs n b t x1 x2 (x3 + nI 6) h33) ∧ (¬ (r24 = r32) → Q (nI 0) h33)))) ∧ ((xs (x3).toNatClampNeg &&& nI 63) = nI 1 → vp_in ((x3 + nI 1)) L ∧ hS h x1 = (1, 9) ∧ 16 ≤ b ∧ 1125 ≤ t ∧ wX9_net 16 1125 x1 (xs ((x3 + nI 1)).toNatClampNeg) h (fun r38 h39 => vp_in ((x3 + nI 1)) L ∧ hS h39 x2 = (1, 10) ∧ wX10_net x2 (xs ((x3 + nI 1)).toNatClampNeg) h39 (fun r42 h43 => (r38 = r42 → wL_law_18 Q L xs n (b - 16) (t - 1125) x1 x2 (x3 + nI 6) h43) ∧ (¬ (r38 = r42) → Q (nI 0) h43)))) ∧ ((xs (x3).toNatClampNeg &&& nI 63) = nI 2 → vp_in ((x3 + nI 1)) L ∧ hS h x1 = (1, 9) ∧ wX9_fault x1 (xs ((x3 + nI 1)).toNatClampNeg) h (fun r46 h47 => vp_in ((x3 + nI 1)) L ∧ hS h47 x2 = (1, 10) ∧ wX10_fault x2 (xs ((x3 + nI 1)).toNatClampNeg) h47 (fun r50 h51 => (r46 = r50 → wL_law_18 Q L xs n b t x1 x2 (x3 + nI 6) h51) ∧ (¬ (r46 = r50) → Q (nI 0) h51)))) ∧ ((xs (x3).toNatClampNeg &&& nI 63) = nI 3 → vp_in ((x3 + nI 1)) L ∧ vp_in ((x3 + nI 2)) L ∧ hS h x1 = (1, 9) ∧ wX9_link x1 (xs ((x3 + nI 1)).toNatClampNeg) (xs ((x3 + nI 2)).toNatClampNeg) h (fun r55 h56 => vp_in ((x3 + nI 1)) L ∧ vp_in ((x3 + nI 2)) L ∧ hS h56 x2 = (1, 10) ∧ wX10_link x2 (xs ((x3 + nI 1)).toNatClampNeg) (xs ((x3 + nI 2)).toNatClampNeg) h56 (fun r60 h61 => (r55 = r60 → wL_law_18 Q L xs n b t x1 x2 (x3 + nI 6) h61) ∧ (¬ (r55 = r60) → Q (nI 0) h61)))) ∧ ((xs (x3).toNatClampNeg &&& nI 63) = nI 4 → vp_in ((x3 + nI 1)) L ∧ vp_in ((x3 + nI 2)) L ∧ hS h x1 = (1, 9) ∧ wX9_ring x1 (xs ((x3 + nI 1)).toNatClampNeg) (xs ((x3 + nI 2)).toNatClampNeg) h (fun r65 h66 => vp_in ((x3 + nI 1)) L ∧ vp_in ((x3 + nI 2)) L ∧ hS h66 x2 = (1, 10) ∧ wX10_ring x2 (xs ((x3 + nI 1)).toNatClampNeg) (xs ((x3 + nI 2)).toNatClampNeg) h66 (fun r70 h71 => (r65 = r70 → wL_law_18 Q L xs n b t x1 x2 (x3 + nI 6) h71) ∧ (¬ (r65 = r70) → Q (nI 0) h71)))) ∧ ((xs (x3).toNatClampNeg &&& nI 63) = nI 5 → vp_in ((x3 + nI 1)) L ∧ hS h x1 = (1, 9) ∧ wX9_ringOf x1 (xs ((x3 + nI 1)).toNatClampNeg) h (fun r74 h75 => vp_in ((x3 + nI 1)) L ∧ hS h75 x2 = (1, 10) ∧ wX10_ringOf x2 (xs ((x3 + nI 1)).toNatClampNeg) h75 (fun r78 h79 => (r74 = r78 → wL_law_18 Q L xs n b t x1 x2 (x3 + nI 6) h79) ∧ (¬ (r74 = r78) → Q (nI 0) h79)))) ∧ ((xs (x3).toNatClampNeg &&& nI 63) = nI 6 → vp_in ((x3 + nI 1)) L ∧ vp_in ((x3 + nI 2)) L ∧ hS h x1 = (1, 9) ∧ wX9_use x1 (xs ((x3 + nI 1)).toNatClampNeg) (xs ((x3 + nI 2)).toNatClampNeg) h (fun r83 h84 => vp_in ((x3 + nI 1)) L ∧ vp_in ((x3 + nI 2)) L ∧ hS h84 x2 = (1, 10) ∧ wX10_use x2 (xs ((x3 + nI 1)).toNatClampNeg) (xs ((x3 + nI 2)).toNatClampNeg) h84 (fun r88 h89 => (r83 = r88 → wL_law_18 Q L xs n b t x1 x2 (x3 + nI 6) h89) ∧ (¬ (r83 = r88) → Q (nI 0) h89)))) ∧ ((xs (x3).toNatClampNeg &&& nI 63) = nI 7 → vp_in ((x3 + nI 1)) L ∧ vp_in ((x3 + nI 2)) L ∧ vp_in ((x3 + nI 3)) L ∧ hS h x1 = (1, 9) ∧ wX9_path x1 (xs ((x3 + nI 1)).toNatClampNeg) (xs ((x3 + nI 2)).toNatClampNeg) (xs ((x3 + nI 3)).toNatClampNeg) h (fun r94 h95 => vp_in ((x3 + nI 1)) L ∧ vp_in ((x3 + nI 2)) L ∧ vp_in ((x3 + nI 3)) L ∧ hS h95 x2 = (1, 10) ∧ wX10_path x2 (xs ((x3 + nI 1)).toNatClampNeg) (xs ((x3 + nI 2)).toNatClampNeg) (xs ((x3 + nI 3)).toNatClampNeg) h95 (fun r100 h101 => (r94 = r100 → wL_law_18 Q L xs n b t x1 x2 (x3 + nI 6) h101) ∧ (¬ (r94 = r100) → Q (nI 0) h101)))) ∧ ((xs (x3).toNatClampNeg &&& nI 63) = nI 8 → vp_in ((x3 + nI 1)) L ∧ hS h x1 = (1, 9) ∧ wX9_lay x1 (xs ((x3 + nI 1)).toNatClampNeg) h (fun r104 h105 => vp_in ((x3 + nI 1)) L ∧ hS h105 x2 = (1, 10) ∧ wX10_lay x2 (xs ((x3 + nI 1)).toNatClampNeg) h105 (fun r108 h109 => (r104 = r108 → wL_law_18 Q L xs n b t x1 x2 (x3 + nI 6) h109) ∧ (¬ (r104 = r108) → Q (nI 0) h109)))) ∧ ((xs (x3).toNatClampNeg &&& nI 63) = nI 9 → vp_in ((x3 + nI 1)) L ∧ hS h x1 = (1, 9) ∧ wX9_take x1 (xs ((x3 + nI 1)).toNatClampNeg) h (fun r112 h113 => vp_in ((x3 + nI 1)) L ∧ hS h113 x2 = (1, 10) ∧ wX10_take x2 (xs ((x3 + nI 1)).toNatClampNeg) h113 (fun r116 h117 => (r112 = r116 → wL_law_18 Q L xs n b t x1 x2 (x3 + nI 6) h117) ∧ (¬ (r112 = r116) → Q (nI 0) h117)))) ∧ ((xs (x3).toNatClampNeg &&& nI 63) = nI 10 → vp_in ((x3 + nI 1)) L ∧ hS h x1 = (1, 9) ∧ wX9_fail x1 (xs ((x3 + nI 1)).toNatClampNeg) h (fun r120 h121 => vp_in ((x3 + nI 1)) L ∧ hS h121 x2 = (1, 10) ∧ wX10_fail x2 (xs ((x3 + nI 1)).toNatClampNeg) h121 (fun r124 h125 => (r120 = r124 → wL_law_18 Q L xs n b t x1 x2 (x3 + nI 6) h125) ∧ (¬ (r120 = r124) → Q (nI 0) h125)))) ∧ ((xs (x3).toNatClampNeg &&& nI 63) = nI 11 → vp_in ((x3 + nI 1)) L ∧ hS h x1 = (1, 9) ∧ wX9_mend x1 (xs ((x3 + nI 1)).toNatClampNeg) h (fun r128 h129 => vp_in ((x3 + nI 1)) L ∧ hS h129 x2 = (1, 10) ∧ wX10_mend x2 (xs ((x3 + nI 1)).toNatClampNeg) h129 (fun r132 h133 => (r128 = r132 → wL_law_18 Q L xs n b t x1 x2 (x3 + nI 6) h133) ∧ (¬ (r128 = r132) → Q (nI 0) h133)))) ∧ ((xs (x3).toNatClampNeg &&& nI 63) = nI 12 → vp_in ((x3 + nI 1)) L ∧ hS h x1 = (1, 9) ∧ wX9_rate x1 (xs ((x3 + nI 1)).toNatClampNeg) h (fun r136 h137 => vp_in ((x3 + nI 1)) L ∧ hS h137 x2 = (1, 10) ∧ wX10_rate x2 (xs ((x3 + nI 1)).toNatClampNeg) h137 (fun r140 h141 => (r136 = r140 → wL_law_18 Q L xs n b t x1 x2 (x3 + nI 6) h141) ∧ (¬ (r136 = r140) → Q (nI 0) h141)))) ∧ ((xs (x3).toNatClampNeg &&& nI 63) = nI 13 → vp_in ((x3 + nI 1)) L ∧ hS h x1 = (1, 9) ∧ wX9_undo x1 (xs ((x3 + nI 1)).toNatClampNeg) h (fun r144 h145 => vp_in ((x3 + nI 1)) L ∧ hS h145 x2 = (1, 10) ∧ wX10_undo x2 (xs ((x3 + nI 1)).toNatClampNeg) h145 (fun r148 h149 => (r144 = r148 → wL_law_18 Q L xs n b t x1 x2 (x3 + nI 6) h149) ∧ (¬ (r144 = r148) → Q (nI 0) h149)))) ∧ ((xs (x3).toNatClampNeg &&& nI 63) = nI 14 → vp_in ((x3 + nI 1)) L ∧ vp_in ((x3 + nI 2)) L ∧ hS h x1 = (1, 9) ∧ wX9_judge x1 (xs ((x3 + nI 1)).toNatClampNeg) (xs ((x3 + nI 2)).toNatClampNeg) h (fun r153 h154 => vp_in ((x3 + nI 1)) L ∧ vp_in ((x3 + nI 2)) L ∧ hS h154 x2 = (1, 10) ∧ wX10_judge x2 (xs ((x3 + nI 1)).toNatClampNeg) (xs ((x3 + nI 2)).toNatClampNeg) h154 (fun r158 h159 => (r153 = r158 → wL_law_18 Q L xs n b t x1 x2 (x3 + nI 6) h159) ∧ (¬ (r153 = r158) → Q (nI 0) h159)))) ∧ ((xs (x3).toNatClampNeg &&& nI 63) = nI 15 → vp_in ((x3 + nI 1)) L ∧ hS h x1 = (1, 9) ∧ wX9_perform x1 (xs ((x3 + nI 1)).toNatClampNeg) h (fun r162 h163 => vp_in ((x3 + nI 1)) L ∧ hS h163 x2 = (1, 10) ∧ wX10_perform x2 (xs ((x3 + nI 1)).toNatClampNeg) h163 (fun r166 h167 => (r162 = r166 → wL_law_18 Q L xs n b t x1 x2 (x3 + nI 6) h167) ∧ (¬ (r162 = r166) → Q (nI 0) h167)))) ∧ ((xs (x3).toNatClampNeg &&& nI 63) = nI 16 → vp_in ((x3 + nI 1)) L ∧ vp_in ((x3 + nI 2)) L ∧ hS h x1 = (1, 9) ∧ wX9_year x1 (xs ((x3 + nI 1)).toNatClampNeg) (xs ((x3 + nI 2)).toNatClampNeg) h (fun r171 h172 => vp_in ((x3 + nI 1)) L ∧ vp_in ((x3 + nI 2)) L ∧ hS h172 x2 = (1, 10) ∧ wX10_year x2 (xs ((x3 + nI 1)).toNatClampNeg) (xs ((x3 + nI 2)).toNatClampNeg) h172 (fun r176 h177 => (r171 = r176 → wL_law_18 Q L xs n b t x1 x2 (x3 + nI 6) h177) ∧ (¬ (r171 = r176) → Q (nI 0) h177)))) ∧ ((xs (x3).toNatClampNeg &&& nI 63) = nI 17 → hS h x1 = (1, 9) ∧ wX9_isCover x1 h (fun r179 h180 => hS h180 x2 = (1, 10) ∧ wX10_isCover x2 h180 (fun r182 h183 => (r179 = r182 → wL_law_18 Q L xs n b t x1 x2 (x3 + nI 6) h183) ∧ (¬ (r179 = r182) → Q (nI 0) h183)))) ∧ ((xs (x3).toNatClampNeg &&& nI 63) = nI 18 → hS h x1 = (1, 9) ∧ wX9_cost x1 h (fun r185 h186 => hS h186 x2 = (1, 10) ∧ wX10_cost x2 h186 (fun r188 h189 => (r185 = r188 → wL_law_18 Q L xs n b t x1 x2 (x3 + nI 6) h189) ∧ (¬ (r185 = r188) → Q (nI 0) h189)))) ∧ ((xs (x3).toNatClampNeg &&& nI 63) = nI 19 → vp_in ((x3 + nI 1)) L ∧ vp_in ((x3 + nI 2)) L ∧ hS h x1 = (1, 9) ∧ 1 ≤ b ∧ 2048 ≤ t ∧ wX9_yet 1 2048 x1 (xs ((x3 + nI 1)).toNatClampNeg) (xs ((x3 + nI 2)).toNatClampNeg) h (fun r195 h196 => vp_in ((x3 + nI 1)) L ∧ vp_in ((x3 + nI 2)) L ∧ hS h196 x2 = (1, 10) ∧ wX10_yet x2 (xs ((x3 + nI 1)).toNatClampNeg) (xs ((x3 + nI 2)).toNatClampNeg) h196 (fun r200 h201 => (r195 = r200 → wL_law_18 Q L xs n (b - 1) (t - 2048) x1 x2 (x3 + nI 6) h201) ∧ (¬ (r195 = r200) → Q (nI 0) h201)))) ∧ ((xs (x3).toNatClampNeg &&& nI 63) = nI 20 → vp_in ((x3 + nI 1)) L ∧ vp_in ((x3 + nI 2)) L ∧ hS h x1 = (1, 9) ∧ 1 ≤ b ∧ 2048 ≤ t ∧ wX9_among 1 2048 x1 (xs ((x3 + nI 1)).toNatClampNeg) (xs ((x3 + nI 2)).toNatClampNeg) h (fun r207 h208 => vp_in ((x3 + nI 1)) L ∧ vp_in ((x3 + nI 2)) L ∧ hS h208 x2 = (1, 10) ∧ wX10_among x2 (xs ((x3 + nI 1)).toNatClampNeg) (xs ((x3 + nI 2)).toNatClampNeg) h208 (fun r212 h213 => (r207 = r212 → wL_law_18 Q L xs n (b - 1) (t - 2048) x1 x2 (x3 + nI 6) h213) ∧ (¬ (r207 = r212) → Q (nI 0) h213)))) ∧ ((xs (x3).toNatClampNeg &&& nI 63) = nI 21 → vp_in ((x3 + nI 1)) L ∧ hS h x1 = (1, 9) ∧ wX9_bound x1 (xs ((x3 + nI 1)).toNatClampNeg) h (fun r216 h217 => vp_in ((x3 + nI 1)) L ∧ hS h217 x2 = (1, 10) ∧ wX10_bound x2 (xs ((x3 + nI 1)).toNatClampNeg) h217 (fun r220 h221 => ((lg_cmp (r216) (r220)) = 0 → wL_law_18 Q L xs n b t x1 x2 (x3 + nI 6) h221) ∧ (¬ ((lg_cmp (r216) (r220)) = 0) → Q (nI 0) h221)))) ∧ ((xs (x3).toNatClampNeg &&& nI 63) = nI 22 → vp_in ((x3 + nI 1)) L ∧ hS h x1 = (1, 9) ∧ wX9_covers x1 (xs ((x3 + nI 1)).toNatClampNeg) h (fun r224 h225 => vp_in ((x3 + nI 1)) L ∧ hS h225 x2 = (1, 10) ∧ wX10_covers x2 (xs ((x3 + nI 1)).toNatClampNeg) h225 (fun r228 h229 => (r224 = r228 → wL_law_18 Q L xs n b t x1 x2 (x3 + nI 6) h229) ∧ (¬ (r224 = r228) → Q (nI 0) h229)))) ∧ ((xs (x3).toNatClampNeg &&& nI 63) = nI 23 → hS h x1 = (1, 9) ∧ wX9_best x1 h (fun r231 h232 => hS h232 x2 = (1, 10) ∧ wX10_best x2 h232 (fun r234 h235 => (r231 = r234 → wL_law_18 Q L xs n b t x1 x2 (x3 + nI 6) h235) ∧ (¬ (r231 = r234) → Q (nI 0) h235)))) ∧ ((xs (x3).toNatClampNeg &&& nI 63) = nI 24 → hS h x1 = (1, 9) ∧ wX9_spare x1 h (fun r237 h238 => hS h238 x2 = (1, 10) ∧ wX10_spare x2 h238 (fun r240 h241 => (r237 = r240 → wL_law_18 Q L xs n b t x1 x2 (x3 + nI 6) h241) ∧ (¬ (r237 = r240) → Q (nI 0) h241)))) ∧ ((xs (x3).toNatClampNeg &&& nI 63) = nI 25 → vp_in ((x3 + nI 1)) L ∧ vp_in ((x3 + nI 2)) L ∧ vp_in ((x3 + nI 3)) L ∧ hS h x1 = (1, 9) ∧ wX9_runs x1 (xs ((x3 + nI 1)).toNatClampNeg) (xs ((x3 + nI 2)).toNatClampNeg) (xs ((x3 + nI 3)).toNatClampNeg) h (fun r246 h247 => vp_in ((x3 + nI 1)) L ∧ vp_in ((x3 + nI 2)) L ∧ vp_in ((x3 + nI 3)) L ∧ hS h247 x2 = (1, 10) ∧ wX10_runs x2 (xs ((x3 + nI 1)).toNatClampNeg) (xs ((x3 + nI 2)).toNatClampNeg) (xs ((x3 + nI 3)).toNatClampNeg) h247 (fun r252 h253 => (r246 = r252 → wL_law_18 Q L xs n b t x1 x2 (x3 + nI 6) h253) ∧ (¬ (r246 = r252) → Q (nI 0) h253)))) ∧ ((xs (x3).toNatClampNeg &&& nI 63) = nI 26 → hS h x1 = (1, 9) ∧ wX9_lost x1 h (fun r255 h256 => hS h256 x2 = (1, 10) ∧ wX10_lost x2 h256 (fun r258 h259 => (r255 = r258 → wL_law_18 Q L xs n b t x1 x2 (x3 + nI 6) h259) ∧ (¬ (r255 = r258) → Q (nI 0) h259)))) ∧ ((xs (x3).toNatClampNeg &&& nI 63) = nI 27 → vp_in ((x3 + nI 1)) L ∧ hS h x1 = (1, 9) ∧ wX9_ifFails x1 (xs ((x3 + nI 1)).toNatClampNeg) h (fun r262 h263 => vp_in ((x3 + nI 1)) L ∧ hS h263 x2 = (1, 10) ∧ wX10_ifFails x2 (xs ((x3 + nI 1)).toNatClampNeg) h263 (fun r266 h267 => (r262 = r266 → wL_law_18 Q L xs n b t x1 x2 (x3 + nI 6) h267) ∧ (¬ (r262 = r266) → Q (nI 0) h267)))) ∧ ((xs (x3).toNatClampNeg &&& nI 63) = nI 28 → hS h x1 = (1, 9) ∧ wX9_worst x1 h (fun r269 h270 => hS h270 x2 = (1, 10) ∧ wX10_worst x2 h270 (fun r272 h273 => (r269 = r272 → wL_law_18 Q L xs n b t x1 x2 (x3 + nI 6) h273) ∧ (¬ (r269 = r272) → Q (nI 0) h273)))) ∧ ((xs (x3).toNatClampNeg &&& nI 63) = nI 29 → vp_in ((x3 + nI 1)) L ∧ vp_in ((x3 + nI 2)) L ∧ hS h x1 = (1, 9) ∧ wX9_two x1 (xs ((x3 + nI 1)).toNatClampNeg) (xs ((x3 + nI 2)).toNatClampNeg) h (fun r277 h278 => vp_in ((x3 + nI 1)) L ∧ vp_in ((x3 + nI 2)) L ∧ hS h278 x2 = (1, 10) ∧ wX10_two x2 (xs ((x3 + nI 1)).toNatClampNeg) (xs ((x3 + nI 2)).toNatClampNeg) h278 (fun r282 h283 => (r277 = r282 → wL_law_18 Q L xs n b t x1 x2 (x3 + nI 6) h283) ∧ (¬ (r277 = r282) → Q (nI 0) h283)))) ∧ ((xs (x3).toNatClampNeg &&& nI 63) = nI 30 → vp_in ((x3 + nI 1)) L ∧ hS h x1 = (1, 9) ∧ wX9_twos x1 (xs ((x3 + nI 1)).toNatClampNeg) h (fun r286 h287 => vp_in ((x3 + nI 1)) L ∧ hS h287 x2 = (1, 10) ∧ wX10_twos x2 (xs ((x3 + nI 1)).toNatClampNeg) h287 (fun r290 h291 => (r286 = r290 → wL_law_18 Q L xs n b t x1 x2 (x3 + nI 6) h291) ∧ (¬ (r286 = r290) → Q (nI 0) h291)))) ∧ ((xs (x3).toNatClampNeg &&& nI 63) = nI 31 → hS h x1 = (1, 9) ∧ wX9_stands x1 h (fun r293 h294 => hS h294 x2 = (1, 10) ∧ wX10_stands x2 h294 (fun r296 h297 => (r293 = r296 → wL_law_18 Q L xs n b t x1 x2 (x3 + nI 6) h297) ∧ (¬ (r293 = r296) → Q (nI 0) h297)))) ∧ ((xs (x3).toNatClampNeg &&& nI 63) = nI 32 → hS h x1 = (1, 9) ∧ wX9_rings x1 h (fun r299 h300 => hS h300 x2 = (1, 10) ∧ wX10_rings x2 h300 (fun r302 h303 => (r299 = r302 → wL_law_18 Q L xs n b t x1 x2 (x3 + nI 6) h303) ∧ (¬ (r299 = r302) → Q (nI 0) h303)))) ∧ ((xs (x3).toNatClampNeg &&& nI 63) = nI 33 → hS h x1 = (1, 9) ∧ wX9_bare x1 h (fun r305 h306 => hS h306 x2 = (1, 10) ∧ wX10_bare x2 h306 (fun r308 h309 => (r305 = r308 → wL_law_18 Q L xs n b t x1 x2 (x3 + nI 6) h309) ∧ (¬ (r305 = r308) → Q (nI 0) h309)))) ∧ ((xs (x3).toNatClampNeg &&& nI 63) = nI 34 → hS h x1 = (1, 9) ∧ wX9_bridges x1 h (fun r311 h312 => hS h312 x2 = (1, 10) ∧ wX10_bridges x2 h312 (fun r314 h315 => (r311 = r314 → wL_law_18 Q L xs n b t x1 x2 (x3 + nI 6) h315) ∧ (¬ (r311 = r314) → Q (nI 0) h315)))) ∧ ((xs (x3).toNatClampNeg &&& nI 63) = nI 35 → vp_in ((x3 + nI 1)) L ∧ vp_in ((x3 + nI 2)) L ∧ vp_in ((x3 + nI 3)) L ∧ hS h x1 = (1, 9) ∧ wX9_cut x1 (xs ((x3 + nI 1)).toNatClampNeg) (xs ((x3 + nI 2)).toNatClampNeg) (xs ((x3 + nI 3)).toNatClampNeg) h (fun r320 h321 => vp_in ((x3 + nI 1)) L ∧ vp_in ((x3 + nI 2)) L ∧ vp_in ((x3 + nI 3)) L ∧ hS h321 x2 = (1, 10) ∧ wX10_cut x2 (xs ((x3 + nI 1)).toNatClampNeg) (xs ((x3 + nI 2)).toNatClampNeg) (xs ((x3 + nI 3)).toNatClampNeg) h321 (fun r326 h327 => (r320 = r326 → wL_law_18 Q L xs n b t x1 x2 (x3 + nI 6) h327) ∧ (¬ (r320 = r326) → Q (nI 0) h327)))) ∧ ((xs (x3).toNatClampNeg &&& nI 63) = nI 36 → vp_in ((x3 + nI 1)) L ∧ hS h x1 = (1, 9) ∧ wX9_rates x1 (xs ((x3 + nI 1)).toNatClampNeg) h (fun r330 h331 => vp_in ((x3 + nI 1)) L ∧ hS h331 x2 = (1, 10) ∧ wX10_rates x2 (xs ((x3 + nI 1)).toNatClampNeg) h331 (fun r334 h335 => (r330 = r334 → wL_law_18 Q L xs n b t x1 x2 (x3 + nI 6) h335) ∧ (¬ (r330 = r334) → Q (nI 0) h335)))) ∧ ((xs (x3).toNatClampNeg &&& nI 63) = nI 37 → vp_in ((x3 + nI 1)) L ∧ hS h x1 = (1, 9) ∧ wX9_ask x1 (xs ((x3 + nI 1)).toNatClampNeg) h (fun r338 h339 => vp_in ((x3 + nI 1)) L ∧ hS h339 x2 = (1, 10) ∧ wX10_ask x2 (xs ((x3 + nI 1)).toNatClampNeg) h339 (fun r342 h343 => (r338 = r342 → wL_law_18 Q L xs n b t x1 x2 (x3 + nI 6) h343) ∧ (¬ (r338 = r342) → Q (nI 0) h343)))) ∧ ((xs (x3).toNatClampNeg &&& nI 63) = nI 38 → vp_in ((x3 + nI 1)) L ∧ vp_in ((x3 + nI 2)) L ∧ hS h x1 = (1, 9) ∧ wX9_chance x1 (xs ((x3 + nI 1)).toNatClampNeg) (xs ((x3 + nI 2)).toNatClampNeg) h (fun r347 h348 => vp_in ((x3 + nI 1)) L ∧ vp_in ((x3 + nI 2)) L ∧ hS h348 x2 = (1, 10) ∧ wX10_chance x2 (xs ((x3 + nI 1)).toNatClampNeg) (xs ((x3 + nI 2)).toNatClampNeg) h348 (fun r352 h353 => (r347 = r352 → wL_law_18 Q L xs n b t x1 x2 (x3 + nI 6) h353) ∧ (¬ (r347 = r352) → Q (nI 0) h353)))) ∧ ((xs (x3).toNatClampNeg &&& nI 63) = nI 39 → vp_in ((x3 + nI 1)) L ∧ vp_in ((x3 + nI 2)) L ∧ hS h x1 = (1, 9) ∧ wX9_mean x1 (xs ((x3 + nI 1)).toNatClampNeg) (xs ((x3 + nI 2)).toNatClampNeg) h (fun r357 h358 => vp_in ((x3 + nI 1)) L ∧ vp_in ((x3 + nI 2)) L ∧ hS h358 x2 = (1, 10) ∧ wX10_mean x2 (xs ((x3 + nI 1)).toNatClampNeg) (xs ((x3 + nI 2)).toNatClampNeg) h358 (fun r362 h363 => (r357 = r362 → wL_law_18 Q L xs n b t x1 x2 (x3 + nI 6) h363) ∧ (¬ (r357 = r362) → Q (nI 0) h363)))) ∧ ((xs (x3).toNatClampNeg &&& nI 63) = nI 40 → vp_in ((x3 + nI 1)) L ∧ vp_in ((x3 + nI 2)) L ∧ vp_in ((x3 + nI 3)) L ∧ hS h x1 = (1, 9) ∧ wX9_numbers x1 (xs ((x3 + nI 1)).toNatClampNeg) (xs ((x3 + nI 2)).toNatClampNeg) (xs ((x3 + nI 3)).toNatClampNeg) h (fun r368 h369 => vp_in ((x3 + nI 1)) L ∧ vp_in ((x3 + nI 2)) L ∧ vp_in ((x3 + nI 3)) L ∧ hS h369 x2 = (1, 10) ∧ wX10_numbers x2 (xs ((x3 + nI 1)).toNatClampNeg) (xs ((x3 + nI 2)).toNatClampNeg) (xs ((x3 + nI 3)).toNatClampNeg) h369 (fun r374 h375 => (r368 = r374 → wL_law_18 Q L xs n b t x1 x2 (x3 + nI 6) h375) ∧ (¬ (r368 = r374) → Q (nI 0) h375)))) ∧ ((xs (x3).toNatClampNeg &&& nI 63) = nI 41 → vp_in ((x3 + nI 1)) L ∧ vp_in ((x3 + nI 2)) L ∧ vp_in ((x3 + nI 3)) L ∧ vp_in ((x3 + nI 4)) L ∧ hS h x1 = (1, 9) ∧ wX9_write x1 (xs ((x3 + nI 1)).toNatClampNeg) (xs ((x3 + nI 2)).toNatClampNeg) (((xs ((x3 + nI 3)).toNatClampNeg).toInt64 <<< ((nI 32).toInt64 &&& 63)) ||| ((xs ((x3 + nI 4)).toNatClampNeg).toInt64 &&& (4294967295 : Int64))) h (fun r381 h382 => vp_in ((x3 + nI 1)) L ∧ vp_in ((x3 + nI 2)) L ∧ vp_in ((x3 + nI 3)) L ∧ vp_in ((x3 + nI 4)) L ∧ hS h382 x2 = (1, 10) ∧ wX10_write x2 (xs ((x3 + nI 1)).toNatClampNeg) (xs ((x3 + nI 2)).toNatClampNeg) (((xs ((x3 + nI 3)).toNatClampNeg).toInt64 <<< ((nI 32).toInt64 &&& 63)) ||| ((xs ((x3 + nI 4)).toNatClampNeg).toInt64 &&& (4294967295 : Int64))) h382 (fun r388 h389 => ((lg_cmp (r381) (r388)) = 0 → wL_law_18 Q L xs n b t x1 x2 (x3 + nI 6) h389) ∧ (¬ ((lg_cmp (r381) (r388)) = 0) → Q (nI 0) h389)))) ∧ ((xs (x3).toNatClampNeg &&& nI 63) = nI 42 → vp_in ((x3 + nI 1)) L ∧ vp_in ((x3 + nI 2)) L ∧ hS h x1 = (1, 9) ∧ 1 ≤ b ∧ 2048 ≤ t ∧ wX9_lists 1 2048 x1 (xs ((x3 + nI 1)).toNatClampNeg) (xs ((x3 + nI 2)).toNatClampNeg) h (fun r395 h396 => vp_in ((x3 + nI 1)) L ∧ vp_in ((x3 + nI 2)) L ∧ hS h396 x2 = (1, 10) ∧ wX10_lists x2 (xs ((x3 + nI 1)).toNatClampNeg) (xs ((x3 + nI 2)).toNatClampNeg) h396 (fun r400 h401 => (r395 = r400 → wL_law_18 Q L xs n (b - 1) (t - 2048) x1 x2 (x3 + nI 6) h401) ∧ (¬ (r395 = r400) → Q (nI 0) h401)))) ∧ ((xs (x3).toNatClampNeg &&& nI 63) = nI 43 → vp_in ((x3 + nI 1)) L ∧ hS h x1 = (1, 9) ∧ wX9_image x1 (xs ((x3 + nI 1)).toNatClampNeg) h (fun r404 h405 => vp_in ((x3 + nI 1)) L ∧ hS h405 x2 = (1, 10) ∧ wX10_image x2 (xs ((x3 + nI 1)).toNatClampNeg) h405 (fun r408 h409 => (r404 = r408 → wL_law_18 Q L xs n b t x1 x2 (x3 + nI 6) h409) ∧ (¬ (r404 = r408) → Q (nI 0) h409)))) ∧ ((xs (x3).toNatClampNeg &&& nI 63) = nI 44 → vp_in ((x3 + nI 1)) L ∧ hS h x1 = (1, 9) ∧ wX9_restore x1 (xs ((x3 + nI 1)).toNatClampNeg) h (fun r412 h413 => vp_in ((x3 + nI 1)) L ∧ hS h413 x2 = (1, 10) ∧ wX10_restore x2 (xs ((x3 + nI 1)).toNatClampNeg) h413 (fun r416 h417 => (r412 = r416 → wL_law_18 Q L xs n b t x1 x2 (x3 + nI 6) h417) ∧ (¬ (r412 = r416) → Q (nI 0) h417)))) ∧ ((xs (x3).toNatClampNeg &&& nI 63) = nI 45 → vp_in ((x3 + nI 1)) L ∧ hS h x1 = (1, 9) ∧ wX9_count x1 (xs ((x3 + nI 1)).toNatClampNeg) h (fun r420 h421 => vp_in ((x3 + nI 1)) L ∧ hS h421 x2 = (1, 10) ∧ wX10_count x2 (xs ((x3 + nI 1)).toNatClampNeg) h421 (fun r424 h425 => (r420 = r424 → wL_law_18 Q L xs n b t x1 x2 (x3 + nI 6) h425) ∧ (¬ (r420 = r424) → Q (nI 0) h425)))))
set_option maxHeartbeats 4000000 in
set_option maxRecDepth 100000 in
theorem tL_law_18 {Q : Int32 → MH → Prop} {nm : String} {L : Nat} {xs : Nat → Int32} : ∀ (n : Nat) (h : MH) (b t : Nat) (x1 : Nat) (x2 : Nat) (x3 : Int32), wL_law_18 Q L xs n b t x1 x2 x3 h → Wm (ML_law nm L xs) 305 b t 18 [some (.ref 127), some (.ref (x1)), some (.ref (x2)), some (.int (x3))] [] h (pI Q) := by
  intro n
  induction n with
  | zero => intro h b t x1 x2 x3 hw; exact hw.elim
  | succ n ih =>
    intro h b t x1 x2 x3 hw
    unfold wL_law_18 at hw
    refine q_zero (fun hz => ?_)
    replace hw := hw hz
    refine q_iload_n eL_law_18 rfl ?_
    refine q_aload_nr eL_law_19 rfl ?_
    refine q_slen rfl eL_law_20 ?_
    refine q_bipush (v := nI 6) eL_law_21 (by decide) ?_
    refine q_isub eL_law_23 ?_
    obtain ⟨hw1, hw2⟩ := hw
    refine q_icmp_gt (tgt := 1478) eL_law_24 (by decide) (fun c => ?_) (fun c => ?_)
    · have hw := hw1 c
      refine q_iconst (v := nI 1) eL_law_1478 (by decide) ?_
      exact q_retZ rfl (by decide) eL_law_1479 ⟨_, rfl, hw⟩
    · have hw := hw2 c
      refine q_aload_nr eL_law_27 rfl ?_
      refine q_iload_n eL_law_28 rfl ?_
      obtain ⟨hi17, hw⟩ := hw
      refine q_sld rfl hi17 eL_law_29 ?_
      refine q_bipush (v := nI 63) eL_law_30 (by decide) ?_
      refine q_iand eL_law_32 ?_
      obtain ⟨hw0, hw1, hw2, hw3, hw4, hw5, hw6, hw7, hw8, hw9, hw10, hw11, hw12, hw13, hw14, hw15, hw16, hw17, hw18, hw19, hw20, hw21, hw22, hw23, hw24, hw25, hw26, hw27, hw28, hw29, hw30, hw31, hw32, hw33, hw34, hw35, hw36, hw37, hw38, hw39, hw40, hw41, hw42, hw43, hw44, hw45, hw46⟩ := hw
      by_cases hx : ((xs (x3).toNatClampNeg &&& nI 63)).toInt < 0 ∨ 45 < ((xs (x3).toNatClampNeg &&& nI 63)).toInt
      · have hw := hw0 hx
        refine q_tabOut (tgt := 1472) eL_law_33 hx (by decide) ?_
        refine x_iinc (v := (x3 + nI 6)) (ls' := [_, _, _, _]) eL_law_1472 rfl rfl rfl rfl ?_
        refine q_goto (tgt := 18) eL_law_1475 (by decide) ?_
        refine q_le (ls' := [some _, some _, some _, some _]) ⟨rfl, rfl, rfl, rfl, trivial⟩ ?_
        exact ih _ _ _ _ _ _ hw
      · have hk : ((xs (x3).toNatClampNeg &&& nI 63)).toInt = 0 ∨ ((xs (x3).toNatClampNeg &&& nI 63)).toInt = 1 ∨ ((xs (x3).toNatClampNeg &&& nI 63)).toInt = 2 ∨ ((xs (x3).toNatClampNeg &&& nI 63)).toInt = 3 ∨ ((xs (x3).toNatClampNeg &&& nI 63)).toInt = 4 ∨ ((xs (x3).toNatClampNeg &&& nI 63)).toInt = 5 ∨ ((xs (x3).toNatClampNeg &&& nI 63)).toInt = 6 ∨ ((xs (x3).toNatClampNeg &&& nI 63)).toInt = 7 ∨ ((xs (x3).toNatClampNeg &&& nI 63)).toInt = 8 ∨ ((xs (x3).toNatClampNeg &&& nI 63)).toInt = 9 ∨ ((xs (x3).toNatClampNeg &&& nI 63)).toInt = 10 ∨ ((xs (x3).toNatClampNeg &&& nI 63)).toInt = 11 ∨ ((xs (x3).toNatClampNeg &&& nI 63)).toInt = 12 ∨ ((xs (x3).toNatClampNeg &&& nI 63)).toInt = 13 ∨ ((xs (x3).toNatClampNeg &&& nI 63)).toInt = 14 ∨ ((xs (x3).toNatClampNeg &&& nI 63)).toInt = 15 ∨ ((xs (x3).toNatClampNeg &&& nI 63)).toInt = 16 ∨ ((xs (x3).toNatClampNeg &&& nI 63)).toInt = 17 ∨ ((xs (x3).toNatClampNeg &&& nI 63)).toInt = 18 ∨ ((xs (x3).toNatClampNeg &&& nI 63)).toInt = 19 ∨ ((xs (x3).toNatClampNeg &&& nI 63)).toInt = 20 ∨ ((xs (x3).toNatClampNeg &&& nI 63)).toInt = 21 ∨ ((xs (x3).toNatClampNeg &&& nI 63)).toInt = 22 ∨ ((xs (x3).toNatClampNeg &&& nI 63)).toInt = 23 ∨ ((xs (x3).toNatClampNeg &&& nI 63)).toInt = 24 ∨ ((xs (x3).toNatClampNeg &&& nI 63)).toInt = 25 ∨ ((xs (x3).toNatClampNeg &&& nI 63)).toInt = 26 ∨ ((xs (x3).toNatClampNeg &&& nI 63)).toInt = 27 ∨ ((xs (x3).toNatClampNeg &&& nI 63)).toInt = 28 ∨ ((xs (x3).toNatClampNeg &&& nI 63)).toInt = 29 ∨ ((xs (x3).toNatClampNeg &&& nI 63)).toInt = 30 ∨ ((xs (x3).toNatClampNeg &&& nI 63)).toInt = 31 ∨ ((xs (x3).toNatClampNeg &&& nI 63)).toInt = 32 ∨ ((xs (x3).toNatClampNeg &&& nI 63)).toInt = 33 ∨ ((xs (x3).toNatClampNeg &&& nI 63)).toInt = 34 ∨ ((xs (x3).toNatClampNeg &&& nI 63)).toInt = 35 ∨ ((xs (x3).toNatClampNeg &&& nI 63)).toInt = 36 ∨ ((xs (x3).toNatClampNeg &&& nI 63)).toInt = 37 ∨ ((xs (x3).toNatClampNeg &&& nI 63)).toInt = 38 ∨ ((xs (x3).toNatClampNeg &&& nI 63)).toInt = 39 ∨ ((xs (x3).toNatClampNeg &&& nI 63)).toInt = 40 ∨ ((xs (x3).toNatClampNeg &&& nI 63)).toInt = 41 ∨ ((xs (x3).toNatClampNeg &&& nI 63)).toInt = 42 ∨ ((xs (x3).toNatClampNeg &&& nI 63)).toInt = 43 ∨ ((xs (x3).toNatClampNeg &&& nI 63)).toInt = 44 ∨ ((xs (x3).toNatClampNeg &&& nI 63)).toInt = 45 := by omega
        rcases hk with hk | hk | hk | hk | hk | hk | hk | hk | hk | hk | hk | hk | hk | hk | hk | hk | hk | hk | hk | hk | hk | hk | hk | hk | hk | hk | hk | hk | hk | hk | hk | hk | hk | hk | hk | hk | hk | hk | hk | hk | hk | hk | hk | hk | hk | hk
        · have hw := hw1 (x_toInt (by decide) hk)
          refine q_tabIn (off := 199) (tgt := 232) eL_law_33 (by omega) (by omega) (by rw [hk]; rfl) (by decide) ?_
          refine q_aload_nr eL_law_232 rfl ?_
          refine q_aload_nr eL_law_233 rfl ?_
          refine q_iload_n eL_law_234 rfl ?_
          refine q_iconst (v := nI 1) eL_law_235 (by decide) ?_
          refine q_iadd eL_law_236 ?_
          obtain ⟨hi18, hw⟩ := hw
          refine q_sld rfl hi18 eL_law_237 ?_
          refine q_aload_nr eL_law_238 rfl ?_
          refine q_iload_n eL_law_239 rfl ?_
          refine q_iconst (v := nI 2) eL_law_240 (by decide) ?_
          refine q_iadd eL_law_241 ?_
          obtain ⟨hi19, hw⟩ := hw
          refine q_sld rfl hi19 eL_law_242 ?_
          refine q_aload_nr eL_law_243 rfl ?_
          refine q_iload_n eL_law_244 rfl ?_
          refine q_iconst (v := nI 3) eL_law_245 (by decide) ?_
          refine q_iadd eL_law_246 ?_
          obtain ⟨hi20, hw⟩ := hw
          refine q_sld rfl hi20 eL_law_247 ?_
          refine q_aload_nr eL_law_248 rfl ?_
          refine q_iload_n eL_law_249 rfl ?_
          refine q_iconst (v := nI 4) eL_law_250 (by decide) ?_
          refine q_iadd eL_law_251 ?_
          obtain ⟨hi21, hw⟩ := hw
          refine q_sld rfl hi21 eL_law_252 ?_
          refine q_aload_nr eL_law_253 rfl ?_
          refine q_iload_n eL_law_254 rfl ?_
          refine q_iconst (v := nI 5) eL_law_255 (by decide) ?_
          refine q_iadd eL_law_256 ?_
          obtain ⟨hi22, hw⟩ := hw
          refine q_sld rfl hi22 eL_law_257 ?_
          obtain ⟨hs23, hw⟩ := hw
          refine q_bud (b' := b + 0) (t' := t + 0) (Nat.add_zero _) (Nat.add_zero _) ?_
          refine q_callV (b := b) (t := t) (gX9_feed _ _ _ _ _ _ _ _ hw) mlL_13 kX9_feed vX9_feed rfl hs23 ⟨rfl, rfl⟩ (by decide) rfl (Nat.le_of_ble_eq_true rfl) eL_law_258 (kI fun r24 h25 hw => ?_)
          refine q_aload_nr eL_law_261 rfl ?_
          refine q_aload_nr eL_law_262 rfl ?_
          refine q_iload_n eL_law_263 rfl ?_
          refine q_iconst (v := nI 1) eL_law_264 (by decide) ?_
          refine q_iadd eL_law_265 ?_
          obtain ⟨hi26, hw⟩ := hw
          refine q_sld rfl hi26 eL_law_266 ?_
          refine q_aload_nr eL_law_267 rfl ?_
          refine q_iload_n eL_law_268 rfl ?_
          refine q_iconst (v := nI 2) eL_law_269 (by decide) ?_
          refine q_iadd eL_law_270 ?_
          obtain ⟨hi27, hw⟩ := hw
          refine q_sld rfl hi27 eL_law_271 ?_
          refine q_aload_nr eL_law_272 rfl ?_
          refine q_iload_n eL_law_273 rfl ?_
          refine q_iconst (v := nI 3) eL_law_274 (by decide) ?_
          refine q_iadd eL_law_275 ?_
          obtain ⟨hi28, hw⟩ := hw
          refine q_sld rfl hi28 eL_law_276 ?_
          refine q_aload_nr eL_law_277 rfl ?_
          refine q_iload_n eL_law_278 rfl ?_
          refine q_iconst (v := nI 4) eL_law_279 (by decide) ?_
          refine q_iadd eL_law_280 ?_
          obtain ⟨hi29, hw⟩ := hw
          refine q_sld rfl hi29 eL_law_281 ?_
          refine q_aload_nr eL_law_282 rfl ?_
          refine q_iload_n eL_law_283 rfl ?_
          refine q_iconst (v := nI 5) eL_law_284 (by decide) ?_
          refine q_iadd eL_law_285 ?_
          obtain ⟨hi30, hw⟩ := hw
          refine q_sld rfl hi30 eL_law_286 ?_
          obtain ⟨hs31, hw⟩ := hw
          refine q_bud (b' := b + 0) (t' := t + 0) (Nat.add_zero _) (Nat.add_zero _) ?_
          refine q_callV (b := b) (t := t) (gX10_feed _ _ _ _ _ _ _ _ hw) mlL_17 kX10_feed vX10_feed rfl hs31 ⟨rfl, rfl⟩ (by decide) rfl (Nat.le_of_ble_eq_true rfl) eL_law_287 (kI fun r32 h33 hw => ?_)
          obtain ⟨hw1, hw2⟩ := hw
          refine q_icmp_eq (tgt := 1472) eL_law_290 (by decide) (fun c => ?_) (fun c => ?_)
          · have hw := hw1 c
            refine x_iinc (v := (x3 + nI 6)) (ls' := [_, _, _, _]) eL_law_1472 rfl rfl rfl rfl ?_
            refine q_goto (tgt := 18) eL_law_1475 (by decide) ?_
            refine q_le (ls' := [some _, some _, some _, some _]) ⟨rfl, rfl, rfl, rfl, trivial⟩ ?_
            exact ih _ _ _ _ _ _ hw
          · have hw := hw2 c
            refine q_iconst (v := nI 0) eL_law_293 (by decide) ?_
            exact q_retZ rfl (by decide) eL_law_294 ⟨_, rfl, hw⟩
        · have hw := hw2 (x_toInt (by decide) hk)
          refine q_tabIn (off := 262) (tgt := 295) eL_law_33 (by omega) (by omega) (by rw [hk]; rfl) (by decide) ?_
          refine q_aload_nr eL_law_295 rfl ?_
          refine q_aload_nr eL_law_296 rfl ?_
          refine q_iload_n eL_law_297 rfl ?_
          refine q_iconst (v := nI 1) eL_law_298 (by decide) ?_
          refine q_iadd eL_law_299 ?_
          obtain ⟨hi34, hw⟩ := hw
          refine q_sld rfl hi34 eL_law_300 ?_
          obtain ⟨hs35, hw⟩ := hw
          obtain ⟨hc36, hc37, hw⟩ := hw
          refine q_bud (b' := (b - 16) + 16) (t' := (t - 1125) + 1125) (by omega) (by omega) ?_
          refine q_callV (b := (b - 16)) (t := (t - 1125)) (gX9_net 16 1125 _ _ _ _ hw) mlL_18 kX9_net vX9_net rfl hs35 ⟨rfl, rfl⟩ (by decide) rfl (Nat.le_of_ble_eq_true rfl) eL_law_301 (kI fun r38 h39 hw => ?_)
          refine q_aload_nr eL_law_304 rfl ?_
          refine q_aload_nr eL_law_305 rfl ?_
          refine q_iload_n eL_law_306 rfl ?_
          refine q_iconst (v := nI 1) eL_law_307 (by decide) ?_
          refine q_iadd eL_law_308 ?_
          obtain ⟨hi40, hw⟩ := hw
          refine q_sld rfl hi40 eL_law_309 ?_
          obtain ⟨hs41, hw⟩ := hw
          refine q_bud (b' := (b - 16) + 0) (t' := (t - 1125) + 0) (Nat.add_zero _) (Nat.add_zero _) ?_
          refine q_callV (b := (b - 16)) (t := (t - 1125)) (gX10_net _ _ _ _ hw) mlL_22 kX10_net vX10_net rfl hs41 ⟨rfl, rfl⟩ (by decide) rfl (Nat.le_of_ble_eq_true rfl) eL_law_310 (kI fun r42 h43 hw => ?_)
          obtain ⟨hw1, hw2⟩ := hw
          refine q_icmp_eq (tgt := 1472) eL_law_313 (by decide) (fun c => ?_) (fun c => ?_)
          · have hw := hw1 c
            refine x_iinc (v := (x3 + nI 6)) (ls' := [_, _, _, _]) eL_law_1472 rfl rfl rfl rfl ?_
            refine q_goto (tgt := 18) eL_law_1475 (by decide) ?_
            refine q_le (ls' := [some _, some _, some _, some _]) ⟨rfl, rfl, rfl, rfl, trivial⟩ ?_
            exact ih _ _ _ _ _ _ hw
          · have hw := hw2 c
            refine q_iconst (v := nI 0) eL_law_316 (by decide) ?_
            exact q_retZ rfl (by decide) eL_law_317 ⟨_, rfl, hw⟩
        · have hw := hw3 (x_toInt (by decide) hk)
          refine q_tabIn (off := 285) (tgt := 318) eL_law_33 (by omega) (by omega) (by rw [hk]; rfl) (by decide) ?_
          refine q_aload_nr eL_law_318 rfl ?_
          refine q_aload_nr eL_law_319 rfl ?_
          refine q_iload_n eL_law_320 rfl ?_
          refine q_iconst (v := nI 1) eL_law_321 (by decide) ?_
          refine q_iadd eL_law_322 ?_
          obtain ⟨hi44, hw⟩ := hw
          refine q_sld rfl hi44 eL_law_323 ?_
          obtain ⟨hs45, hw⟩ := hw
          refine q_bud (b' := b + 0) (t' := t + 0) (Nat.add_zero _) (Nat.add_zero _) ?_
          refine q_callV (b := b) (t := t) (gX9_fault _ _ _ _ hw) mlL_23 kX9_fault vX9_fault rfl hs45 ⟨rfl, rfl⟩ (by decide) rfl (Nat.le_of_ble_eq_true rfl) eL_law_324 (kI fun r46 h47 hw => ?_)
          refine q_aload_nr eL_law_327 rfl ?_
          refine q_aload_nr eL_law_328 rfl ?_
          refine q_iload_n eL_law_329 rfl ?_
          refine q_iconst (v := nI 1) eL_law_330 (by decide) ?_
          refine q_iadd eL_law_331 ?_
          obtain ⟨hi48, hw⟩ := hw
          refine q_sld rfl hi48 eL_law_332 ?_
          obtain ⟨hs49, hw⟩ := hw
          refine q_bud (b' := b + 0) (t' := t + 0) (Nat.add_zero _) (Nat.add_zero _) ?_
          refine q_callV (b := b) (t := t) (gX10_fault _ _ _ _ hw) mlL_26 kX10_fault vX10_fault rfl hs49 ⟨rfl, rfl⟩ (by decide) rfl (Nat.le_of_ble_eq_true rfl) eL_law_333 (kI fun r50 h51 hw => ?_)
          obtain ⟨hw1, hw2⟩ := hw
          refine q_icmp_eq (tgt := 1472) eL_law_336 (by decide) (fun c => ?_) (fun c => ?_)
          · have hw := hw1 c
            refine x_iinc (v := (x3 + nI 6)) (ls' := [_, _, _, _]) eL_law_1472 rfl rfl rfl rfl ?_
            refine q_goto (tgt := 18) eL_law_1475 (by decide) ?_
            refine q_le (ls' := [some _, some _, some _, some _]) ⟨rfl, rfl, rfl, rfl, trivial⟩ ?_
            exact ih _ _ _ _ _ _ hw
          · have hw := hw2 c
            refine q_iconst (v := nI 0) eL_law_339 (by decide) ?_
            exact q_retZ rfl (by decide) eL_law_340 ⟨_, rfl, hw⟩
        · have hw := hw4 (x_toInt (by decide) hk)
          refine q_tabIn (off := 308) (tgt := 341) eL_law_33 (by omega) (by omega) (by rw [hk]; rfl) (by decide) ?_
          refine q_aload_nr eL_law_341 rfl ?_
          refine q_aload_nr eL_law_342 rfl ?_
          refine q_iload_n eL_law_343 rfl ?_
          refine q_iconst (v := nI 1) eL_law_344 (by decide) ?_
          refine q_iadd eL_law_345 ?_
          obtain ⟨hi52, hw⟩ := hw
          refine q_sld rfl hi52 eL_law_346 ?_
          refine q_aload_nr eL_law_347 rfl ?_
          refine q_iload_n eL_law_348 rfl ?_
          refine q_iconst (v := nI 2) eL_law_349 (by decide) ?_
          refine q_iadd eL_law_350 ?_
          obtain ⟨hi53, hw⟩ := hw
          refine q_sld rfl hi53 eL_law_351 ?_
          obtain ⟨hs54, hw⟩ := hw
          refine q_bud (b' := b + 0) (t' := t + 0) (Nat.add_zero _) (Nat.add_zero _) ?_
          refine q_callV (b := b) (t := t) (gX9_link _ _ _ _ _ hw) mlL_27 kX9_link vX9_link rfl hs54 ⟨rfl, rfl⟩ (by decide) rfl (Nat.le_of_ble_eq_true rfl) eL_law_352 (kI fun r55 h56 hw => ?_)
          refine q_aload_nr eL_law_355 rfl ?_
          refine q_aload_nr eL_law_356 rfl ?_
          refine q_iload_n eL_law_357 rfl ?_
          refine q_iconst (v := nI 1) eL_law_358 (by decide) ?_
          refine q_iadd eL_law_359 ?_
          obtain ⟨hi57, hw⟩ := hw
          refine q_sld rfl hi57 eL_law_360 ?_
          refine q_aload_nr eL_law_361 rfl ?_
          refine q_iload_n eL_law_362 rfl ?_
          refine q_iconst (v := nI 2) eL_law_363 (by decide) ?_
          refine q_iadd eL_law_364 ?_
          obtain ⟨hi58, hw⟩ := hw
          refine q_sld rfl hi58 eL_law_365 ?_
          obtain ⟨hs59, hw⟩ := hw
          refine q_bud (b' := b + 0) (t' := t + 0) (Nat.add_zero _) (Nat.add_zero _) ?_
          refine q_callV (b := b) (t := t) (gX10_link _ _ _ _ _ hw) mlL_31 kX10_link vX10_link rfl hs59 ⟨rfl, rfl⟩ (by decide) rfl (Nat.le_of_ble_eq_true rfl) eL_law_366 (kI fun r60 h61 hw => ?_)
          obtain ⟨hw1, hw2⟩ := hw
          refine q_icmp_eq (tgt := 1472) eL_law_369 (by decide) (fun c => ?_) (fun c => ?_)
          · have hw := hw1 c
            refine x_iinc (v := (x3 + nI 6)) (ls' := [_, _, _, _]) eL_law_1472 rfl rfl rfl rfl ?_
            refine q_goto (tgt := 18) eL_law_1475 (by decide) ?_
            refine q_le (ls' := [some _, some _, some _, some _]) ⟨rfl, rfl, rfl, rfl, trivial⟩ ?_
            exact ih _ _ _ _ _ _ hw
          · have hw := hw2 c
            refine q_iconst (v := nI 0) eL_law_372 (by decide) ?_
            exact q_retZ rfl (by decide) eL_law_373 ⟨_, rfl, hw⟩
        · have hw := hw5 (x_toInt (by decide) hk)
          refine q_tabIn (off := 341) (tgt := 374) eL_law_33 (by omega) (by omega) (by rw [hk]; rfl) (by decide) ?_
          refine q_aload_nr eL_law_374 rfl ?_
          refine q_aload_nr eL_law_375 rfl ?_
          refine q_iload_n eL_law_376 rfl ?_
          refine q_iconst (v := nI 1) eL_law_377 (by decide) ?_
          refine q_iadd eL_law_378 ?_
          obtain ⟨hi62, hw⟩ := hw
          refine q_sld rfl hi62 eL_law_379 ?_
          refine q_aload_nr eL_law_380 rfl ?_
          refine q_iload_n eL_law_381 rfl ?_
          refine q_iconst (v := nI 2) eL_law_382 (by decide) ?_
          refine q_iadd eL_law_383 ?_
          obtain ⟨hi63, hw⟩ := hw
          refine q_sld rfl hi63 eL_law_384 ?_
          obtain ⟨hs64, hw⟩ := hw
          refine q_bud (b' := b + 0) (t' := t + 0) (Nat.add_zero _) (Nat.add_zero _) ?_
          refine q_callV (b := b) (t := t) (gX9_ring _ _ _ _ _ hw) mlL_32 kX9_ring vX9_ring rfl hs64 ⟨rfl, rfl⟩ (by decide) rfl (Nat.le_of_ble_eq_true rfl) eL_law_385 (kI fun r65 h66 hw => ?_)
          refine q_aload_nr eL_law_388 rfl ?_
          refine q_aload_nr eL_law_389 rfl ?_
          refine q_iload_n eL_law_390 rfl ?_
          refine q_iconst (v := nI 1) eL_law_391 (by decide) ?_
          refine q_iadd eL_law_392 ?_
          obtain ⟨hi67, hw⟩ := hw
          refine q_sld rfl hi67 eL_law_393 ?_
          refine q_aload_nr eL_law_394 rfl ?_
          refine q_iload_n eL_law_395 rfl ?_
          refine q_iconst (v := nI 2) eL_law_396 (by decide) ?_
          refine q_iadd eL_law_397 ?_
          obtain ⟨hi68, hw⟩ := hw
          refine q_sld rfl hi68 eL_law_398 ?_
          obtain ⟨hs69, hw⟩ := hw
          refine q_bud (b' := b + 0) (t' := t + 0) (Nat.add_zero _) (Nat.add_zero _) ?_
          refine q_callV (b := b) (t := t) (gX10_ring _ _ _ _ _ hw) mlL_35 kX10_ring vX10_ring rfl hs69 ⟨rfl, rfl⟩ (by decide) rfl (Nat.le_of_ble_eq_true rfl) eL_law_399 (kI fun r70 h71 hw => ?_)
          obtain ⟨hw1, hw2⟩ := hw
          refine q_icmp_eq (tgt := 1472) eL_law_402 (by decide) (fun c => ?_) (fun c => ?_)
          · have hw := hw1 c
            refine x_iinc (v := (x3 + nI 6)) (ls' := [_, _, _, _]) eL_law_1472 rfl rfl rfl rfl ?_
            refine q_goto (tgt := 18) eL_law_1475 (by decide) ?_
            refine q_le (ls' := [some _, some _, some _, some _]) ⟨rfl, rfl, rfl, rfl, trivial⟩ ?_
            exact ih _ _ _ _ _ _ hw
          · have hw := hw2 c
            refine q_iconst (v := nI 0) eL_law_405 (by decide) ?_
            exact q_retZ rfl (by decide) eL_law_406 ⟨_, rfl, hw⟩
        · have hw := hw6 (x_toInt (by decide) hk)
          refine q_tabIn (off := 374) (tgt := 407) eL_law_33 (by omega) (by omega) (by rw [hk]; rfl) (by decide) ?_
          refine q_aload_nr eL_law_407 rfl ?_
          refine q_aload_nr eL_law_408 rfl ?_
          refine q_iload_n eL_law_409 rfl ?_
          refine q_iconst (v := nI 1) eL_law_410 (by decide) ?_
          refine q_iadd eL_law_411 ?_
          obtain ⟨hi72, hw⟩ := hw
          refine q_sld rfl hi72 eL_law_412 ?_
          obtain ⟨hs73, hw⟩ := hw
          refine q_bud (b' := b + 0) (t' := t + 0) (Nat.add_zero _) (Nat.add_zero _) ?_
          refine q_callV (b := b) (t := t) (gX9_ringOf _ _ _ _ hw) mlL_36 kX9_ringOf vX9_ringOf rfl hs73 ⟨rfl, rfl⟩ (by decide) rfl (Nat.le_of_ble_eq_true rfl) eL_law_413 (kI fun r74 h75 hw => ?_)
          refine q_aload_nr eL_law_416 rfl ?_
          refine q_aload_nr eL_law_417 rfl ?_
          refine q_iload_n eL_law_418 rfl ?_
          refine q_iconst (v := nI 1) eL_law_419 (by decide) ?_
          refine q_iadd eL_law_420 ?_
          obtain ⟨hi76, hw⟩ := hw
          refine q_sld rfl hi76 eL_law_421 ?_
          obtain ⟨hs77, hw⟩ := hw
          refine q_bud (b' := b + 0) (t' := t + 0) (Nat.add_zero _) (Nat.add_zero _) ?_
          refine q_callV (b := b) (t := t) (gX10_ringOf _ _ _ _ hw) mlL_39 kX10_ringOf vX10_ringOf rfl hs77 ⟨rfl, rfl⟩ (by decide) rfl (Nat.le_of_ble_eq_true rfl) eL_law_422 (kI fun r78 h79 hw => ?_)
          obtain ⟨hw1, hw2⟩ := hw
          refine q_icmp_eq (tgt := 1472) eL_law_425 (by decide) (fun c => ?_) (fun c => ?_)
          · have hw := hw1 c
            refine x_iinc (v := (x3 + nI 6)) (ls' := [_, _, _, _]) eL_law_1472 rfl rfl rfl rfl ?_
            refine q_goto (tgt := 18) eL_law_1475 (by decide) ?_
            refine q_le (ls' := [some _, some _, some _, some _]) ⟨rfl, rfl, rfl, rfl, trivial⟩ ?_
            exact ih _ _ _ _ _ _ hw
          · have hw := hw2 c
            refine q_iconst (v := nI 0) eL_law_428 (by decide) ?_
            exact q_retZ rfl (by decide) eL_law_429 ⟨_, rfl, hw⟩
        · have hw := hw7 (x_toInt (by decide) hk)
          refine q_tabIn (off := 397) (tgt := 430) eL_law_33 (by omega) (by omega) (by rw [hk]; rfl) (by decide) ?_
          refine q_aload_nr eL_law_430 rfl ?_
          refine q_aload_nr eL_law_431 rfl ?_
          refine q_iload_n eL_law_432 rfl ?_
          refine q_iconst (v := nI 1) eL_law_433 (by decide) ?_
          refine q_iadd eL_law_434 ?_
          obtain ⟨hi80, hw⟩ := hw
          refine q_sld rfl hi80 eL_law_435 ?_
          refine q_aload_nr eL_law_436 rfl ?_
          refine q_iload_n eL_law_437 rfl ?_
          refine q_iconst (v := nI 2) eL_law_438 (by decide) ?_
          refine q_iadd eL_law_439 ?_
          obtain ⟨hi81, hw⟩ := hw
          refine q_sld rfl hi81 eL_law_440 ?_
          obtain ⟨hs82, hw⟩ := hw
          refine q_bud (b' := b + 0) (t' := t + 0) (Nat.add_zero _) (Nat.add_zero _) ?_
          refine q_callV (b := b) (t := t) (gX9_use _ _ _ _ _ hw) mlL_40 kX9_use vX9_use rfl hs82 ⟨rfl, rfl⟩ (by decide) rfl (Nat.le_of_ble_eq_true rfl) eL_law_441 (kI fun r83 h84 hw => ?_)
          refine q_aload_nr eL_law_444 rfl ?_
          refine q_aload_nr eL_law_445 rfl ?_
          refine q_iload_n eL_law_446 rfl ?_
          refine q_iconst (v := nI 1) eL_law_447 (by decide) ?_
          refine q_iadd eL_law_448 ?_
          obtain ⟨hi85, hw⟩ := hw
          refine q_sld rfl hi85 eL_law_449 ?_
          refine q_aload_nr eL_law_450 rfl ?_
          refine q_iload_n eL_law_451 rfl ?_
          refine q_iconst (v := nI 2) eL_law_452 (by decide) ?_
          refine q_iadd eL_law_453 ?_
          obtain ⟨hi86, hw⟩ := hw
          refine q_sld rfl hi86 eL_law_454 ?_
          obtain ⟨hs87, hw⟩ := hw
          refine q_bud (b' := b + 0) (t' := t + 0) (Nat.add_zero _) (Nat.add_zero _) ?_
          refine q_callV (b := b) (t := t) (gX10_use _ _ _ _ _ hw) mlL_43 kX10_use vX10_use rfl hs87 ⟨rfl, rfl⟩ (by decide) rfl (Nat.le_of_ble_eq_true rfl) eL_law_455 (kI fun r88 h89 hw => ?_)
          obtain ⟨hw1, hw2⟩ := hw
          refine q_icmp_eq (tgt := 1472) eL_law_458 (by decide) (fun c => ?_) (fun c => ?_)
          · have hw := hw1 c
            refine x_iinc (v := (x3 + nI 6)) (ls' := [_, _, _, _]) eL_law_1472 rfl rfl rfl rfl ?_
            refine q_goto (tgt := 18) eL_law_1475 (by decide) ?_
            refine q_le (ls' := [some _, some _, some _, some _]) ⟨rfl, rfl, rfl, rfl, trivial⟩ ?_
            exact ih _ _ _ _ _ _ hw
          · have hw := hw2 c
            refine q_iconst (v := nI 0) eL_law_461 (by decide) ?_
            exact q_retZ rfl (by decide) eL_law_462 ⟨_, rfl, hw⟩
        · have hw := hw8 (x_toInt (by decide) hk)
          refine q_tabIn (off := 430) (tgt := 463) eL_law_33 (by omega) (by omega) (by rw [hk]; rfl) (by decide) ?_
          refine q_aload_nr eL_law_463 rfl ?_
          refine q_aload_nr eL_law_464 rfl ?_
          refine q_iload_n eL_law_465 rfl ?_
          refine q_iconst (v := nI 1) eL_law_466 (by decide) ?_
          refine q_iadd eL_law_467 ?_
          obtain ⟨hi90, hw⟩ := hw
          refine q_sld rfl hi90 eL_law_468 ?_
          refine q_aload_nr eL_law_469 rfl ?_
          refine q_iload_n eL_law_470 rfl ?_
          refine q_iconst (v := nI 2) eL_law_471 (by decide) ?_
          refine q_iadd eL_law_472 ?_
          obtain ⟨hi91, hw⟩ := hw
          refine q_sld rfl hi91 eL_law_473 ?_
          refine q_aload_nr eL_law_474 rfl ?_
          refine q_iload_n eL_law_475 rfl ?_
          refine q_iconst (v := nI 3) eL_law_476 (by decide) ?_
          refine q_iadd eL_law_477 ?_
          obtain ⟨hi92, hw⟩ := hw
          refine q_sld rfl hi92 eL_law_478 ?_
          obtain ⟨hs93, hw⟩ := hw
          refine q_bud (b' := b + 0) (t' := t + 0) (Nat.add_zero _) (Nat.add_zero _) ?_
          refine q_callV (b := b) (t := t) (gX9_path _ _ _ _ _ _ hw) mlL_44 kX9_path vX9_path rfl hs93 ⟨rfl, rfl⟩ (by decide) rfl (Nat.le_of_ble_eq_true rfl) eL_law_479 (kI fun r94 h95 hw => ?_)
          refine q_aload_nr eL_law_482 rfl ?_
          refine q_aload_nr eL_law_483 rfl ?_
          refine q_iload_n eL_law_484 rfl ?_
          refine q_iconst (v := nI 1) eL_law_485 (by decide) ?_
          refine q_iadd eL_law_486 ?_
          obtain ⟨hi96, hw⟩ := hw
          refine q_sld rfl hi96 eL_law_487 ?_
          refine q_aload_nr eL_law_488 rfl ?_
          refine q_iload_n eL_law_489 rfl ?_
          refine q_iconst (v := nI 2) eL_law_490 (by decide) ?_
          refine q_iadd eL_law_491 ?_
          obtain ⟨hi97, hw⟩ := hw
          refine q_sld rfl hi97 eL_law_492 ?_
          refine q_aload_nr eL_law_493 rfl ?_
          refine q_iload_n eL_law_494 rfl ?_
          refine q_iconst (v := nI 3) eL_law_495 (by decide) ?_
          refine q_iadd eL_law_496 ?_
          obtain ⟨hi98, hw⟩ := hw
          refine q_sld rfl hi98 eL_law_497 ?_
          obtain ⟨hs99, hw⟩ := hw
          refine q_bud (b' := b + 0) (t' := t + 0) (Nat.add_zero _) (Nat.add_zero _) ?_
          refine q_callV (b := b) (t := t) (gX10_path _ _ _ _ _ _ hw) mlL_48 kX10_path vX10_path rfl hs99 ⟨rfl, rfl⟩ (by decide) rfl (Nat.le_of_ble_eq_true rfl) eL_law_498 (kI fun r100 h101 hw => ?_)
          obtain ⟨hw1, hw2⟩ := hw
          refine q_icmp_eq (tgt := 1472) eL_law_501 (by decide) (fun c => ?_) (fun c => ?_)
          · have hw := hw1 c
            refine x_iinc (v := (x3 + nI 6)) (ls' := [_, _, _, _]) eL_law_1472 rfl rfl rfl rfl ?_
            refine q_goto (tgt := 18) eL_law_1475 (by decide) ?_
            refine q_le (ls' := [some _, some _, some _, some _]) ⟨rfl, rfl, rfl, rfl, trivial⟩ ?_
            exact ih _ _ _ _ _ _ hw
          · have hw := hw2 c
            refine q_iconst (v := nI 0) eL_law_504 (by decide) ?_
            exact q_retZ rfl (by decide) eL_law_505 ⟨_, rfl, hw⟩
        · have hw := hw9 (x_toInt (by decide) hk)
          refine q_tabIn (off := 473) (tgt := 506) eL_law_33 (by omega) (by omega) (by rw [hk]; rfl) (by decide) ?_
          refine q_aload_nr eL_law_506 rfl ?_
          refine q_aload_nr eL_law_507 rfl ?_
          refine q_iload_n eL_law_508 rfl ?_
          refine q_iconst (v := nI 1) eL_law_509 (by decide) ?_
          refine q_iadd eL_law_510 ?_
          obtain ⟨hi102, hw⟩ := hw
          refine q_sld rfl hi102 eL_law_511 ?_
          obtain ⟨hs103, hw⟩ := hw
          refine q_bud (b' := b + 0) (t' := t + 0) (Nat.add_zero _) (Nat.add_zero _) ?_
          refine q_callV (b := b) (t := t) (gX9_lay _ _ _ _ hw) mlL_49 kX9_lay vX9_lay rfl hs103 ⟨rfl, rfl⟩ (by decide) rfl (Nat.le_of_ble_eq_true rfl) eL_law_512 (kI fun r104 h105 hw => ?_)
          refine q_aload_nr eL_law_515 rfl ?_
          refine q_aload_nr eL_law_516 rfl ?_
          refine q_iload_n eL_law_517 rfl ?_
          refine q_iconst (v := nI 1) eL_law_518 (by decide) ?_
          refine q_iadd eL_law_519 ?_
          obtain ⟨hi106, hw⟩ := hw
          refine q_sld rfl hi106 eL_law_520 ?_
          obtain ⟨hs107, hw⟩ := hw
          refine q_bud (b' := b + 0) (t' := t + 0) (Nat.add_zero _) (Nat.add_zero _) ?_
          refine q_callV (b := b) (t := t) (gX10_lay _ _ _ _ hw) mlL_52 kX10_lay vX10_lay rfl hs107 ⟨rfl, rfl⟩ (by decide) rfl (Nat.le_of_ble_eq_true rfl) eL_law_521 (kI fun r108 h109 hw => ?_)
          obtain ⟨hw1, hw2⟩ := hw
          refine q_icmp_eq (tgt := 1472) eL_law_524 (by decide) (fun c => ?_) (fun c => ?_)
          · have hw := hw1 c
            refine x_iinc (v := (x3 + nI 6)) (ls' := [_, _, _, _]) eL_law_1472 rfl rfl rfl rfl ?_
            refine q_goto (tgt := 18) eL_law_1475 (by decide) ?_
            refine q_le (ls' := [some _, some _, some _, some _]) ⟨rfl, rfl, rfl, rfl, trivial⟩ ?_
            exact ih _ _ _ _ _ _ hw
          · have hw := hw2 c
            refine q_iconst (v := nI 0) eL_law_527 (by decide) ?_
            exact q_retZ rfl (by decide) eL_law_528 ⟨_, rfl, hw⟩
        · have hw := hw10 (x_toInt (by decide) hk)
          refine q_tabIn (off := 496) (tgt := 529) eL_law_33 (by omega) (by omega) (by rw [hk]; rfl) (by decide) ?_
          refine q_aload_nr eL_law_529 rfl ?_
          refine q_aload_nr eL_law_530 rfl ?_
          refine q_iload_n eL_law_531 rfl ?_
          refine q_iconst (v := nI 1) eL_law_532 (by decide) ?_
          refine q_iadd eL_law_533 ?_
          obtain ⟨hi110, hw⟩ := hw
          refine q_sld rfl hi110 eL_law_534 ?_
          obtain ⟨hs111, hw⟩ := hw
          refine q_bud (b' := b + 0) (t' := t + 0) (Nat.add_zero _) (Nat.add_zero _) ?_
          refine q_callV (b := b) (t := t) (gX9_take _ _ _ _ hw) mlL_53 kX9_take vX9_take rfl hs111 ⟨rfl, rfl⟩ (by decide) rfl (Nat.le_of_ble_eq_true rfl) eL_law_535 (kI fun r112 h113 hw => ?_)
          refine q_aload_nr eL_law_538 rfl ?_
          refine q_aload_nr eL_law_539 rfl ?_
          refine q_iload_n eL_law_540 rfl ?_
          refine q_iconst (v := nI 1) eL_law_541 (by decide) ?_
          refine q_iadd eL_law_542 ?_
          obtain ⟨hi114, hw⟩ := hw
          refine q_sld rfl hi114 eL_law_543 ?_
          obtain ⟨hs115, hw⟩ := hw
          refine q_bud (b' := b + 0) (t' := t + 0) (Nat.add_zero _) (Nat.add_zero _) ?_
          refine q_callV (b := b) (t := t) (gX10_take _ _ _ _ hw) mlL_56 kX10_take vX10_take rfl hs115 ⟨rfl, rfl⟩ (by decide) rfl (Nat.le_of_ble_eq_true rfl) eL_law_544 (kI fun r116 h117 hw => ?_)
          obtain ⟨hw1, hw2⟩ := hw
          refine q_icmp_eq (tgt := 1472) eL_law_547 (by decide) (fun c => ?_) (fun c => ?_)
          · have hw := hw1 c
            refine x_iinc (v := (x3 + nI 6)) (ls' := [_, _, _, _]) eL_law_1472 rfl rfl rfl rfl ?_
            refine q_goto (tgt := 18) eL_law_1475 (by decide) ?_
            refine q_le (ls' := [some _, some _, some _, some _]) ⟨rfl, rfl, rfl, rfl, trivial⟩ ?_
            exact ih _ _ _ _ _ _ hw
          · have hw := hw2 c
            refine q_iconst (v := nI 0) eL_law_550 (by decide) ?_
            exact q_retZ rfl (by decide) eL_law_551 ⟨_, rfl, hw⟩
        · have hw := hw11 (x_toInt (by decide) hk)
          refine q_tabIn (off := 519) (tgt := 552) eL_law_33 (by omega) (by omega) (by rw [hk]; rfl) (by decide) ?_
          refine q_aload_nr eL_law_552 rfl ?_
          refine q_aload_nr eL_law_553 rfl ?_
          refine q_iload_n eL_law_554 rfl ?_
          refine q_iconst (v := nI 1) eL_law_555 (by decide) ?_
          refine q_iadd eL_law_556 ?_
          obtain ⟨hi118, hw⟩ := hw
          refine q_sld rfl hi118 eL_law_557 ?_
          obtain ⟨hs119, hw⟩ := hw
          refine q_bud (b' := b + 0) (t' := t + 0) (Nat.add_zero _) (Nat.add_zero _) ?_
          refine q_callV (b := b) (t := t) (gX9_fail _ _ _ _ hw) mlL_57 kX9_fail vX9_fail rfl hs119 ⟨rfl, rfl⟩ (by decide) rfl (Nat.le_of_ble_eq_true rfl) eL_law_558 (kI fun r120 h121 hw => ?_)
          refine q_aload_nr eL_law_561 rfl ?_
          refine q_aload_nr eL_law_562 rfl ?_
          refine q_iload_n eL_law_563 rfl ?_
          refine q_iconst (v := nI 1) eL_law_564 (by decide) ?_
          refine q_iadd eL_law_565 ?_
          obtain ⟨hi122, hw⟩ := hw
          refine q_sld rfl hi122 eL_law_566 ?_
          obtain ⟨hs123, hw⟩ := hw
          refine q_bud (b' := b + 0) (t' := t + 0) (Nat.add_zero _) (Nat.add_zero _) ?_
          refine q_callV (b := b) (t := t) (gX10_fail _ _ _ _ hw) mlL_60 kX10_fail vX10_fail rfl hs123 ⟨rfl, rfl⟩ (by decide) rfl (Nat.le_of_ble_eq_true rfl) eL_law_567 (kI fun r124 h125 hw => ?_)
          obtain ⟨hw1, hw2⟩ := hw
          refine q_icmp_eq (tgt := 1472) eL_law_570 (by decide) (fun c => ?_) (fun c => ?_)
          · have hw := hw1 c
            refine x_iinc (v := (x3 + nI 6)) (ls' := [_, _, _, _]) eL_law_1472 rfl rfl rfl rfl ?_
            refine q_goto (tgt := 18) eL_law_1475 (by decide) ?_
            refine q_le (ls' := [some _, some _, some _, some _]) ⟨rfl, rfl, rfl, rfl, trivial⟩ ?_
            exact ih _ _ _ _ _ _ hw
          · have hw := hw2 c
            refine q_iconst (v := nI 0) eL_law_573 (by decide) ?_
            exact q_retZ rfl (by decide) eL_law_574 ⟨_, rfl, hw⟩
        · have hw := hw12 (x_toInt (by decide) hk)
          refine q_tabIn (off := 542) (tgt := 575) eL_law_33 (by omega) (by omega) (by rw [hk]; rfl) (by decide) ?_
          refine q_aload_nr eL_law_575 rfl ?_
          refine q_aload_nr eL_law_576 rfl ?_
          refine q_iload_n eL_law_577 rfl ?_
          refine q_iconst (v := nI 1) eL_law_578 (by decide) ?_
          refine q_iadd eL_law_579 ?_
          obtain ⟨hi126, hw⟩ := hw
          refine q_sld rfl hi126 eL_law_580 ?_
          obtain ⟨hs127, hw⟩ := hw
          refine q_bud (b' := b + 0) (t' := t + 0) (Nat.add_zero _) (Nat.add_zero _) ?_
          refine q_callV (b := b) (t := t) (gX9_mend _ _ _ _ hw) mlL_61 kX9_mend vX9_mend rfl hs127 ⟨rfl, rfl⟩ (by decide) rfl (Nat.le_of_ble_eq_true rfl) eL_law_581 (kI fun r128 h129 hw => ?_)
          refine q_aload_nr eL_law_584 rfl ?_
          refine q_aload_nr eL_law_585 rfl ?_
          refine q_iload_n eL_law_586 rfl ?_
          refine q_iconst (v := nI 1) eL_law_587 (by decide) ?_
          refine q_iadd eL_law_588 ?_
          obtain ⟨hi130, hw⟩ := hw
          refine q_sld rfl hi130 eL_law_589 ?_
          obtain ⟨hs131, hw⟩ := hw
          refine q_bud (b' := b + 0) (t' := t + 0) (Nat.add_zero _) (Nat.add_zero _) ?_
          refine q_callV (b := b) (t := t) (gX10_mend _ _ _ _ hw) mlL_64 kX10_mend vX10_mend rfl hs131 ⟨rfl, rfl⟩ (by decide) rfl (Nat.le_of_ble_eq_true rfl) eL_law_590 (kI fun r132 h133 hw => ?_)
          obtain ⟨hw1, hw2⟩ := hw
          refine q_icmp_eq (tgt := 1472) eL_law_593 (by decide) (fun c => ?_) (fun c => ?_)
          · have hw := hw1 c
            refine x_iinc (v := (x3 + nI 6)) (ls' := [_, _, _, _]) eL_law_1472 rfl rfl rfl rfl ?_
            refine q_goto (tgt := 18) eL_law_1475 (by decide) ?_
            refine q_le (ls' := [some _, some _, some _, some _]) ⟨rfl, rfl, rfl, rfl, trivial⟩ ?_
            exact ih _ _ _ _ _ _ hw
          · have hw := hw2 c
            refine q_iconst (v := nI 0) eL_law_596 (by decide) ?_
            exact q_retZ rfl (by decide) eL_law_597 ⟨_, rfl, hw⟩
        · have hw := hw13 (x_toInt (by decide) hk)
          refine q_tabIn (off := 565) (tgt := 598) eL_law_33 (by omega) (by omega) (by rw [hk]; rfl) (by decide) ?_
          refine q_aload_nr eL_law_598 rfl ?_
          refine q_aload_nr eL_law_599 rfl ?_
          refine q_iload_n eL_law_600 rfl ?_
          refine q_iconst (v := nI 1) eL_law_601 (by decide) ?_
          refine q_iadd eL_law_602 ?_
          obtain ⟨hi134, hw⟩ := hw
          refine q_sld rfl hi134 eL_law_603 ?_
          obtain ⟨hs135, hw⟩ := hw
          refine q_bud (b' := b + 0) (t' := t + 0) (Nat.add_zero _) (Nat.add_zero _) ?_
          refine q_callV (b := b) (t := t) (gX9_rate _ _ _ _ hw) mlL_65 kX9_rate vX9_rate rfl hs135 ⟨rfl, rfl⟩ (by decide) rfl (Nat.le_of_ble_eq_true rfl) eL_law_604 (kI fun r136 h137 hw => ?_)
          refine q_aload_nr eL_law_607 rfl ?_
          refine q_aload_nr eL_law_608 rfl ?_
          refine q_iload_n eL_law_609 rfl ?_
          refine q_iconst (v := nI 1) eL_law_610 (by decide) ?_
          refine q_iadd eL_law_611 ?_
          obtain ⟨hi138, hw⟩ := hw
          refine q_sld rfl hi138 eL_law_612 ?_
          obtain ⟨hs139, hw⟩ := hw
          refine q_bud (b' := b + 0) (t' := t + 0) (Nat.add_zero _) (Nat.add_zero _) ?_
          refine q_callV (b := b) (t := t) (gX10_rate _ _ _ _ hw) mlL_68 kX10_rate vX10_rate rfl hs139 ⟨rfl, rfl⟩ (by decide) rfl (Nat.le_of_ble_eq_true rfl) eL_law_613 (kI fun r140 h141 hw => ?_)
          obtain ⟨hw1, hw2⟩ := hw
          refine q_icmp_eq (tgt := 1472) eL_law_616 (by decide) (fun c => ?_) (fun c => ?_)
          · have hw := hw1 c
            refine x_iinc (v := (x3 + nI 6)) (ls' := [_, _, _, _]) eL_law_1472 rfl rfl rfl rfl ?_
            refine q_goto (tgt := 18) eL_law_1475 (by decide) ?_
            refine q_le (ls' := [some _, some _, some _, some _]) ⟨rfl, rfl, rfl, rfl, trivial⟩ ?_
            exact ih _ _ _ _ _ _ hw
          · have hw := hw2 c
            refine q_iconst (v := nI 0) eL_law_619 (by decide) ?_
            exact q_retZ rfl (by decide) eL_law_620 ⟨_, rfl, hw⟩
        · have hw := hw14 (x_toInt (by decide) hk)
          refine q_tabIn (off := 588) (tgt := 621) eL_law_33 (by omega) (by omega) (by rw [hk]; rfl) (by decide) ?_
          refine q_aload_nr eL_law_621 rfl ?_
          refine q_aload_nr eL_law_622 rfl ?_
          refine q_iload_n eL_law_623 rfl ?_
          refine q_iconst (v := nI 1) eL_law_624 (by decide) ?_
          refine q_iadd eL_law_625 ?_
          obtain ⟨hi142, hw⟩ := hw
          refine q_sld rfl hi142 eL_law_626 ?_
          obtain ⟨hs143, hw⟩ := hw
          refine q_bud (b' := b + 0) (t' := t + 0) (Nat.add_zero _) (Nat.add_zero _) ?_
          refine q_callV (b := b) (t := t) (gX9_undo _ _ _ _ hw) mlL_69 kX9_undo vX9_undo rfl hs143 ⟨rfl, rfl⟩ (by decide) rfl (Nat.le_of_ble_eq_true rfl) eL_law_627 (kI fun r144 h145 hw => ?_)
          refine q_aload_nr eL_law_630 rfl ?_
          refine q_aload_nr eL_law_631 rfl ?_
          refine q_iload_n eL_law_632 rfl ?_
          refine q_iconst (v := nI 1) eL_law_633 (by decide) ?_
          refine q_iadd eL_law_634 ?_
          obtain ⟨hi146, hw⟩ := hw
          refine q_sld rfl hi146 eL_law_635 ?_
          obtain ⟨hs147, hw⟩ := hw
          refine q_bud (b' := b + 0) (t' := t + 0) (Nat.add_zero _) (Nat.add_zero _) ?_
          refine q_callV (b := b) (t := t) (gX10_undo _ _ _ _ hw) mlL_72 kX10_undo vX10_undo rfl hs147 ⟨rfl, rfl⟩ (by decide) rfl (Nat.le_of_ble_eq_true rfl) eL_law_636 (kI fun r148 h149 hw => ?_)
          obtain ⟨hw1, hw2⟩ := hw
          refine q_icmp_eq (tgt := 1472) eL_law_639 (by decide) (fun c => ?_) (fun c => ?_)
          · have hw := hw1 c
            refine x_iinc (v := (x3 + nI 6)) (ls' := [_, _, _, _]) eL_law_1472 rfl rfl rfl rfl ?_
            refine q_goto (tgt := 18) eL_law_1475 (by decide) ?_
            refine q_le (ls' := [some _, some _, some _, some _]) ⟨rfl, rfl, rfl, rfl, trivial⟩ ?_
            exact ih _ _ _ _ _ _ hw
          · have hw := hw2 c
            refine q_iconst (v := nI 0) eL_law_642 (by decide) ?_
            exact q_retZ rfl (by decide) eL_law_643 ⟨_, rfl, hw⟩
        · have hw := hw15 (x_toInt (by decide) hk)
          refine q_tabIn (off := 611) (tgt := 644) eL_law_33 (by omega) (by omega) (by rw [hk]; rfl) (by decide) ?_
          refine q_aload_nr eL_law_644 rfl ?_
          refine q_aload_nr eL_law_645 rfl ?_
          refine q_iload_n eL_law_646 rfl ?_
          refine q_iconst (v := nI 1) eL_law_647 (by decide) ?_
          refine q_iadd eL_law_648 ?_
          obtain ⟨hi150, hw⟩ := hw
          refine q_sld rfl hi150 eL_law_649 ?_
          refine q_aload_nr eL_law_650 rfl ?_
          refine q_iload_n eL_law_651 rfl ?_
          refine q_iconst (v := nI 2) eL_law_652 (by decide) ?_
          refine q_iadd eL_law_653 ?_
          obtain ⟨hi151, hw⟩ := hw
          refine q_sld rfl hi151 eL_law_654 ?_
          obtain ⟨hs152, hw⟩ := hw
          refine q_bud (b' := b + 0) (t' := t + 0) (Nat.add_zero _) (Nat.add_zero _) ?_
          refine q_callV (b := b) (t := t) (gX9_judge _ _ _ _ _ hw) mlL_73 kX9_judge vX9_judge rfl hs152 ⟨rfl, rfl⟩ (by decide) rfl (Nat.le_of_ble_eq_true rfl) eL_law_655 (kI fun r153 h154 hw => ?_)
          refine q_aload_nr eL_law_658 rfl ?_
          refine q_aload_nr eL_law_659 rfl ?_
          refine q_iload_n eL_law_660 rfl ?_
          refine q_iconst (v := nI 1) eL_law_661 (by decide) ?_
          refine q_iadd eL_law_662 ?_
          obtain ⟨hi155, hw⟩ := hw
          refine q_sld rfl hi155 eL_law_663 ?_
          refine q_aload_nr eL_law_664 rfl ?_
          refine q_iload_n eL_law_665 rfl ?_
          refine q_iconst (v := nI 2) eL_law_666 (by decide) ?_
          refine q_iadd eL_law_667 ?_
          obtain ⟨hi156, hw⟩ := hw
          refine q_sld rfl hi156 eL_law_668 ?_
          obtain ⟨hs157, hw⟩ := hw
          refine q_bud (b' := b + 0) (t' := t + 0) (Nat.add_zero _) (Nat.add_zero _) ?_
          refine q_callV (b := b) (t := t) (gX10_judge _ _ _ _ _ hw) mlL_76 kX10_judge vX10_judge rfl hs157 ⟨rfl, rfl⟩ (by decide) rfl (Nat.le_of_ble_eq_true rfl) eL_law_669 (kI fun r158 h159 hw => ?_)
          obtain ⟨hw1, hw2⟩ := hw
          refine q_icmp_eq (tgt := 1472) eL_law_672 (by decide) (fun c => ?_) (fun c => ?_)
          · have hw := hw1 c
            refine x_iinc (v := (x3 + nI 6)) (ls' := [_, _, _, _]) eL_law_1472 rfl rfl rfl rfl ?_
            refine q_goto (tgt := 18) eL_law_1475 (by decide) ?_
            refine q_le (ls' := [some _, some _, some _, some _]) ⟨rfl, rfl, rfl, rfl, trivial⟩ ?_
            exact ih _ _ _ _ _ _ hw
          · have hw := hw2 c
            refine q_iconst (v := nI 0) eL_law_675 (by decide) ?_
            exact q_retZ rfl (by decide) eL_law_676 ⟨_, rfl, hw⟩
        · have hw := hw16 (x_toInt (by decide) hk)
          refine q_tabIn (off := 644) (tgt := 677) eL_law_33 (by omega) (by omega) (by rw [hk]; rfl) (by decide) ?_
          refine q_aload_nr eL_law_677 rfl ?_
          refine q_aload_nr eL_law_678 rfl ?_
          refine q_iload_n eL_law_679 rfl ?_
          refine q_iconst (v := nI 1) eL_law_680 (by decide) ?_
          refine q_iadd eL_law_681 ?_
          obtain ⟨hi160, hw⟩ := hw
          refine q_sld rfl hi160 eL_law_682 ?_
          obtain ⟨hs161, hw⟩ := hw
          refine q_bud (b' := b + 0) (t' := t + 0) (Nat.add_zero _) (Nat.add_zero _) ?_
          refine q_callV (b := b) (t := t) (gX9_perform _ _ _ _ hw) mlL_77 kX9_perform vX9_perform rfl hs161 ⟨rfl, rfl⟩ (by decide) rfl (Nat.le_of_ble_eq_true rfl) eL_law_683 (kI fun r162 h163 hw => ?_)
          refine q_aload_nr eL_law_686 rfl ?_
          refine q_aload_nr eL_law_687 rfl ?_
          refine q_iload_n eL_law_688 rfl ?_
          refine q_iconst (v := nI 1) eL_law_689 (by decide) ?_
          refine q_iadd eL_law_690 ?_
          obtain ⟨hi164, hw⟩ := hw
          refine q_sld rfl hi164 eL_law_691 ?_
          obtain ⟨hs165, hw⟩ := hw
          refine q_bud (b' := b + 0) (t' := t + 0) (Nat.add_zero _) (Nat.add_zero _) ?_
          refine q_callV (b := b) (t := t) (gX10_perform _ _ _ _ hw) mlL_80 kX10_perform vX10_perform rfl hs165 ⟨rfl, rfl⟩ (by decide) rfl (Nat.le_of_ble_eq_true rfl) eL_law_692 (kI fun r166 h167 hw => ?_)
          obtain ⟨hw1, hw2⟩ := hw
          refine q_icmp_eq (tgt := 1472) eL_law_695 (by decide) (fun c => ?_) (fun c => ?_)
          · have hw := hw1 c
            refine x_iinc (v := (x3 + nI 6)) (ls' := [_, _, _, _]) eL_law_1472 rfl rfl rfl rfl ?_
            refine q_goto (tgt := 18) eL_law_1475 (by decide) ?_
            refine q_le (ls' := [some _, some _, some _, some _]) ⟨rfl, rfl, rfl, rfl, trivial⟩ ?_
            exact ih _ _ _ _ _ _ hw
          · have hw := hw2 c
            refine q_iconst (v := nI 0) eL_law_698 (by decide) ?_
            exact q_retZ rfl (by decide) eL_law_699 ⟨_, rfl, hw⟩
        · have hw := hw17 (x_toInt (by decide) hk)
          refine q_tabIn (off := 667) (tgt := 700) eL_law_33 (by omega) (by omega) (by rw [hk]; rfl) (by decide) ?_
          refine q_aload_nr eL_law_700 rfl ?_
          refine q_aload_nr eL_law_701 rfl ?_
          refine q_iload_n eL_law_702 rfl ?_
          refine q_iconst (v := nI 1) eL_law_703 (by decide) ?_
          refine q_iadd eL_law_704 ?_
          obtain ⟨hi168, hw⟩ := hw
          refine q_sld rfl hi168 eL_law_705 ?_
          refine q_aload_nr eL_law_706 rfl ?_
          refine q_iload_n eL_law_707 rfl ?_
          refine q_iconst (v := nI 2) eL_law_708 (by decide) ?_
          refine q_iadd eL_law_709 ?_
          obtain ⟨hi169, hw⟩ := hw
          refine q_sld rfl hi169 eL_law_710 ?_
          obtain ⟨hs170, hw⟩ := hw
          refine q_bud (b' := b + 0) (t' := t + 0) (Nat.add_zero _) (Nat.add_zero _) ?_
          refine q_callV (b := b) (t := t) (gX9_year _ _ _ _ _ hw) mlL_81 kX9_year vX9_year rfl hs170 ⟨rfl, rfl⟩ (by decide) rfl (Nat.le_of_ble_eq_true rfl) eL_law_711 (kI fun r171 h172 hw => ?_)
          refine q_aload_nr eL_law_714 rfl ?_
          refine q_aload_nr eL_law_715 rfl ?_
          refine q_iload_n eL_law_716 rfl ?_
          refine q_iconst (v := nI 1) eL_law_717 (by decide) ?_
          refine q_iadd eL_law_718 ?_
          obtain ⟨hi173, hw⟩ := hw
          refine q_sld rfl hi173 eL_law_719 ?_
          refine q_aload_nr eL_law_720 rfl ?_
          refine q_iload_n eL_law_721 rfl ?_
          refine q_iconst (v := nI 2) eL_law_722 (by decide) ?_
          refine q_iadd eL_law_723 ?_
          obtain ⟨hi174, hw⟩ := hw
          refine q_sld rfl hi174 eL_law_724 ?_
          obtain ⟨hs175, hw⟩ := hw
          refine q_bud (b' := b + 0) (t' := t + 0) (Nat.add_zero _) (Nat.add_zero _) ?_
          refine q_callV (b := b) (t := t) (gX10_year _ _ _ _ _ hw) mlL_84 kX10_year vX10_year rfl hs175 ⟨rfl, rfl⟩ (by decide) rfl (Nat.le_of_ble_eq_true rfl) eL_law_725 (kI fun r176 h177 hw => ?_)
          obtain ⟨hw1, hw2⟩ := hw
          refine q_icmp_eq (tgt := 1472) eL_law_728 (by decide) (fun c => ?_) (fun c => ?_)
          · have hw := hw1 c
            refine x_iinc (v := (x3 + nI 6)) (ls' := [_, _, _, _]) eL_law_1472 rfl rfl rfl rfl ?_
            refine q_goto (tgt := 18) eL_law_1475 (by decide) ?_
            refine q_le (ls' := [some _, some _, some _, some _]) ⟨rfl, rfl, rfl, rfl, trivial⟩ ?_
            exact ih _ _ _ _ _ _ hw
          · have hw := hw2 c
            refine q_iconst (v := nI 0) eL_law_731 (by decide) ?_
            exact q_retZ rfl (by decide) eL_law_732 ⟨_, rfl, hw⟩
        · have hw := hw18 (x_toInt (by decide) hk)
          refine q_tabIn (off := 700) (tgt := 733) eL_law_33 (by omega) (by omega) (by rw [hk]; rfl) (by decide) ?_
          refine q_aload_nr eL_law_733 rfl ?_
          obtain ⟨hs178, hw⟩ := hw
          refine q_bud (b' := b + 0) (t' := t + 0) (Nat.add_zero _) (Nat.add_zero _) ?_
          refine q_callV (b := b) (t := t) (gX9_isCover _ _ _ hw) mlL_85 kX9_isCover vX9_isCover rfl hs178 ⟨rfl, rfl⟩ (by decide) rfl (Nat.le_of_ble_eq_true rfl) eL_law_734 (kI fun r179 h180 hw => ?_)
          refine q_aload_nr eL_law_737 rfl ?_
          obtain ⟨hs181, hw⟩ := hw
          refine q_bud (b' := b + 0) (t' := t + 0) (Nat.add_zero _) (Nat.add_zero _) ?_
          refine q_callV (b := b) (t := t) (gX10_isCover _ _ _ hw) mlL_89 kX10_isCover vX10_isCover rfl hs181 ⟨rfl, rfl⟩ (by decide) rfl (Nat.le_of_ble_eq_true rfl) eL_law_738 (kI fun r182 h183 hw => ?_)
          obtain ⟨hw1, hw2⟩ := hw
          refine q_icmp_eq (tgt := 1472) eL_law_741 (by decide) (fun c => ?_) (fun c => ?_)
          · have hw := hw1 c
            refine x_iinc (v := (x3 + nI 6)) (ls' := [_, _, _, _]) eL_law_1472 rfl rfl rfl rfl ?_
            refine q_goto (tgt := 18) eL_law_1475 (by decide) ?_
            refine q_le (ls' := [some _, some _, some _, some _]) ⟨rfl, rfl, rfl, rfl, trivial⟩ ?_
            exact ih _ _ _ _ _ _ hw
          · have hw := hw2 c
            refine q_iconst (v := nI 0) eL_law_744 (by decide) ?_
            exact q_retZ rfl (by decide) eL_law_745 ⟨_, rfl, hw⟩
        · have hw := hw19 (x_toInt (by decide) hk)
          refine q_tabIn (off := 713) (tgt := 746) eL_law_33 (by omega) (by omega) (by rw [hk]; rfl) (by decide) ?_
          refine q_aload_nr eL_law_746 rfl ?_
          obtain ⟨hs184, hw⟩ := hw
          refine q_bud (b' := b + 0) (t' := t + 0) (Nat.add_zero _) (Nat.add_zero _) ?_
          refine q_callV (b := b) (t := t) (gX9_cost _ _ _ hw) mlL_90 kX9_cost vX9_cost rfl hs184 ⟨rfl, rfl⟩ (by decide) rfl (Nat.le_of_ble_eq_true rfl) eL_law_747 (kI fun r185 h186 hw => ?_)
          refine q_aload_nr eL_law_750 rfl ?_
          obtain ⟨hs187, hw⟩ := hw
          refine q_bud (b' := b + 0) (t' := t + 0) (Nat.add_zero _) (Nat.add_zero _) ?_
          refine q_callV (b := b) (t := t) (gX10_cost _ _ _ hw) mlL_93 kX10_cost vX10_cost rfl hs187 ⟨rfl, rfl⟩ (by decide) rfl (Nat.le_of_ble_eq_true rfl) eL_law_751 (kI fun r188 h189 hw => ?_)
          obtain ⟨hw1, hw2⟩ := hw
          refine q_icmp_eq (tgt := 1472) eL_law_754 (by decide) (fun c => ?_) (fun c => ?_)
          · have hw := hw1 c
            refine x_iinc (v := (x3 + nI 6)) (ls' := [_, _, _, _]) eL_law_1472 rfl rfl rfl rfl ?_
            refine q_goto (tgt := 18) eL_law_1475 (by decide) ?_
            refine q_le (ls' := [some _, some _, some _, some _]) ⟨rfl, rfl, rfl, rfl, trivial⟩ ?_
            exact ih _ _ _ _ _ _ hw
          · have hw := hw2 c
            refine q_iconst (v := nI 0) eL_law_757 (by decide) ?_
            exact q_retZ rfl (by decide) eL_law_758 ⟨_, rfl, hw⟩
        · have hw := hw20 (x_toInt (by decide) hk)
          refine q_tabIn (off := 726) (tgt := 759) eL_law_33 (by omega) (by omega) (by rw [hk]; rfl) (by decide) ?_
          refine q_aload_nr eL_law_759 rfl ?_
          refine q_aload_nr eL_law_760 rfl ?_
          refine q_iload_n eL_law_761 rfl ?_
          refine q_iconst (v := nI 1) eL_law_762 (by decide) ?_
          refine q_iadd eL_law_763 ?_
          obtain ⟨hi190, hw⟩ := hw
          refine q_sld rfl hi190 eL_law_764 ?_
          refine q_aload_nr eL_law_765 rfl ?_
          refine q_iload_n eL_law_766 rfl ?_
          refine q_iconst (v := nI 2) eL_law_767 (by decide) ?_
          refine q_iadd eL_law_768 ?_
          obtain ⟨hi191, hw⟩ := hw
          refine q_sld rfl hi191 eL_law_769 ?_
          obtain ⟨hs192, hw⟩ := hw
          obtain ⟨hc193, hc194, hw⟩ := hw
          refine q_bud (b' := (b - 1) + 1) (t' := (t - 2048) + 2048) (by omega) (by omega) ?_
          refine q_callV (b := (b - 1)) (t := (t - 2048)) (gX9_yet 1 2048 _ _ _ _ _ hw) mlL_94 kX9_yet vX9_yet rfl hs192 ⟨rfl, rfl⟩ (by decide) rfl (Nat.le_of_ble_eq_true rfl) eL_law_770 (kI fun r195 h196 hw => ?_)
          refine q_aload_nr eL_law_773 rfl ?_
          refine q_aload_nr eL_law_774 rfl ?_
          refine q_iload_n eL_law_775 rfl ?_
          refine q_iconst (v := nI 1) eL_law_776 (by decide) ?_
          refine q_iadd eL_law_777 ?_
          obtain ⟨hi197, hw⟩ := hw
          refine q_sld rfl hi197 eL_law_778 ?_
          refine q_aload_nr eL_law_779 rfl ?_
          refine q_iload_n eL_law_780 rfl ?_
          refine q_iconst (v := nI 2) eL_law_781 (by decide) ?_
          refine q_iadd eL_law_782 ?_
          obtain ⟨hi198, hw⟩ := hw
          refine q_sld rfl hi198 eL_law_783 ?_
          obtain ⟨hs199, hw⟩ := hw
          refine q_bud (b' := (b - 1) + 0) (t' := (t - 2048) + 0) (Nat.add_zero _) (Nat.add_zero _) ?_
          refine q_callV (b := (b - 1)) (t := (t - 2048)) (gX10_yet _ _ _ _ _ hw) mlL_97 kX10_yet vX10_yet rfl hs199 ⟨rfl, rfl⟩ (by decide) rfl (Nat.le_of_ble_eq_true rfl) eL_law_784 (kI fun r200 h201 hw => ?_)
          obtain ⟨hw1, hw2⟩ := hw
          refine q_icmp_eq (tgt := 1472) eL_law_787 (by decide) (fun c => ?_) (fun c => ?_)
          · have hw := hw1 c
            refine x_iinc (v := (x3 + nI 6)) (ls' := [_, _, _, _]) eL_law_1472 rfl rfl rfl rfl ?_
            refine q_goto (tgt := 18) eL_law_1475 (by decide) ?_
            refine q_le (ls' := [some _, some _, some _, some _]) ⟨rfl, rfl, rfl, rfl, trivial⟩ ?_
            exact ih _ _ _ _ _ _ hw
          · have hw := hw2 c
            refine q_iconst (v := nI 0) eL_law_790 (by decide) ?_
            exact q_retZ rfl (by decide) eL_law_791 ⟨_, rfl, hw⟩
        · have hw := hw21 (x_toInt (by decide) hk)
          refine q_tabIn (off := 759) (tgt := 792) eL_law_33 (by omega) (by omega) (by rw [hk]; rfl) (by decide) ?_
          refine q_aload_nr eL_law_792 rfl ?_
          refine q_aload_nr eL_law_793 rfl ?_
          refine q_iload_n eL_law_794 rfl ?_
          refine q_iconst (v := nI 1) eL_law_795 (by decide) ?_
          refine q_iadd eL_law_796 ?_
          obtain ⟨hi202, hw⟩ := hw
          refine q_sld rfl hi202 eL_law_797 ?_
          refine q_aload_nr eL_law_798 rfl ?_
          refine q_iload_n eL_law_799 rfl ?_
          refine q_iconst (v := nI 2) eL_law_800 (by decide) ?_
          refine q_iadd eL_law_801 ?_
          obtain ⟨hi203, hw⟩ := hw
          refine q_sld rfl hi203 eL_law_802 ?_
          obtain ⟨hs204, hw⟩ := hw
          obtain ⟨hc205, hc206, hw⟩ := hw
          refine q_bud (b' := (b - 1) + 1) (t' := (t - 2048) + 2048) (by omega) (by omega) ?_
          refine q_callV (b := (b - 1)) (t := (t - 2048)) (gX9_among 1 2048 _ _ _ _ _ hw) mlL_98 kX9_among vX9_among rfl hs204 ⟨rfl, rfl⟩ (by decide) rfl (Nat.le_of_ble_eq_true rfl) eL_law_803 (kI fun r207 h208 hw => ?_)
          refine q_aload_nr eL_law_806 rfl ?_
          refine q_aload_nr eL_law_807 rfl ?_
          refine q_iload_n eL_law_808 rfl ?_
          refine q_iconst (v := nI 1) eL_law_809 (by decide) ?_
          refine q_iadd eL_law_810 ?_
          obtain ⟨hi209, hw⟩ := hw
          refine q_sld rfl hi209 eL_law_811 ?_
          refine q_aload_nr eL_law_812 rfl ?_
          refine q_iload_n eL_law_813 rfl ?_
          refine q_iconst (v := nI 2) eL_law_814 (by decide) ?_
          refine q_iadd eL_law_815 ?_
          obtain ⟨hi210, hw⟩ := hw
          refine q_sld rfl hi210 eL_law_816 ?_
          obtain ⟨hs211, hw⟩ := hw
          refine q_bud (b' := (b - 1) + 0) (t' := (t - 2048) + 0) (Nat.add_zero _) (Nat.add_zero _) ?_
          refine q_callV (b := (b - 1)) (t := (t - 2048)) (gX10_among _ _ _ _ _ hw) mlL_101 kX10_among vX10_among rfl hs211 ⟨rfl, rfl⟩ (by decide) rfl (Nat.le_of_ble_eq_true rfl) eL_law_817 (kI fun r212 h213 hw => ?_)
          obtain ⟨hw1, hw2⟩ := hw
          refine q_icmp_eq (tgt := 1472) eL_law_820 (by decide) (fun c => ?_) (fun c => ?_)
          · have hw := hw1 c
            refine x_iinc (v := (x3 + nI 6)) (ls' := [_, _, _, _]) eL_law_1472 rfl rfl rfl rfl ?_
            refine q_goto (tgt := 18) eL_law_1475 (by decide) ?_
            refine q_le (ls' := [some _, some _, some _, some _]) ⟨rfl, rfl, rfl, rfl, trivial⟩ ?_
            exact ih _ _ _ _ _ _ hw
          · have hw := hw2 c
            refine q_iconst (v := nI 0) eL_law_823 (by decide) ?_
            exact q_retZ rfl (by decide) eL_law_824 ⟨_, rfl, hw⟩
        · have hw := hw22 (x_toInt (by decide) hk)
          refine q_tabIn (off := 792) (tgt := 825) eL_law_33 (by omega) (by omega) (by rw [hk]; rfl) (by decide) ?_
          refine q_aload_nr eL_law_825 rfl ?_
          refine q_aload_nr eL_law_826 rfl ?_
          refine q_iload_n eL_law_827 rfl ?_
          refine q_iconst (v := nI 1) eL_law_828 (by decide) ?_
          refine q_iadd eL_law_829 ?_
          obtain ⟨hi214, hw⟩ := hw
          refine q_sld rfl hi214 eL_law_830 ?_
          obtain ⟨hs215, hw⟩ := hw
          refine q_bud (b' := b + 0) (t' := t + 0) (Nat.add_zero _) (Nat.add_zero _) ?_
          refine q_callV (b := b) (t := t) (gX9_bound _ _ _ _ hw) mlL_102 kX9_bound vX9_bound rfl hs215 ⟨rfl, rfl⟩ (by decide) rfl (Nat.le_of_ble_eq_true rfl) eL_law_831 (kL fun r216 h217 hw => ?_)
          refine q_aload_nr eL_law_834 rfl ?_
          refine q_aload_nr eL_law_835 rfl ?_
          refine q_iload_n eL_law_836 rfl ?_
          refine q_iconst (v := nI 1) eL_law_837 (by decide) ?_
          refine q_iadd eL_law_838 ?_
          obtain ⟨hi218, hw⟩ := hw
          refine q_sld rfl hi218 eL_law_839 ?_
          obtain ⟨hs219, hw⟩ := hw
          refine q_bud (b' := b + 0) (t' := t + 0) (Nat.add_zero _) (Nat.add_zero _) ?_
          refine q_callV (b := b) (t := t) (gX10_bound _ _ _ _ hw) mlL_106 kX10_bound vX10_bound rfl hs219 ⟨rfl, rfl⟩ (by decide) rfl (Nat.le_of_ble_eq_true rfl) eL_law_840 (kL fun r220 h221 hw => ?_)
          refine q_lcmp eL_law_843 ?_
          obtain ⟨hw1, hw2⟩ := hw
          refine q_if_eq (tgt := 1472) eL_law_844 (by decide) (fun c => ?_) (fun c => ?_)
          · have hw := hw1 c
            refine x_iinc (v := (x3 + nI 6)) (ls' := [_, _, _, _]) eL_law_1472 rfl rfl rfl rfl ?_
            refine q_goto (tgt := 18) eL_law_1475 (by decide) ?_
            refine q_le (ls' := [some _, some _, some _, some _]) ⟨rfl, rfl, rfl, rfl, trivial⟩ ?_
            exact ih _ _ _ _ _ _ hw
          · have hw := hw2 c
            refine q_iconst (v := nI 0) eL_law_847 (by decide) ?_
            exact q_retZ rfl (by decide) eL_law_848 ⟨_, rfl, hw⟩
        · have hw := hw23 (x_toInt (by decide) hk)
          refine q_tabIn (off := 816) (tgt := 849) eL_law_33 (by omega) (by omega) (by rw [hk]; rfl) (by decide) ?_
          refine q_aload_nr eL_law_849 rfl ?_
          refine q_aload_nr eL_law_850 rfl ?_
          refine q_iload_n eL_law_851 rfl ?_
          refine q_iconst (v := nI 1) eL_law_852 (by decide) ?_
          refine q_iadd eL_law_853 ?_
          obtain ⟨hi222, hw⟩ := hw
          refine q_sld rfl hi222 eL_law_854 ?_
          obtain ⟨hs223, hw⟩ := hw
          refine q_bud (b' := b + 0) (t' := t + 0) (Nat.add_zero _) (Nat.add_zero _) ?_
          refine q_callV (b := b) (t := t) (gX9_covers _ _ _ _ hw) mlL_107 kX9_covers vX9_covers rfl hs223 ⟨rfl, rfl⟩ (by decide) rfl (Nat.le_of_ble_eq_true rfl) eL_law_855 (kI fun r224 h225 hw => ?_)
          refine q_aload_nr eL_law_858 rfl ?_
          refine q_aload_nr eL_law_859 rfl ?_
          refine q_iload_n eL_law_860 rfl ?_
          refine q_iconst (v := nI 1) eL_law_861 (by decide) ?_
          refine q_iadd eL_law_862 ?_
          obtain ⟨hi226, hw⟩ := hw
          refine q_sld rfl hi226 eL_law_863 ?_
          obtain ⟨hs227, hw⟩ := hw
          refine q_bud (b' := b + 0) (t' := t + 0) (Nat.add_zero _) (Nat.add_zero _) ?_
          refine q_callV (b := b) (t := t) (gX10_covers _ _ _ _ hw) mlL_110 kX10_covers vX10_covers rfl hs227 ⟨rfl, rfl⟩ (by decide) rfl (Nat.le_of_ble_eq_true rfl) eL_law_864 (kI fun r228 h229 hw => ?_)
          obtain ⟨hw1, hw2⟩ := hw
          refine q_icmp_eq (tgt := 1472) eL_law_867 (by decide) (fun c => ?_) (fun c => ?_)
          · have hw := hw1 c
            refine x_iinc (v := (x3 + nI 6)) (ls' := [_, _, _, _]) eL_law_1472 rfl rfl rfl rfl ?_
            refine q_goto (tgt := 18) eL_law_1475 (by decide) ?_
            refine q_le (ls' := [some _, some _, some _, some _]) ⟨rfl, rfl, rfl, rfl, trivial⟩ ?_
            exact ih _ _ _ _ _ _ hw
          · have hw := hw2 c
            refine q_iconst (v := nI 0) eL_law_870 (by decide) ?_
            exact q_retZ rfl (by decide) eL_law_871 ⟨_, rfl, hw⟩
        · have hw := hw24 (x_toInt (by decide) hk)
          refine q_tabIn (off := 839) (tgt := 872) eL_law_33 (by omega) (by omega) (by rw [hk]; rfl) (by decide) ?_
          refine q_aload_nr eL_law_872 rfl ?_
          obtain ⟨hs230, hw⟩ := hw
          refine q_bud (b' := b + 0) (t' := t + 0) (Nat.add_zero _) (Nat.add_zero _) ?_
          refine q_callV (b := b) (t := t) (gX9_best _ _ _ hw) mlL_111 kX9_best vX9_best rfl hs230 ⟨rfl, rfl⟩ (by decide) rfl (Nat.le_of_ble_eq_true rfl) eL_law_873 (kI fun r231 h232 hw => ?_)
          refine q_aload_nr eL_law_876 rfl ?_
          obtain ⟨hs233, hw⟩ := hw
          refine q_bud (b' := b + 0) (t' := t + 0) (Nat.add_zero _) (Nat.add_zero _) ?_
          refine q_callV (b := b) (t := t) (gX10_best _ _ _ hw) mlL_114 kX10_best vX10_best rfl hs233 ⟨rfl, rfl⟩ (by decide) rfl (Nat.le_of_ble_eq_true rfl) eL_law_877 (kI fun r234 h235 hw => ?_)
          obtain ⟨hw1, hw2⟩ := hw
          refine q_icmp_eq (tgt := 1472) eL_law_880 (by decide) (fun c => ?_) (fun c => ?_)
          · have hw := hw1 c
            refine x_iinc (v := (x3 + nI 6)) (ls' := [_, _, _, _]) eL_law_1472 rfl rfl rfl rfl ?_
            refine q_goto (tgt := 18) eL_law_1475 (by decide) ?_
            refine q_le (ls' := [some _, some _, some _, some _]) ⟨rfl, rfl, rfl, rfl, trivial⟩ ?_
            exact ih _ _ _ _ _ _ hw
          · have hw := hw2 c
            refine q_iconst (v := nI 0) eL_law_883 (by decide) ?_
            exact q_retZ rfl (by decide) eL_law_884 ⟨_, rfl, hw⟩
        · have hw := hw25 (x_toInt (by decide) hk)
          refine q_tabIn (off := 852) (tgt := 885) eL_law_33 (by omega) (by omega) (by rw [hk]; rfl) (by decide) ?_
          refine q_aload_nr eL_law_885 rfl ?_
          obtain ⟨hs236, hw⟩ := hw
          refine q_bud (b' := b + 0) (t' := t + 0) (Nat.add_zero _) (Nat.add_zero _) ?_
          refine q_callV (b := b) (t := t) (gX9_spare _ _ _ hw) mlL_115 kX9_spare vX9_spare rfl hs236 ⟨rfl, rfl⟩ (by decide) rfl (Nat.le_of_ble_eq_true rfl) eL_law_886 (kI fun r237 h238 hw => ?_)
          refine q_aload_nr eL_law_889 rfl ?_
          obtain ⟨hs239, hw⟩ := hw
          refine q_bud (b' := b + 0) (t' := t + 0) (Nat.add_zero _) (Nat.add_zero _) ?_
          refine q_callV (b := b) (t := t) (gX10_spare _ _ _ hw) mlL_118 kX10_spare vX10_spare rfl hs239 ⟨rfl, rfl⟩ (by decide) rfl (Nat.le_of_ble_eq_true rfl) eL_law_890 (kI fun r240 h241 hw => ?_)
          obtain ⟨hw1, hw2⟩ := hw
          refine q_icmp_eq (tgt := 1472) eL_law_893 (by decide) (fun c => ?_) (fun c => ?_)
          · have hw := hw1 c
            refine x_iinc (v := (x3 + nI 6)) (ls' := [_, _, _, _]) eL_law_1472 rfl rfl rfl rfl ?_
            refine q_goto (tgt := 18) eL_law_1475 (by decide) ?_
            refine q_le (ls' := [some _, some _, some _, some _]) ⟨rfl, rfl, rfl, rfl, trivial⟩ ?_
            exact ih _ _ _ _ _ _ hw
          · have hw := hw2 c
            refine q_iconst (v := nI 0) eL_law_896 (by decide) ?_
            exact q_retZ rfl (by decide) eL_law_897 ⟨_, rfl, hw⟩
        · have hw := hw26 (x_toInt (by decide) hk)
          refine q_tabIn (off := 865) (tgt := 898) eL_law_33 (by omega) (by omega) (by rw [hk]; rfl) (by decide) ?_
          refine q_aload_nr eL_law_898 rfl ?_
          refine q_aload_nr eL_law_899 rfl ?_
          refine q_iload_n eL_law_900 rfl ?_
          refine q_iconst (v := nI 1) eL_law_901 (by decide) ?_
          refine q_iadd eL_law_902 ?_
          obtain ⟨hi242, hw⟩ := hw
          refine q_sld rfl hi242 eL_law_903 ?_
          refine q_aload_nr eL_law_904 rfl ?_
          refine q_iload_n eL_law_905 rfl ?_
          refine q_iconst (v := nI 2) eL_law_906 (by decide) ?_
          refine q_iadd eL_law_907 ?_
          obtain ⟨hi243, hw⟩ := hw
          refine q_sld rfl hi243 eL_law_908 ?_
          refine q_aload_nr eL_law_909 rfl ?_
          refine q_iload_n eL_law_910 rfl ?_
          refine q_iconst (v := nI 3) eL_law_911 (by decide) ?_
          refine q_iadd eL_law_912 ?_
          obtain ⟨hi244, hw⟩ := hw
          refine q_sld rfl hi244 eL_law_913 ?_
          obtain ⟨hs245, hw⟩ := hw
          refine q_bud (b' := b + 0) (t' := t + 0) (Nat.add_zero _) (Nat.add_zero _) ?_
          refine q_callV (b := b) (t := t) (gX9_runs _ _ _ _ _ _ hw) mlL_119 kX9_runs vX9_runs rfl hs245 ⟨rfl, rfl⟩ (by decide) rfl (Nat.le_of_ble_eq_true rfl) eL_law_914 (kI fun r246 h247 hw => ?_)
          refine q_aload_nr eL_law_917 rfl ?_
          refine q_aload_nr eL_law_918 rfl ?_
          refine q_iload_n eL_law_919 rfl ?_
          refine q_iconst (v := nI 1) eL_law_920 (by decide) ?_
          refine q_iadd eL_law_921 ?_
          obtain ⟨hi248, hw⟩ := hw
          refine q_sld rfl hi248 eL_law_922 ?_
          refine q_aload_nr eL_law_923 rfl ?_
          refine q_iload_n eL_law_924 rfl ?_
          refine q_iconst (v := nI 2) eL_law_925 (by decide) ?_
          refine q_iadd eL_law_926 ?_
          obtain ⟨hi249, hw⟩ := hw
          refine q_sld rfl hi249 eL_law_927 ?_
          refine q_aload_nr eL_law_928 rfl ?_
          refine q_iload_n eL_law_929 rfl ?_
          refine q_iconst (v := nI 3) eL_law_930 (by decide) ?_
          refine q_iadd eL_law_931 ?_
          obtain ⟨hi250, hw⟩ := hw
          refine q_sld rfl hi250 eL_law_932 ?_
          obtain ⟨hs251, hw⟩ := hw
          refine q_bud (b' := b + 0) (t' := t + 0) (Nat.add_zero _) (Nat.add_zero _) ?_
          refine q_callV (b := b) (t := t) (gX10_runs _ _ _ _ _ _ hw) mlL_122 kX10_runs vX10_runs rfl hs251 ⟨rfl, rfl⟩ (by decide) rfl (Nat.le_of_ble_eq_true rfl) eL_law_933 (kI fun r252 h253 hw => ?_)
          obtain ⟨hw1, hw2⟩ := hw
          refine q_icmp_eq (tgt := 1472) eL_law_936 (by decide) (fun c => ?_) (fun c => ?_)
          · have hw := hw1 c
            refine x_iinc (v := (x3 + nI 6)) (ls' := [_, _, _, _]) eL_law_1472 rfl rfl rfl rfl ?_
            refine q_goto (tgt := 18) eL_law_1475 (by decide) ?_
            refine q_le (ls' := [some _, some _, some _, some _]) ⟨rfl, rfl, rfl, rfl, trivial⟩ ?_
            exact ih _ _ _ _ _ _ hw
          · have hw := hw2 c
            refine q_iconst (v := nI 0) eL_law_939 (by decide) ?_
            exact q_retZ rfl (by decide) eL_law_940 ⟨_, rfl, hw⟩
        · have hw := hw27 (x_toInt (by decide) hk)
          refine q_tabIn (off := 908) (tgt := 941) eL_law_33 (by omega) (by omega) (by rw [hk]; rfl) (by decide) ?_
          refine q_aload_nr eL_law_941 rfl ?_
          obtain ⟨hs254, hw⟩ := hw
          refine q_bud (b' := b + 0) (t' := t + 0) (Nat.add_zero _) (Nat.add_zero _) ?_
          refine q_callV (b := b) (t := t) (gX9_lost _ _ _ hw) mlL_123 kX9_lost vX9_lost rfl hs254 ⟨rfl, rfl⟩ (by decide) rfl (Nat.le_of_ble_eq_true rfl) eL_law_942 (kI fun r255 h256 hw => ?_)
          refine q_aload_nr eL_law_945 rfl ?_
          obtain ⟨hs257, hw⟩ := hw
          refine q_bud (b' := b + 0) (t' := t + 0) (Nat.add_zero _) (Nat.add_zero _) ?_
          refine q_callV (b := b) (t := t) (gX10_lost _ _ _ hw) mlL_126 kX10_lost vX10_lost rfl hs257 ⟨rfl, rfl⟩ (by decide) rfl (Nat.le_of_ble_eq_true rfl) eL_law_946 (kI fun r258 h259 hw => ?_)
          obtain ⟨hw1, hw2⟩ := hw
          refine q_icmp_eq (tgt := 1472) eL_law_949 (by decide) (fun c => ?_) (fun c => ?_)
          · have hw := hw1 c
            refine x_iinc (v := (x3 + nI 6)) (ls' := [_, _, _, _]) eL_law_1472 rfl rfl rfl rfl ?_
            refine q_goto (tgt := 18) eL_law_1475 (by decide) ?_
            refine q_le (ls' := [some _, some _, some _, some _]) ⟨rfl, rfl, rfl, rfl, trivial⟩ ?_
            exact ih _ _ _ _ _ _ hw
          · have hw := hw2 c
            refine q_iconst (v := nI 0) eL_law_952 (by decide) ?_
            exact q_retZ rfl (by decide) eL_law_953 ⟨_, rfl, hw⟩
        · have hw := hw28 (x_toInt (by decide) hk)
          refine q_tabIn (off := 921) (tgt := 954) eL_law_33 (by omega) (by omega) (by rw [hk]; rfl) (by decide) ?_
          refine q_aload_nr eL_law_954 rfl ?_
          refine q_aload_nr eL_law_955 rfl ?_
          refine q_iload_n eL_law_956 rfl ?_
          refine q_iconst (v := nI 1) eL_law_957 (by decide) ?_
          refine q_iadd eL_law_958 ?_
          obtain ⟨hi260, hw⟩ := hw
          refine q_sld rfl hi260 eL_law_959 ?_
          obtain ⟨hs261, hw⟩ := hw
          refine q_bud (b' := b + 0) (t' := t + 0) (Nat.add_zero _) (Nat.add_zero _) ?_
          refine q_callV (b := b) (t := t) (gX9_ifFails _ _ _ _ hw) mlL_127 kX9_ifFails vX9_ifFails rfl hs261 ⟨rfl, rfl⟩ (by decide) rfl (Nat.le_of_ble_eq_true rfl) eL_law_960 (kI fun r262 h263 hw => ?_)
          refine q_aload_nr eL_law_963 rfl ?_
          refine q_aload_nr eL_law_964 rfl ?_
          refine q_iload_n eL_law_965 rfl ?_
          refine q_iconst (v := nI 1) eL_law_966 (by decide) ?_
          refine q_iadd eL_law_967 ?_
          obtain ⟨hi264, hw⟩ := hw
          refine q_sld rfl hi264 eL_law_968 ?_
          obtain ⟨hs265, hw⟩ := hw
          refine q_bud (b' := b + 0) (t' := t + 0) (Nat.add_zero _) (Nat.add_zero _) ?_
          refine q_callV (b := b) (t := t) (gX10_ifFails _ _ _ _ hw) mlL_130 kX10_ifFails vX10_ifFails rfl hs265 ⟨rfl, rfl⟩ (by decide) rfl (Nat.le_of_ble_eq_true rfl) eL_law_969 (kI fun r266 h267 hw => ?_)
          obtain ⟨hw1, hw2⟩ := hw
          refine q_icmp_eq (tgt := 1472) eL_law_972 (by decide) (fun c => ?_) (fun c => ?_)
          · have hw := hw1 c
            refine x_iinc (v := (x3 + nI 6)) (ls' := [_, _, _, _]) eL_law_1472 rfl rfl rfl rfl ?_
            refine q_goto (tgt := 18) eL_law_1475 (by decide) ?_
            refine q_le (ls' := [some _, some _, some _, some _]) ⟨rfl, rfl, rfl, rfl, trivial⟩ ?_
            exact ih _ _ _ _ _ _ hw
          · have hw := hw2 c
            refine q_iconst (v := nI 0) eL_law_975 (by decide) ?_
            exact q_retZ rfl (by decide) eL_law_976 ⟨_, rfl, hw⟩
        · have hw := hw29 (x_toInt (by decide) hk)
          refine q_tabIn (off := 944) (tgt := 977) eL_law_33 (by omega) (by omega) (by rw [hk]; rfl) (by decide) ?_
          refine q_aload_nr eL_law_977 rfl ?_
          obtain ⟨hs268, hw⟩ := hw
          refine q_bud (b' := b + 0) (t' := t + 0) (Nat.add_zero _) (Nat.add_zero _) ?_
          refine q_callV (b := b) (t := t) (gX9_worst _ _ _ hw) mlL_131 kX9_worst vX9_worst rfl hs268 ⟨rfl, rfl⟩ (by decide) rfl (Nat.le_of_ble_eq_true rfl) eL_law_978 (kI fun r269 h270 hw => ?_)
          refine q_aload_nr eL_law_981 rfl ?_
          obtain ⟨hs271, hw⟩ := hw
          refine q_bud (b' := b + 0) (t' := t + 0) (Nat.add_zero _) (Nat.add_zero _) ?_
          refine q_callV (b := b) (t := t) (gX10_worst _ _ _ hw) mlL_134 kX10_worst vX10_worst rfl hs271 ⟨rfl, rfl⟩ (by decide) rfl (Nat.le_of_ble_eq_true rfl) eL_law_982 (kI fun r272 h273 hw => ?_)
          obtain ⟨hw1, hw2⟩ := hw
          refine q_icmp_eq (tgt := 1472) eL_law_985 (by decide) (fun c => ?_) (fun c => ?_)
          · have hw := hw1 c
            refine x_iinc (v := (x3 + nI 6)) (ls' := [_, _, _, _]) eL_law_1472 rfl rfl rfl rfl ?_
            refine q_goto (tgt := 18) eL_law_1475 (by decide) ?_
            refine q_le (ls' := [some _, some _, some _, some _]) ⟨rfl, rfl, rfl, rfl, trivial⟩ ?_
            exact ih _ _ _ _ _ _ hw
          · have hw := hw2 c
            refine q_iconst (v := nI 0) eL_law_988 (by decide) ?_
            exact q_retZ rfl (by decide) eL_law_989 ⟨_, rfl, hw⟩
        · have hw := hw30 (x_toInt (by decide) hk)
          refine q_tabIn (off := 957) (tgt := 990) eL_law_33 (by omega) (by omega) (by rw [hk]; rfl) (by decide) ?_
          refine q_aload_nr eL_law_990 rfl ?_
          refine q_aload_nr eL_law_991 rfl ?_
          refine q_iload_n eL_law_992 rfl ?_
          refine q_iconst (v := nI 1) eL_law_993 (by decide) ?_
          refine q_iadd eL_law_994 ?_
          obtain ⟨hi274, hw⟩ := hw
          refine q_sld rfl hi274 eL_law_995 ?_
          refine q_aload_nr eL_law_996 rfl ?_
          refine q_iload_n eL_law_997 rfl ?_
          refine q_iconst (v := nI 2) eL_law_998 (by decide) ?_
          refine q_iadd eL_law_999 ?_
          obtain ⟨hi275, hw⟩ := hw
          refine q_sld rfl hi275 eL_law_1000 ?_
          obtain ⟨hs276, hw⟩ := hw
          refine q_bud (b' := b + 0) (t' := t + 0) (Nat.add_zero _) (Nat.add_zero _) ?_
          refine q_callV (b := b) (t := t) (gX9_two _ _ _ _ _ hw) mlL_135 kX9_two vX9_two rfl hs276 ⟨rfl, rfl⟩ (by decide) rfl (Nat.le_of_ble_eq_true rfl) eL_law_1001 (kI fun r277 h278 hw => ?_)
          refine q_aload_nr eL_law_1004 rfl ?_
          refine q_aload_nr eL_law_1005 rfl ?_
          refine q_iload_n eL_law_1006 rfl ?_
          refine q_iconst (v := nI 1) eL_law_1007 (by decide) ?_
          refine q_iadd eL_law_1008 ?_
          obtain ⟨hi279, hw⟩ := hw
          refine q_sld rfl hi279 eL_law_1009 ?_
          refine q_aload_nr eL_law_1010 rfl ?_
          refine q_iload_n eL_law_1011 rfl ?_
          refine q_iconst (v := nI 2) eL_law_1012 (by decide) ?_
          refine q_iadd eL_law_1013 ?_
          obtain ⟨hi280, hw⟩ := hw
          refine q_sld rfl hi280 eL_law_1014 ?_
          obtain ⟨hs281, hw⟩ := hw
          refine q_bud (b' := b + 0) (t' := t + 0) (Nat.add_zero _) (Nat.add_zero _) ?_
          refine q_callV (b := b) (t := t) (gX10_two _ _ _ _ _ hw) mlL_138 kX10_two vX10_two rfl hs281 ⟨rfl, rfl⟩ (by decide) rfl (Nat.le_of_ble_eq_true rfl) eL_law_1015 (kI fun r282 h283 hw => ?_)
          obtain ⟨hw1, hw2⟩ := hw
          refine q_icmp_eq (tgt := 1472) eL_law_1018 (by decide) (fun c => ?_) (fun c => ?_)
          · have hw := hw1 c
            refine x_iinc (v := (x3 + nI 6)) (ls' := [_, _, _, _]) eL_law_1472 rfl rfl rfl rfl ?_
            refine q_goto (tgt := 18) eL_law_1475 (by decide) ?_
            refine q_le (ls' := [some _, some _, some _, some _]) ⟨rfl, rfl, rfl, rfl, trivial⟩ ?_
            exact ih _ _ _ _ _ _ hw
          · have hw := hw2 c
            refine q_iconst (v := nI 0) eL_law_1021 (by decide) ?_
            exact q_retZ rfl (by decide) eL_law_1022 ⟨_, rfl, hw⟩
        · have hw := hw31 (x_toInt (by decide) hk)
          refine q_tabIn (off := 990) (tgt := 1023) eL_law_33 (by omega) (by omega) (by rw [hk]; rfl) (by decide) ?_
          refine q_aload_nr eL_law_1023 rfl ?_
          refine q_aload_nr eL_law_1024 rfl ?_
          refine q_iload_n eL_law_1025 rfl ?_
          refine q_iconst (v := nI 1) eL_law_1026 (by decide) ?_
          refine q_iadd eL_law_1027 ?_
          obtain ⟨hi284, hw⟩ := hw
          refine q_sld rfl hi284 eL_law_1028 ?_
          obtain ⟨hs285, hw⟩ := hw
          refine q_bud (b' := b + 0) (t' := t + 0) (Nat.add_zero _) (Nat.add_zero _) ?_
          refine q_callV (b := b) (t := t) (gX9_twos _ _ _ _ hw) mlL_139 kX9_twos vX9_twos rfl hs285 ⟨rfl, rfl⟩ (by decide) rfl (Nat.le_of_ble_eq_true rfl) eL_law_1029 (kI fun r286 h287 hw => ?_)
          refine q_aload_nr eL_law_1032 rfl ?_
          refine q_aload_nr eL_law_1033 rfl ?_
          refine q_iload_n eL_law_1034 rfl ?_
          refine q_iconst (v := nI 1) eL_law_1035 (by decide) ?_
          refine q_iadd eL_law_1036 ?_
          obtain ⟨hi288, hw⟩ := hw
          refine q_sld rfl hi288 eL_law_1037 ?_
          obtain ⟨hs289, hw⟩ := hw
          refine q_bud (b' := b + 0) (t' := t + 0) (Nat.add_zero _) (Nat.add_zero _) ?_
          refine q_callV (b := b) (t := t) (gX10_twos _ _ _ _ hw) mlL_142 kX10_twos vX10_twos rfl hs289 ⟨rfl, rfl⟩ (by decide) rfl (Nat.le_of_ble_eq_true rfl) eL_law_1038 (kI fun r290 h291 hw => ?_)
          obtain ⟨hw1, hw2⟩ := hw
          refine q_icmp_eq (tgt := 1472) eL_law_1041 (by decide) (fun c => ?_) (fun c => ?_)
          · have hw := hw1 c
            refine x_iinc (v := (x3 + nI 6)) (ls' := [_, _, _, _]) eL_law_1472 rfl rfl rfl rfl ?_
            refine q_goto (tgt := 18) eL_law_1475 (by decide) ?_
            refine q_le (ls' := [some _, some _, some _, some _]) ⟨rfl, rfl, rfl, rfl, trivial⟩ ?_
            exact ih _ _ _ _ _ _ hw
          · have hw := hw2 c
            refine q_iconst (v := nI 0) eL_law_1044 (by decide) ?_
            exact q_retZ rfl (by decide) eL_law_1045 ⟨_, rfl, hw⟩
        · have hw := hw32 (x_toInt (by decide) hk)
          refine q_tabIn (off := 1013) (tgt := 1046) eL_law_33 (by omega) (by omega) (by rw [hk]; rfl) (by decide) ?_
          refine q_aload_nr eL_law_1046 rfl ?_
          obtain ⟨hs292, hw⟩ := hw
          refine q_bud (b' := b + 0) (t' := t + 0) (Nat.add_zero _) (Nat.add_zero _) ?_
          refine q_callV (b := b) (t := t) (gX9_stands _ _ _ hw) mlL_143 kX9_stands vX9_stands rfl hs292 ⟨rfl, rfl⟩ (by decide) rfl (Nat.le_of_ble_eq_true rfl) eL_law_1047 (kI fun r293 h294 hw => ?_)
          refine q_aload_nr eL_law_1050 rfl ?_
          obtain ⟨hs295, hw⟩ := hw
          refine q_bud (b' := b + 0) (t' := t + 0) (Nat.add_zero _) (Nat.add_zero _) ?_
          refine q_callV (b := b) (t := t) (gX10_stands _ _ _ hw) mlL_146 kX10_stands vX10_stands rfl hs295 ⟨rfl, rfl⟩ (by decide) rfl (Nat.le_of_ble_eq_true rfl) eL_law_1051 (kI fun r296 h297 hw => ?_)
          obtain ⟨hw1, hw2⟩ := hw
          refine q_icmp_eq (tgt := 1472) eL_law_1054 (by decide) (fun c => ?_) (fun c => ?_)
          · have hw := hw1 c
            refine x_iinc (v := (x3 + nI 6)) (ls' := [_, _, _, _]) eL_law_1472 rfl rfl rfl rfl ?_
            refine q_goto (tgt := 18) eL_law_1475 (by decide) ?_
            refine q_le (ls' := [some _, some _, some _, some _]) ⟨rfl, rfl, rfl, rfl, trivial⟩ ?_
            exact ih _ _ _ _ _ _ hw
          · have hw := hw2 c
            refine q_iconst (v := nI 0) eL_law_1057 (by decide) ?_
            exact q_retZ rfl (by decide) eL_law_1058 ⟨_, rfl, hw⟩
        · have hw := hw33 (x_toInt (by decide) hk)
          refine q_tabIn (off := 1026) (tgt := 1059) eL_law_33 (by omega) (by omega) (by rw [hk]; rfl) (by decide) ?_
          refine q_aload_nr eL_law_1059 rfl ?_
          obtain ⟨hs298, hw⟩ := hw
          refine q_bud (b' := b + 0) (t' := t + 0) (Nat.add_zero _) (Nat.add_zero _) ?_
          refine q_callV (b := b) (t := t) (gX9_rings _ _ _ hw) mlL_147 kX9_rings vX9_rings rfl hs298 ⟨rfl, rfl⟩ (by decide) rfl (Nat.le_of_ble_eq_true rfl) eL_law_1060 (kI fun r299 h300 hw => ?_)
          refine q_aload_nr eL_law_1063 rfl ?_
          obtain ⟨hs301, hw⟩ := hw
          refine q_bud (b' := b + 0) (t' := t + 0) (Nat.add_zero _) (Nat.add_zero _) ?_
          refine q_callV (b := b) (t := t) (gX10_rings _ _ _ hw) mlL_150 kX10_rings vX10_rings rfl hs301 ⟨rfl, rfl⟩ (by decide) rfl (Nat.le_of_ble_eq_true rfl) eL_law_1064 (kI fun r302 h303 hw => ?_)
          obtain ⟨hw1, hw2⟩ := hw
          refine q_icmp_eq (tgt := 1472) eL_law_1067 (by decide) (fun c => ?_) (fun c => ?_)
          · have hw := hw1 c
            refine x_iinc (v := (x3 + nI 6)) (ls' := [_, _, _, _]) eL_law_1472 rfl rfl rfl rfl ?_
            refine q_goto (tgt := 18) eL_law_1475 (by decide) ?_
            refine q_le (ls' := [some _, some _, some _, some _]) ⟨rfl, rfl, rfl, rfl, trivial⟩ ?_
            exact ih _ _ _ _ _ _ hw
          · have hw := hw2 c
            refine q_iconst (v := nI 0) eL_law_1070 (by decide) ?_
            exact q_retZ rfl (by decide) eL_law_1071 ⟨_, rfl, hw⟩
        · have hw := hw34 (x_toInt (by decide) hk)
          refine q_tabIn (off := 1039) (tgt := 1072) eL_law_33 (by omega) (by omega) (by rw [hk]; rfl) (by decide) ?_
          refine q_aload_nr eL_law_1072 rfl ?_
          obtain ⟨hs304, hw⟩ := hw
          refine q_bud (b' := b + 0) (t' := t + 0) (Nat.add_zero _) (Nat.add_zero _) ?_
          refine q_callV (b := b) (t := t) (gX9_bare _ _ _ hw) mlL_151 kX9_bare vX9_bare rfl hs304 ⟨rfl, rfl⟩ (by decide) rfl (Nat.le_of_ble_eq_true rfl) eL_law_1073 (kI fun r305 h306 hw => ?_)
          refine q_aload_nr eL_law_1076 rfl ?_
          obtain ⟨hs307, hw⟩ := hw
          refine q_bud (b' := b + 0) (t' := t + 0) (Nat.add_zero _) (Nat.add_zero _) ?_
          refine q_callV (b := b) (t := t) (gX10_bare _ _ _ hw) mlL_154 kX10_bare vX10_bare rfl hs307 ⟨rfl, rfl⟩ (by decide) rfl (Nat.le_of_ble_eq_true rfl) eL_law_1077 (kI fun r308 h309 hw => ?_)
          obtain ⟨hw1, hw2⟩ := hw
          refine q_icmp_eq (tgt := 1472) eL_law_1080 (by decide) (fun c => ?_) (fun c => ?_)
          · have hw := hw1 c
            refine x_iinc (v := (x3 + nI 6)) (ls' := [_, _, _, _]) eL_law_1472 rfl rfl rfl rfl ?_
            refine q_goto (tgt := 18) eL_law_1475 (by decide) ?_
            refine q_le (ls' := [some _, some _, some _, some _]) ⟨rfl, rfl, rfl, rfl, trivial⟩ ?_
            exact ih _ _ _ _ _ _ hw
          · have hw := hw2 c
            refine q_iconst (v := nI 0) eL_law_1083 (by decide) ?_
            exact q_retZ rfl (by decide) eL_law_1084 ⟨_, rfl, hw⟩
        · have hw := hw35 (x_toInt (by decide) hk)
          refine q_tabIn (off := 1052) (tgt := 1085) eL_law_33 (by omega) (by omega) (by rw [hk]; rfl) (by decide) ?_
          refine q_aload_nr eL_law_1085 rfl ?_
          obtain ⟨hs310, hw⟩ := hw
          refine q_bud (b' := b + 0) (t' := t + 0) (Nat.add_zero _) (Nat.add_zero _) ?_
          refine q_callV (b := b) (t := t) (gX9_bridges _ _ _ hw) mlL_155 kX9_bridges vX9_bridges rfl hs310 ⟨rfl, rfl⟩ (by decide) rfl (Nat.le_of_ble_eq_true rfl) eL_law_1086 (kI fun r311 h312 hw => ?_)
          refine q_aload_nr eL_law_1089 rfl ?_
          obtain ⟨hs313, hw⟩ := hw
          refine q_bud (b' := b + 0) (t' := t + 0) (Nat.add_zero _) (Nat.add_zero _) ?_
          refine q_callV (b := b) (t := t) (gX10_bridges _ _ _ hw) mlL_158 kX10_bridges vX10_bridges rfl hs313 ⟨rfl, rfl⟩ (by decide) rfl (Nat.le_of_ble_eq_true rfl) eL_law_1090 (kI fun r314 h315 hw => ?_)
          obtain ⟨hw1, hw2⟩ := hw
          refine q_icmp_eq (tgt := 1472) eL_law_1093 (by decide) (fun c => ?_) (fun c => ?_)
          · have hw := hw1 c
            refine x_iinc (v := (x3 + nI 6)) (ls' := [_, _, _, _]) eL_law_1472 rfl rfl rfl rfl ?_
            refine q_goto (tgt := 18) eL_law_1475 (by decide) ?_
            refine q_le (ls' := [some _, some _, some _, some _]) ⟨rfl, rfl, rfl, rfl, trivial⟩ ?_
            exact ih _ _ _ _ _ _ hw
          · have hw := hw2 c
            refine q_iconst (v := nI 0) eL_law_1096 (by decide) ?_
            exact q_retZ rfl (by decide) eL_law_1097 ⟨_, rfl, hw⟩
        · have hw := hw36 (x_toInt (by decide) hk)
          refine q_tabIn (off := 1065) (tgt := 1098) eL_law_33 (by omega) (by omega) (by rw [hk]; rfl) (by decide) ?_
          refine q_aload_nr eL_law_1098 rfl ?_
          refine q_aload_nr eL_law_1099 rfl ?_
          refine q_iload_n eL_law_1100 rfl ?_
          refine q_iconst (v := nI 1) eL_law_1101 (by decide) ?_
          refine q_iadd eL_law_1102 ?_
          obtain ⟨hi316, hw⟩ := hw
          refine q_sld rfl hi316 eL_law_1103 ?_
          refine q_aload_nr eL_law_1104 rfl ?_
          refine q_iload_n eL_law_1105 rfl ?_
          refine q_iconst (v := nI 2) eL_law_1106 (by decide) ?_
          refine q_iadd eL_law_1107 ?_
          obtain ⟨hi317, hw⟩ := hw
          refine q_sld rfl hi317 eL_law_1108 ?_
          refine q_aload_nr eL_law_1109 rfl ?_
          refine q_iload_n eL_law_1110 rfl ?_
          refine q_iconst (v := nI 3) eL_law_1111 (by decide) ?_
          refine q_iadd eL_law_1112 ?_
          obtain ⟨hi318, hw⟩ := hw
          refine q_sld rfl hi318 eL_law_1113 ?_
          obtain ⟨hs319, hw⟩ := hw
          refine q_bud (b' := b + 0) (t' := t + 0) (Nat.add_zero _) (Nat.add_zero _) ?_
          refine q_callV (b := b) (t := t) (gX9_cut _ _ _ _ _ _ hw) mlL_159 kX9_cut vX9_cut rfl hs319 ⟨rfl, rfl⟩ (by decide) rfl (Nat.le_of_ble_eq_true rfl) eL_law_1114 (kI fun r320 h321 hw => ?_)
          refine q_aload_nr eL_law_1117 rfl ?_
          refine q_aload_nr eL_law_1118 rfl ?_
          refine q_iload_n eL_law_1119 rfl ?_
          refine q_iconst (v := nI 1) eL_law_1120 (by decide) ?_
          refine q_iadd eL_law_1121 ?_
          obtain ⟨hi322, hw⟩ := hw
          refine q_sld rfl hi322 eL_law_1122 ?_
          refine q_aload_nr eL_law_1123 rfl ?_
          refine q_iload_n eL_law_1124 rfl ?_
          refine q_iconst (v := nI 2) eL_law_1125 (by decide) ?_
          refine q_iadd eL_law_1126 ?_
          obtain ⟨hi323, hw⟩ := hw
          refine q_sld rfl hi323 eL_law_1127 ?_
          refine q_aload_nr eL_law_1128 rfl ?_
          refine q_iload_n eL_law_1129 rfl ?_
          refine q_iconst (v := nI 3) eL_law_1130 (by decide) ?_
          refine q_iadd eL_law_1131 ?_
          obtain ⟨hi324, hw⟩ := hw
          refine q_sld rfl hi324 eL_law_1132 ?_
          obtain ⟨hs325, hw⟩ := hw
          refine q_bud (b' := b + 0) (t' := t + 0) (Nat.add_zero _) (Nat.add_zero _) ?_
          refine q_callV (b := b) (t := t) (gX10_cut _ _ _ _ _ _ hw) mlL_162 kX10_cut vX10_cut rfl hs325 ⟨rfl, rfl⟩ (by decide) rfl (Nat.le_of_ble_eq_true rfl) eL_law_1133 (kI fun r326 h327 hw => ?_)
          obtain ⟨hw1, hw2⟩ := hw
          refine q_icmp_eq (tgt := 1472) eL_law_1136 (by decide) (fun c => ?_) (fun c => ?_)
          · have hw := hw1 c
            refine x_iinc (v := (x3 + nI 6)) (ls' := [_, _, _, _]) eL_law_1472 rfl rfl rfl rfl ?_
            refine q_goto (tgt := 18) eL_law_1475 (by decide) ?_
            refine q_le (ls' := [some _, some _, some _, some _]) ⟨rfl, rfl, rfl, rfl, trivial⟩ ?_
            exact ih _ _ _ _ _ _ hw
          · have hw := hw2 c
            refine q_iconst (v := nI 0) eL_law_1139 (by decide) ?_
            exact q_retZ rfl (by decide) eL_law_1140 ⟨_, rfl, hw⟩
        · have hw := hw37 (x_toInt (by decide) hk)
          refine q_tabIn (off := 1108) (tgt := 1141) eL_law_33 (by omega) (by omega) (by rw [hk]; rfl) (by decide) ?_
          refine q_aload_nr eL_law_1141 rfl ?_
          refine q_aload_nr eL_law_1142 rfl ?_
          refine q_iload_n eL_law_1143 rfl ?_
          refine q_iconst (v := nI 1) eL_law_1144 (by decide) ?_
          refine q_iadd eL_law_1145 ?_
          obtain ⟨hi328, hw⟩ := hw
          refine q_sld rfl hi328 eL_law_1146 ?_
          obtain ⟨hs329, hw⟩ := hw
          refine q_bud (b' := b + 0) (t' := t + 0) (Nat.add_zero _) (Nat.add_zero _) ?_
          refine q_callV (b := b) (t := t) (gX9_rates _ _ _ _ hw) mlL_163 kX9_rates vX9_rates rfl hs329 ⟨rfl, rfl⟩ (by decide) rfl (Nat.le_of_ble_eq_true rfl) eL_law_1147 (kI fun r330 h331 hw => ?_)
          refine q_aload_nr eL_law_1150 rfl ?_
          refine q_aload_nr eL_law_1151 rfl ?_
          refine q_iload_n eL_law_1152 rfl ?_
          refine q_iconst (v := nI 1) eL_law_1153 (by decide) ?_
          refine q_iadd eL_law_1154 ?_
          obtain ⟨hi332, hw⟩ := hw
          refine q_sld rfl hi332 eL_law_1155 ?_
          obtain ⟨hs333, hw⟩ := hw
          refine q_bud (b' := b + 0) (t' := t + 0) (Nat.add_zero _) (Nat.add_zero _) ?_
          refine q_callV (b := b) (t := t) (gX10_rates _ _ _ _ hw) mlL_166 kX10_rates vX10_rates rfl hs333 ⟨rfl, rfl⟩ (by decide) rfl (Nat.le_of_ble_eq_true rfl) eL_law_1156 (kI fun r334 h335 hw => ?_)
          obtain ⟨hw1, hw2⟩ := hw
          refine q_icmp_eq (tgt := 1472) eL_law_1159 (by decide) (fun c => ?_) (fun c => ?_)
          · have hw := hw1 c
            refine x_iinc (v := (x3 + nI 6)) (ls' := [_, _, _, _]) eL_law_1472 rfl rfl rfl rfl ?_
            refine q_goto (tgt := 18) eL_law_1475 (by decide) ?_
            refine q_le (ls' := [some _, some _, some _, some _]) ⟨rfl, rfl, rfl, rfl, trivial⟩ ?_
            exact ih _ _ _ _ _ _ hw
          · have hw := hw2 c
            refine q_iconst (v := nI 0) eL_law_1162 (by decide) ?_
            exact q_retZ rfl (by decide) eL_law_1163 ⟨_, rfl, hw⟩
        · have hw := hw38 (x_toInt (by decide) hk)
          refine q_tabIn (off := 1131) (tgt := 1164) eL_law_33 (by omega) (by omega) (by rw [hk]; rfl) (by decide) ?_
          refine q_aload_nr eL_law_1164 rfl ?_
          refine q_aload_nr eL_law_1165 rfl ?_
          refine q_iload_n eL_law_1166 rfl ?_
          refine q_iconst (v := nI 1) eL_law_1167 (by decide) ?_
          refine q_iadd eL_law_1168 ?_
          obtain ⟨hi336, hw⟩ := hw
          refine q_sld rfl hi336 eL_law_1169 ?_
          obtain ⟨hs337, hw⟩ := hw
          refine q_bud (b' := b + 0) (t' := t + 0) (Nat.add_zero _) (Nat.add_zero _) ?_
          refine q_callV (b := b) (t := t) (gX9_ask _ _ _ _ hw) mlL_167 kX9_ask vX9_ask rfl hs337 ⟨rfl, rfl⟩ (by decide) rfl (Nat.le_of_ble_eq_true rfl) eL_law_1170 (kI fun r338 h339 hw => ?_)
          refine q_aload_nr eL_law_1173 rfl ?_
          refine q_aload_nr eL_law_1174 rfl ?_
          refine q_iload_n eL_law_1175 rfl ?_
          refine q_iconst (v := nI 1) eL_law_1176 (by decide) ?_
          refine q_iadd eL_law_1177 ?_
          obtain ⟨hi340, hw⟩ := hw
          refine q_sld rfl hi340 eL_law_1178 ?_
          obtain ⟨hs341, hw⟩ := hw
          refine q_bud (b' := b + 0) (t' := t + 0) (Nat.add_zero _) (Nat.add_zero _) ?_
          refine q_callV (b := b) (t := t) (gX10_ask _ _ _ _ hw) mlL_170 kX10_ask vX10_ask rfl hs341 ⟨rfl, rfl⟩ (by decide) rfl (Nat.le_of_ble_eq_true rfl) eL_law_1179 (kI fun r342 h343 hw => ?_)
          obtain ⟨hw1, hw2⟩ := hw
          refine q_icmp_eq (tgt := 1472) eL_law_1182 (by decide) (fun c => ?_) (fun c => ?_)
          · have hw := hw1 c
            refine x_iinc (v := (x3 + nI 6)) (ls' := [_, _, _, _]) eL_law_1472 rfl rfl rfl rfl ?_
            refine q_goto (tgt := 18) eL_law_1475 (by decide) ?_
            refine q_le (ls' := [some _, some _, some _, some _]) ⟨rfl, rfl, rfl, rfl, trivial⟩ ?_
            exact ih _ _ _ _ _ _ hw
          · have hw := hw2 c
            refine q_iconst (v := nI 0) eL_law_1185 (by decide) ?_
            exact q_retZ rfl (by decide) eL_law_1186 ⟨_, rfl, hw⟩
        · have hw := hw39 (x_toInt (by decide) hk)
          refine q_tabIn (off := 1154) (tgt := 1187) eL_law_33 (by omega) (by omega) (by rw [hk]; rfl) (by decide) ?_
          refine q_aload_nr eL_law_1187 rfl ?_
          refine q_aload_nr eL_law_1188 rfl ?_
          refine q_iload_n eL_law_1189 rfl ?_
          refine q_iconst (v := nI 1) eL_law_1190 (by decide) ?_
          refine q_iadd eL_law_1191 ?_
          obtain ⟨hi344, hw⟩ := hw
          refine q_sld rfl hi344 eL_law_1192 ?_
          refine q_aload_nr eL_law_1193 rfl ?_
          refine q_iload_n eL_law_1194 rfl ?_
          refine q_iconst (v := nI 2) eL_law_1195 (by decide) ?_
          refine q_iadd eL_law_1196 ?_
          obtain ⟨hi345, hw⟩ := hw
          refine q_sld rfl hi345 eL_law_1197 ?_
          obtain ⟨hs346, hw⟩ := hw
          refine q_bud (b' := b + 0) (t' := t + 0) (Nat.add_zero _) (Nat.add_zero _) ?_
          refine q_callV (b := b) (t := t) (gX9_chance _ _ _ _ _ hw) mlL_171 kX9_chance vX9_chance rfl hs346 ⟨rfl, rfl⟩ (by decide) rfl (Nat.le_of_ble_eq_true rfl) eL_law_1198 (kI fun r347 h348 hw => ?_)
          refine q_aload_nr eL_law_1201 rfl ?_
          refine q_aload_nr eL_law_1202 rfl ?_
          refine q_iload_n eL_law_1203 rfl ?_
          refine q_iconst (v := nI 1) eL_law_1204 (by decide) ?_
          refine q_iadd eL_law_1205 ?_
          obtain ⟨hi349, hw⟩ := hw
          refine q_sld rfl hi349 eL_law_1206 ?_
          refine q_aload_nr eL_law_1207 rfl ?_
          refine q_iload_n eL_law_1208 rfl ?_
          refine q_iconst (v := nI 2) eL_law_1209 (by decide) ?_
          refine q_iadd eL_law_1210 ?_
          obtain ⟨hi350, hw⟩ := hw
          refine q_sld rfl hi350 eL_law_1211 ?_
          obtain ⟨hs351, hw⟩ := hw
          refine q_bud (b' := b + 0) (t' := t + 0) (Nat.add_zero _) (Nat.add_zero _) ?_
          refine q_callV (b := b) (t := t) (gX10_chance _ _ _ _ _ hw) mlL_174 kX10_chance vX10_chance rfl hs351 ⟨rfl, rfl⟩ (by decide) rfl (Nat.le_of_ble_eq_true rfl) eL_law_1212 (kI fun r352 h353 hw => ?_)
          obtain ⟨hw1, hw2⟩ := hw
          refine q_icmp_eq (tgt := 1472) eL_law_1215 (by decide) (fun c => ?_) (fun c => ?_)
          · have hw := hw1 c
            refine x_iinc (v := (x3 + nI 6)) (ls' := [_, _, _, _]) eL_law_1472 rfl rfl rfl rfl ?_
            refine q_goto (tgt := 18) eL_law_1475 (by decide) ?_
            refine q_le (ls' := [some _, some _, some _, some _]) ⟨rfl, rfl, rfl, rfl, trivial⟩ ?_
            exact ih _ _ _ _ _ _ hw
          · have hw := hw2 c
            refine q_iconst (v := nI 0) eL_law_1218 (by decide) ?_
            exact q_retZ rfl (by decide) eL_law_1219 ⟨_, rfl, hw⟩
        · have hw := hw40 (x_toInt (by decide) hk)
          refine q_tabIn (off := 1187) (tgt := 1220) eL_law_33 (by omega) (by omega) (by rw [hk]; rfl) (by decide) ?_
          refine q_aload_nr eL_law_1220 rfl ?_
          refine q_aload_nr eL_law_1221 rfl ?_
          refine q_iload_n eL_law_1222 rfl ?_
          refine q_iconst (v := nI 1) eL_law_1223 (by decide) ?_
          refine q_iadd eL_law_1224 ?_
          obtain ⟨hi354, hw⟩ := hw
          refine q_sld rfl hi354 eL_law_1225 ?_
          refine q_aload_nr eL_law_1226 rfl ?_
          refine q_iload_n eL_law_1227 rfl ?_
          refine q_iconst (v := nI 2) eL_law_1228 (by decide) ?_
          refine q_iadd eL_law_1229 ?_
          obtain ⟨hi355, hw⟩ := hw
          refine q_sld rfl hi355 eL_law_1230 ?_
          obtain ⟨hs356, hw⟩ := hw
          refine q_bud (b' := b + 0) (t' := t + 0) (Nat.add_zero _) (Nat.add_zero _) ?_
          refine q_callV (b := b) (t := t) (gX9_mean _ _ _ _ _ hw) mlL_175 kX9_mean vX9_mean rfl hs356 ⟨rfl, rfl⟩ (by decide) rfl (Nat.le_of_ble_eq_true rfl) eL_law_1231 (kI fun r357 h358 hw => ?_)
          refine q_aload_nr eL_law_1234 rfl ?_
          refine q_aload_nr eL_law_1235 rfl ?_
          refine q_iload_n eL_law_1236 rfl ?_
          refine q_iconst (v := nI 1) eL_law_1237 (by decide) ?_
          refine q_iadd eL_law_1238 ?_
          obtain ⟨hi359, hw⟩ := hw
          refine q_sld rfl hi359 eL_law_1239 ?_
          refine q_aload_nr eL_law_1240 rfl ?_
          refine q_iload_n eL_law_1241 rfl ?_
          refine q_iconst (v := nI 2) eL_law_1242 (by decide) ?_
          refine q_iadd eL_law_1243 ?_
          obtain ⟨hi360, hw⟩ := hw
          refine q_sld rfl hi360 eL_law_1244 ?_
          obtain ⟨hs361, hw⟩ := hw
          refine q_bud (b' := b + 0) (t' := t + 0) (Nat.add_zero _) (Nat.add_zero _) ?_
          refine q_callV (b := b) (t := t) (gX10_mean _ _ _ _ _ hw) mlL_178 kX10_mean vX10_mean rfl hs361 ⟨rfl, rfl⟩ (by decide) rfl (Nat.le_of_ble_eq_true rfl) eL_law_1245 (kI fun r362 h363 hw => ?_)
          obtain ⟨hw1, hw2⟩ := hw
          refine q_icmp_eq (tgt := 1472) eL_law_1248 (by decide) (fun c => ?_) (fun c => ?_)
          · have hw := hw1 c
            refine x_iinc (v := (x3 + nI 6)) (ls' := [_, _, _, _]) eL_law_1472 rfl rfl rfl rfl ?_
            refine q_goto (tgt := 18) eL_law_1475 (by decide) ?_
            refine q_le (ls' := [some _, some _, some _, some _]) ⟨rfl, rfl, rfl, rfl, trivial⟩ ?_
            exact ih _ _ _ _ _ _ hw
          · have hw := hw2 c
            refine q_iconst (v := nI 0) eL_law_1251 (by decide) ?_
            exact q_retZ rfl (by decide) eL_law_1252 ⟨_, rfl, hw⟩
        · have hw := hw41 (x_toInt (by decide) hk)
          refine q_tabIn (off := 1220) (tgt := 1253) eL_law_33 (by omega) (by omega) (by rw [hk]; rfl) (by decide) ?_
          refine q_aload_nr eL_law_1253 rfl ?_
          refine q_aload_nr eL_law_1254 rfl ?_
          refine q_iload_n eL_law_1255 rfl ?_
          refine q_iconst (v := nI 1) eL_law_1256 (by decide) ?_
          refine q_iadd eL_law_1257 ?_
          obtain ⟨hi364, hw⟩ := hw
          refine q_sld rfl hi364 eL_law_1258 ?_
          refine q_aload_nr eL_law_1259 rfl ?_
          refine q_iload_n eL_law_1260 rfl ?_
          refine q_iconst (v := nI 2) eL_law_1261 (by decide) ?_
          refine q_iadd eL_law_1262 ?_
          obtain ⟨hi365, hw⟩ := hw
          refine q_sld rfl hi365 eL_law_1263 ?_
          refine q_aload_nr eL_law_1264 rfl ?_
          refine q_iload_n eL_law_1265 rfl ?_
          refine q_iconst (v := nI 3) eL_law_1266 (by decide) ?_
          refine q_iadd eL_law_1267 ?_
          obtain ⟨hi366, hw⟩ := hw
          refine q_sld rfl hi366 eL_law_1268 ?_
          obtain ⟨hs367, hw⟩ := hw
          refine q_bud (b' := b + 0) (t' := t + 0) (Nat.add_zero _) (Nat.add_zero _) ?_
          refine q_callV (b := b) (t := t) (gX9_numbers _ _ _ _ _ _ hw) mlL_179 kX9_numbers vX9_numbers rfl hs367 ⟨rfl, rfl⟩ (by decide) rfl (Nat.le_of_ble_eq_true rfl) eL_law_1269 (kI fun r368 h369 hw => ?_)
          refine q_aload_nr eL_law_1272 rfl ?_
          refine q_aload_nr eL_law_1273 rfl ?_
          refine q_iload_n eL_law_1274 rfl ?_
          refine q_iconst (v := nI 1) eL_law_1275 (by decide) ?_
          refine q_iadd eL_law_1276 ?_
          obtain ⟨hi370, hw⟩ := hw
          refine q_sld rfl hi370 eL_law_1277 ?_
          refine q_aload_nr eL_law_1278 rfl ?_
          refine q_iload_n eL_law_1279 rfl ?_
          refine q_iconst (v := nI 2) eL_law_1280 (by decide) ?_
          refine q_iadd eL_law_1281 ?_
          obtain ⟨hi371, hw⟩ := hw
          refine q_sld rfl hi371 eL_law_1282 ?_
          refine q_aload_nr eL_law_1283 rfl ?_
          refine q_iload_n eL_law_1284 rfl ?_
          refine q_iconst (v := nI 3) eL_law_1285 (by decide) ?_
          refine q_iadd eL_law_1286 ?_
          obtain ⟨hi372, hw⟩ := hw
          refine q_sld rfl hi372 eL_law_1287 ?_
          obtain ⟨hs373, hw⟩ := hw
          refine q_bud (b' := b + 0) (t' := t + 0) (Nat.add_zero _) (Nat.add_zero _) ?_
          refine q_callV (b := b) (t := t) (gX10_numbers _ _ _ _ _ _ hw) mlL_182 kX10_numbers vX10_numbers rfl hs373 ⟨rfl, rfl⟩ (by decide) rfl (Nat.le_of_ble_eq_true rfl) eL_law_1288 (kI fun r374 h375 hw => ?_)
          obtain ⟨hw1, hw2⟩ := hw
          refine q_icmp_eq (tgt := 1472) eL_law_1291 (by decide) (fun c => ?_) (fun c => ?_)
          · have hw := hw1 c
            refine x_iinc (v := (x3 + nI 6)) (ls' := [_, _, _, _]) eL_law_1472 rfl rfl rfl rfl ?_
            refine q_goto (tgt := 18) eL_law_1475 (by decide) ?_
            refine q_le (ls' := [some _, some _, some _, some _]) ⟨rfl, rfl, rfl, rfl, trivial⟩ ?_
            exact ih _ _ _ _ _ _ hw
          · have hw := hw2 c
            refine q_iconst (v := nI 0) eL_law_1294 (by decide) ?_
            exact q_retZ rfl (by decide) eL_law_1295 ⟨_, rfl, hw⟩
        · have hw := hw42 (x_toInt (by decide) hk)
          refine q_tabIn (off := 1263) (tgt := 1296) eL_law_33 (by omega) (by omega) (by rw [hk]; rfl) (by decide) ?_
          refine q_aload_nr eL_law_1296 rfl ?_
          refine q_aload_nr eL_law_1297 rfl ?_
          refine q_iload_n eL_law_1298 rfl ?_
          refine q_iconst (v := nI 1) eL_law_1299 (by decide) ?_
          refine q_iadd eL_law_1300 ?_
          obtain ⟨hi376, hw⟩ := hw
          refine q_sld rfl hi376 eL_law_1301 ?_
          refine q_aload_nr eL_law_1302 rfl ?_
          refine q_iload_n eL_law_1303 rfl ?_
          refine q_iconst (v := nI 2) eL_law_1304 (by decide) ?_
          refine q_iadd eL_law_1305 ?_
          obtain ⟨hi377, hw⟩ := hw
          refine q_sld rfl hi377 eL_law_1306 ?_
          refine q_aload_nr eL_law_1307 rfl ?_
          refine q_iload_n eL_law_1308 rfl ?_
          refine q_iconst (v := nI 3) eL_law_1309 (by decide) ?_
          refine q_iadd eL_law_1310 ?_
          obtain ⟨hi378, hw⟩ := hw
          refine q_sld rfl hi378 eL_law_1311 ?_
          refine q_i2l eL_law_1312 ?_
          refine q_bipush (v := nI 32) eL_law_1313 (by decide) ?_
          refine q_lshl eL_law_1315 ?_
          refine q_aload_nr eL_law_1316 rfl ?_
          refine q_iload_n eL_law_1317 rfl ?_
          refine q_iconst (v := nI 4) eL_law_1318 (by decide) ?_
          refine q_iadd eL_law_1319 ?_
          obtain ⟨hi379, hw⟩ := hw
          refine q_sld rfl hi379 eL_law_1320 ?_
          refine q_i2l eL_law_1321 ?_
          refine q_ldc2 coL_183 eL_law_1322 ?_
          refine q_land eL_law_1325 ?_
          refine q_lor eL_law_1326 ?_
          obtain ⟨hs380, hw⟩ := hw
          refine q_bud (b' := b + 0) (t' := t + 0) (Nat.add_zero _) (Nat.add_zero _) ?_
          refine q_callV (b := b) (t := t) (gX9_write _ _ _ _ _ _ hw) mlL_185 kX9_write vX9_write rfl hs380 ⟨rfl, rfl⟩ (by decide) rfl (Nat.le_of_ble_eq_true rfl) eL_law_1327 (kL fun r381 h382 hw => ?_)
          refine q_aload_nr eL_law_1330 rfl ?_
          refine q_aload_nr eL_law_1331 rfl ?_
          refine q_iload_n eL_law_1332 rfl ?_
          refine q_iconst (v := nI 1) eL_law_1333 (by decide) ?_
          refine q_iadd eL_law_1334 ?_
          obtain ⟨hi383, hw⟩ := hw
          refine q_sld rfl hi383 eL_law_1335 ?_
          refine q_aload_nr eL_law_1336 rfl ?_
          refine q_iload_n eL_law_1337 rfl ?_
          refine q_iconst (v := nI 2) eL_law_1338 (by decide) ?_
          refine q_iadd eL_law_1339 ?_
          obtain ⟨hi384, hw⟩ := hw
          refine q_sld rfl hi384 eL_law_1340 ?_
          refine q_aload_nr eL_law_1341 rfl ?_
          refine q_iload_n eL_law_1342 rfl ?_
          refine q_iconst (v := nI 3) eL_law_1343 (by decide) ?_
          refine q_iadd eL_law_1344 ?_
          obtain ⟨hi385, hw⟩ := hw
          refine q_sld rfl hi385 eL_law_1345 ?_
          refine q_i2l eL_law_1346 ?_
          refine q_bipush (v := nI 32) eL_law_1347 (by decide) ?_
          refine q_lshl eL_law_1349 ?_
          refine q_aload_nr eL_law_1350 rfl ?_
          refine q_iload_n eL_law_1351 rfl ?_
          refine q_iconst (v := nI 4) eL_law_1352 (by decide) ?_
          refine q_iadd eL_law_1353 ?_
          obtain ⟨hi386, hw⟩ := hw
          refine q_sld rfl hi386 eL_law_1354 ?_
          refine q_i2l eL_law_1355 ?_
          refine q_ldc2 coL_183 eL_law_1356 ?_
          refine q_land eL_law_1359 ?_
          refine q_lor eL_law_1360 ?_
          obtain ⟨hs387, hw⟩ := hw
          refine q_bud (b' := b + 0) (t' := t + 0) (Nat.add_zero _) (Nat.add_zero _) ?_
          refine q_callV (b := b) (t := t) (gX10_write _ _ _ _ _ _ hw) mlL_189 kX10_write vX10_write rfl hs387 ⟨rfl, rfl⟩ (by decide) rfl (Nat.le_of_ble_eq_true rfl) eL_law_1361 (kL fun r388 h389 hw => ?_)
          refine q_lcmp eL_law_1364 ?_
          obtain ⟨hw1, hw2⟩ := hw
          refine q_if_eq (tgt := 1472) eL_law_1365 (by decide) (fun c => ?_) (fun c => ?_)
          · have hw := hw1 c
            refine x_iinc (v := (x3 + nI 6)) (ls' := [_, _, _, _]) eL_law_1472 rfl rfl rfl rfl ?_
            refine q_goto (tgt := 18) eL_law_1475 (by decide) ?_
            refine q_le (ls' := [some _, some _, some _, some _]) ⟨rfl, rfl, rfl, rfl, trivial⟩ ?_
            exact ih _ _ _ _ _ _ hw
          · have hw := hw2 c
            refine q_iconst (v := nI 0) eL_law_1368 (by decide) ?_
            exact q_retZ rfl (by decide) eL_law_1369 ⟨_, rfl, hw⟩
        · have hw := hw43 (x_toInt (by decide) hk)
          refine q_tabIn (off := 1337) (tgt := 1370) eL_law_33 (by omega) (by omega) (by rw [hk]; rfl) (by decide) ?_
          refine q_aload_nr eL_law_1370 rfl ?_
          refine q_aload_nr eL_law_1371 rfl ?_
          refine q_iload_n eL_law_1372 rfl ?_
          refine q_iconst (v := nI 1) eL_law_1373 (by decide) ?_
          refine q_iadd eL_law_1374 ?_
          obtain ⟨hi390, hw⟩ := hw
          refine q_sld rfl hi390 eL_law_1375 ?_
          refine q_aload_nr eL_law_1376 rfl ?_
          refine q_iload_n eL_law_1377 rfl ?_
          refine q_iconst (v := nI 2) eL_law_1378 (by decide) ?_
          refine q_iadd eL_law_1379 ?_
          obtain ⟨hi391, hw⟩ := hw
          refine q_sld rfl hi391 eL_law_1380 ?_
          obtain ⟨hs392, hw⟩ := hw
          obtain ⟨hc393, hc394, hw⟩ := hw
          refine q_bud (b' := (b - 1) + 1) (t' := (t - 2048) + 2048) (by omega) (by omega) ?_
          refine q_callV (b := (b - 1)) (t := (t - 2048)) (gX9_lists 1 2048 _ _ _ _ _ hw) mlL_190 kX9_lists vX9_lists rfl hs392 ⟨rfl, rfl⟩ (by decide) rfl (Nat.le_of_ble_eq_true rfl) eL_law_1381 (kI fun r395 h396 hw => ?_)
          refine q_aload_nr eL_law_1384 rfl ?_
          refine q_aload_nr eL_law_1385 rfl ?_
          refine q_iload_n eL_law_1386 rfl ?_
          refine q_iconst (v := nI 1) eL_law_1387 (by decide) ?_
          refine q_iadd eL_law_1388 ?_
          obtain ⟨hi397, hw⟩ := hw
          refine q_sld rfl hi397 eL_law_1389 ?_
          refine q_aload_nr eL_law_1390 rfl ?_
          refine q_iload_n eL_law_1391 rfl ?_
          refine q_iconst (v := nI 2) eL_law_1392 (by decide) ?_
          refine q_iadd eL_law_1393 ?_
          obtain ⟨hi398, hw⟩ := hw
          refine q_sld rfl hi398 eL_law_1394 ?_
          obtain ⟨hs399, hw⟩ := hw
          refine q_bud (b' := (b - 1) + 0) (t' := (t - 2048) + 0) (Nat.add_zero _) (Nat.add_zero _) ?_
          refine q_callV (b := (b - 1)) (t := (t - 2048)) (gX10_lists _ _ _ _ _ hw) mlL_193 kX10_lists vX10_lists rfl hs399 ⟨rfl, rfl⟩ (by decide) rfl (Nat.le_of_ble_eq_true rfl) eL_law_1395 (kI fun r400 h401 hw => ?_)
          obtain ⟨hw1, hw2⟩ := hw
          refine q_icmp_eq (tgt := 1472) eL_law_1398 (by decide) (fun c => ?_) (fun c => ?_)
          · have hw := hw1 c
            refine x_iinc (v := (x3 + nI 6)) (ls' := [_, _, _, _]) eL_law_1472 rfl rfl rfl rfl ?_
            refine q_goto (tgt := 18) eL_law_1475 (by decide) ?_
            refine q_le (ls' := [some _, some _, some _, some _]) ⟨rfl, rfl, rfl, rfl, trivial⟩ ?_
            exact ih _ _ _ _ _ _ hw
          · have hw := hw2 c
            refine q_iconst (v := nI 0) eL_law_1401 (by decide) ?_
            exact q_retZ rfl (by decide) eL_law_1402 ⟨_, rfl, hw⟩
        · have hw := hw44 (x_toInt (by decide) hk)
          refine q_tabIn (off := 1370) (tgt := 1403) eL_law_33 (by omega) (by omega) (by rw [hk]; rfl) (by decide) ?_
          refine q_aload_nr eL_law_1403 rfl ?_
          refine q_aload_nr eL_law_1404 rfl ?_
          refine q_iload_n eL_law_1405 rfl ?_
          refine q_iconst (v := nI 1) eL_law_1406 (by decide) ?_
          refine q_iadd eL_law_1407 ?_
          obtain ⟨hi402, hw⟩ := hw
          refine q_sld rfl hi402 eL_law_1408 ?_
          obtain ⟨hs403, hw⟩ := hw
          refine q_bud (b' := b + 0) (t' := t + 0) (Nat.add_zero _) (Nat.add_zero _) ?_
          refine q_callV (b := b) (t := t) (gX9_image _ _ _ _ hw) mlL_194 kX9_image vX9_image rfl hs403 ⟨rfl, rfl⟩ (by decide) rfl (Nat.le_of_ble_eq_true rfl) eL_law_1409 (kI fun r404 h405 hw => ?_)
          refine q_aload_nr eL_law_1412 rfl ?_
          refine q_aload_nr eL_law_1413 rfl ?_
          refine q_iload_n eL_law_1414 rfl ?_
          refine q_iconst (v := nI 1) eL_law_1415 (by decide) ?_
          refine q_iadd eL_law_1416 ?_
          obtain ⟨hi406, hw⟩ := hw
          refine q_sld rfl hi406 eL_law_1417 ?_
          obtain ⟨hs407, hw⟩ := hw
          refine q_bud (b' := b + 0) (t' := t + 0) (Nat.add_zero _) (Nat.add_zero _) ?_
          refine q_callV (b := b) (t := t) (gX10_image _ _ _ _ hw) mlL_197 kX10_image vX10_image rfl hs407 ⟨rfl, rfl⟩ (by decide) rfl (Nat.le_of_ble_eq_true rfl) eL_law_1418 (kI fun r408 h409 hw => ?_)
          obtain ⟨hw1, hw2⟩ := hw
          refine q_icmp_eq (tgt := 1472) eL_law_1421 (by decide) (fun c => ?_) (fun c => ?_)
          · have hw := hw1 c
            refine x_iinc (v := (x3 + nI 6)) (ls' := [_, _, _, _]) eL_law_1472 rfl rfl rfl rfl ?_
            refine q_goto (tgt := 18) eL_law_1475 (by decide) ?_
            refine q_le (ls' := [some _, some _, some _, some _]) ⟨rfl, rfl, rfl, rfl, trivial⟩ ?_
            exact ih _ _ _ _ _ _ hw
          · have hw := hw2 c
            refine q_iconst (v := nI 0) eL_law_1424 (by decide) ?_
            exact q_retZ rfl (by decide) eL_law_1425 ⟨_, rfl, hw⟩
        · have hw := hw45 (x_toInt (by decide) hk)
          refine q_tabIn (off := 1393) (tgt := 1426) eL_law_33 (by omega) (by omega) (by rw [hk]; rfl) (by decide) ?_
          refine q_aload_nr eL_law_1426 rfl ?_
          refine q_aload_nr eL_law_1427 rfl ?_
          refine q_iload_n eL_law_1428 rfl ?_
          refine q_iconst (v := nI 1) eL_law_1429 (by decide) ?_
          refine q_iadd eL_law_1430 ?_
          obtain ⟨hi410, hw⟩ := hw
          refine q_sld rfl hi410 eL_law_1431 ?_
          obtain ⟨hs411, hw⟩ := hw
          refine q_bud (b' := b + 0) (t' := t + 0) (Nat.add_zero _) (Nat.add_zero _) ?_
          refine q_callV (b := b) (t := t) (gX9_restore _ _ _ _ hw) mlL_198 kX9_restore vX9_restore rfl hs411 ⟨rfl, rfl⟩ (by decide) rfl (Nat.le_of_ble_eq_true rfl) eL_law_1432 (kI fun r412 h413 hw => ?_)
          refine q_aload_nr eL_law_1435 rfl ?_
          refine q_aload_nr eL_law_1436 rfl ?_
          refine q_iload_n eL_law_1437 rfl ?_
          refine q_iconst (v := nI 1) eL_law_1438 (by decide) ?_
          refine q_iadd eL_law_1439 ?_
          obtain ⟨hi414, hw⟩ := hw
          refine q_sld rfl hi414 eL_law_1440 ?_
          obtain ⟨hs415, hw⟩ := hw
          refine q_bud (b' := b + 0) (t' := t + 0) (Nat.add_zero _) (Nat.add_zero _) ?_
          refine q_callV (b := b) (t := t) (gX10_restore _ _ _ _ hw) mlL_201 kX10_restore vX10_restore rfl hs415 ⟨rfl, rfl⟩ (by decide) rfl (Nat.le_of_ble_eq_true rfl) eL_law_1441 (kI fun r416 h417 hw => ?_)
          obtain ⟨hw1, hw2⟩ := hw
          refine q_icmp_eq (tgt := 1472) eL_law_1444 (by decide) (fun c => ?_) (fun c => ?_)
          · have hw := hw1 c
            refine x_iinc (v := (x3 + nI 6)) (ls' := [_, _, _, _]) eL_law_1472 rfl rfl rfl rfl ?_
            refine q_goto (tgt := 18) eL_law_1475 (by decide) ?_
            refine q_le (ls' := [some _, some _, some _, some _]) ⟨rfl, rfl, rfl, rfl, trivial⟩ ?_
            exact ih _ _ _ _ _ _ hw
          · have hw := hw2 c
            refine q_iconst (v := nI 0) eL_law_1447 (by decide) ?_
            exact q_retZ rfl (by decide) eL_law_1448 ⟨_, rfl, hw⟩
        · have hw := hw46 (x_toInt (by decide) hk)
          refine q_tabIn (off := 1416) (tgt := 1449) eL_law_33 (by omega) (by omega) (by rw [hk]; rfl) (by decide) ?_
          refine q_aload_nr eL_law_1449 rfl ?_
          refine q_aload_nr eL_law_1450 rfl ?_
          refine q_iload_n eL_law_1451 rfl ?_
          refine q_iconst (v := nI 1) eL_law_1452 (by decide) ?_
          refine q_iadd eL_law_1453 ?_
          obtain ⟨hi418, hw⟩ := hw
          refine q_sld rfl hi418 eL_law_1454 ?_
          obtain ⟨hs419, hw⟩ := hw
          refine q_bud (b' := b + 0) (t' := t + 0) (Nat.add_zero _) (Nat.add_zero _) ?_
          refine q_callV (b := b) (t := t) (gX9_count _ _ _ _ hw) mlL_202 kX9_count vX9_count rfl hs419 ⟨rfl, rfl⟩ (by decide) rfl (Nat.le_of_ble_eq_true rfl) eL_law_1455 (kI fun r420 h421 hw => ?_)
          refine q_aload_nr eL_law_1458 rfl ?_
          refine q_aload_nr eL_law_1459 rfl ?_
          refine q_iload_n eL_law_1460 rfl ?_
          refine q_iconst (v := nI 1) eL_law_1461 (by decide) ?_
          refine q_iadd eL_law_1462 ?_
          obtain ⟨hi422, hw⟩ := hw
          refine q_sld rfl hi422 eL_law_1463 ?_
          obtain ⟨hs423, hw⟩ := hw
          refine q_bud (b' := b + 0) (t' := t + 0) (Nat.add_zero _) (Nat.add_zero _) ?_
          refine q_callV (b := b) (t := t) (gX10_count _ _ _ _ hw) mlL_205 kX10_count vX10_count rfl hs423 ⟨rfl, rfl⟩ (by decide) rfl (Nat.le_of_ble_eq_true rfl) eL_law_1464 (kI fun r424 h425 hw => ?_)
          obtain ⟨hw1, hw2⟩ := hw
          refine q_icmp_eq (tgt := 1472) eL_law_1467 (by decide) (fun c => ?_) (fun c => ?_)
          · have hw := hw1 c
            refine x_iinc (v := (x3 + nI 6)) (ls' := [_, _, _, _]) eL_law_1472 rfl rfl rfl rfl ?_
            refine q_goto (tgt := 18) eL_law_1475 (by decide) ?_
            refine q_le (ls' := [some _, some _, some _, some _]) ⟨rfl, rfl, rfl, rfl, trivial⟩ ?_
            exact ih _ _ _ _ _ _ hw
          · have hw := hw2 c
            refine q_iconst (v := nI 0) eL_law_1470 (by decide) ?_
            exact q_retZ rfl (by decide) eL_law_1471 ⟨_, rfl, hw⟩
def wL_law (L : Nat) (xs : Nat → Int32) (b t : Nat)  (h : MH) (Q : Int32 → MH → Prop) : Prop := 1 ≤ b ∧ 12 ≤ t ∧ ∀ a3, a3 = hN h → ∀ h4, h4 = al h (1, 9) → 94 ≤ (b - 1) ∧ 3937 ≤ (t - 12) ∧ wX9_init 94 3937 a3 h4 (fun h8 => 1 ≤ (b - 95) ∧ 37 ≤ (t - 3949) ∧ ∀ a11, a11 = hN h8 → ∀ h12, h12 = al h8 (1, 10) → 21 ≤ (b - 96) ∧ 71442 ≤ (t - 3986) ∧ wX10_init 21 71442 a11 h12 (fun h16 => ∃ m426, wL_law_18 Q L xs m426 (b - 117) (t - 75428) a3 a11 (nI 0) h16))
set_option maxHeartbeats 4000000 in
set_option maxRecDepth 100000 in
theorem gL_law {nm : String} {L : Nat} {xs : Nat → Int32} (b t : Nat)  (h : MH) (Q : Int32 → MH → Prop) (hw : wL_law L xs b t  h Q) : Wm (ML_law nm L xs) 305 b t 0 [some (.ref 127), none, none, none] [] h (pI Q) := by
  unfold wL_law at hw
  obtain ⟨hc1, hc2, hw⟩ := hw
  have hw := hw _ rfl _ rfl
  refine q_bud (b' := (b - 1) + 1) (t' := (t - 12) + 12) (by omega) (by omega) ?_
  refine q_new (c := 9) rfl clL_7 inX9 iNX9 eL_law_0 ?_
  refine q_dup eL_law_3 rfl ?_
  obtain ⟨hc5, hc6, hw⟩ := hw
  refine q_bud (b' := (b - 95) + 94) (t' := (t - 3949) + 3937) (by omega) (by omega) ?_
  refine q_callI (b := (b - 95)) (t := (t - 3949)) (gX9_init 94 3937 _ _ _ hw) rfl mlL_9 kX9_init vX9_init rfl (by decide) rfl (Nat.le_of_ble_eq_true rfl) eL_law_4 (kV fun h8 hw => ?_)
  refine x_astore_nr (ls' := [_, _, _, _]) eL_law_7 (Nat.le_of_ble_eq_true rfl) rfl rfl ?_
  obtain ⟨hc9, hc10, hw⟩ := hw
  have hw := hw _ rfl _ rfl
  refine q_bud (b' := (b - 96) + 1) (t' := (t - 3986) + 37) (by omega) (by omega) ?_
  refine q_new (c := 10) rfl clL_10 inX10 iNX10 eL_law_8 ?_
  refine q_dup eL_law_11 rfl ?_
  obtain ⟨hc13, hc14, hw⟩ := hw
  refine q_bud (b' := (b - 117) + 21) (t' := (t - 75428) + 71442) (by omega) (by omega) ?_
  refine q_callI (b := (b - 117)) (t := (t - 75428)) (gX10_init 21 71442 _ _ _ hw) rfl mlL_12 kX10_init vX10_init rfl (by decide) rfl (Nat.le_of_ble_eq_true rfl) eL_law_12 (kV fun h16 hw => ?_)
  refine x_astore_nr (ls' := [_, _, _, _]) eL_law_15 (Nat.le_of_ble_eq_true rfl) rfl rfl ?_
  refine q_iconst (v := nI 0) eL_law_16 (by decide) ?_
  refine x_istore_n (ls' := [_, _, _, _]) eL_law_17 (Nat.le_of_ble_eq_true rfl) rfl rfl ?_
  refine q_le (ls' := [some _, some _, some _, some _]) ⟨rfl, rfl, rfl, rfl, trivial⟩ ?_
  obtain ⟨m426, hw⟩ := hw
  exact tL_law_18 m426 _ _ _ _ _ _ hw
