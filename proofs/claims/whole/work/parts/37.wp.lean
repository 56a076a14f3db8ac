/-! ===== methods: what each needs and does (by program) ===== -/
def wX10_tries_25 (Q : MH → Prop) (K2 : Nat → Int32 → MH → Prop) : Nat → Nat → Int32 → Int32 → MH → Prop
  | 0, _, _, _, _ => False
  | n + 1, x0, x1, x2, h => hS h x0 = (1, 10) ∧ ∃ a10, hR h x0 1 = some a10 ∧ ∃ n13, hS h a10 = (2, n13) ∧ vp_in ((nI 39 + x1)) n13 ∧ (hI h a10 ((nI 39 + x1)).toNatClampNeg ≤ x2 → K2 x0 (x1 + nI 1) h) ∧ (¬ (hI h a10 ((nI 39 + x1)).toNatClampNeg ≤ x2) → wX10_runOf x0 ((nI 2 * x1) + x2) (nI 0) h (fun r15 h16 => (¬ (r15 = 0) → wX10_tries_25 Q K2 n x0 x1 (x2 + nI 1) h16) ∧ (r15 = 0 → hS h16 x0 = (1, 10) ∧ wX10_triesOne x0 x1 ((nI 2 * x1) + x2) h16 (fun h19 => wX10_tries_25 Q K2 n x0 x1 (x2 + nI 1) h19))))
set_option maxHeartbeats 4000000 in
set_option maxRecDepth 100000 in
theorem tX10_tries_25 {Q : MH → Prop} {K2 : Nat → Int32 → MH → Prop} (hK2 : ∀ (h : MH) (x0 : Nat) (x1 : Int32), K2 x0 x1 h → Wm MX10_tries 5 0 0 2 [some (.ref (x0)), some (.int (x1)), none] [] h (pV Q)) : ∀ (n : Nat) (h : MH) (x0 : Nat) (x1 : Int32) (x2 : Int32), wX10_tries_25 Q K2 n x0 x1 x2 h → Wm MX10_tries 5 0 0 25 [some (.ref (x0)), some (.int (x1)), some (.int (x2))] [] h (pV Q) := by
  intro n
  induction n with
  | zero => intro h x0 x1 x2 hw; exact hw.elim
  | succ n ih =>
    intro h x0 x1 x2 hw
    unfold wX10_tries_25 at hw
    refine q_iload_n eX10_tries_25 rfl ?_
    refine q_aload_nr eX10_tries_26 rfl ?_
    obtain ⟨hs9, hw⟩ := hw
    obtain ⟨a10, hr11, hw⟩ := hw
    refine q_getR flX10_13 rfl hs9 hr11 eX10_tries_27 ?_
    refine q_bipush (v := nI 39) eX10_tries_30 (by decide) ?_
    refine q_iload_n eX10_tries_32 rfl ?_
    refine q_iadd eX10_tries_33 ?_
    obtain ⟨n13, hs12, hw⟩ := hw
    obtain ⟨hi14, hw⟩ := hw
    refine q_iald hs12 hi14 eX10_tries_34 ?_
    obtain ⟨hw1, hw2⟩ := hw
    refine q_icmp_ge (tgt := 67) eX10_tries_35 (by decide) (fun c => ?_) (fun c => ?_)
    · have hw := hw1 c
      refine x_iinc (v := (x1 + nI 1)) (ls' := [_, _, _]) eX10_tries_67 rfl rfl rfl rfl ?_
      refine q_goto (tgt := 2) eX10_tries_70 (by decide) ?_
      refine q_le (ls' := [some _, some _, none]) ⟨rfl, rfl, trivial⟩ ?_
      exact hK2 _ _ _ hw
    · have hw := hw2 c
      refine q_aload_nr eX10_tries_38 rfl ?_
      refine q_iconst (v := nI 2) eX10_tries_39 (by decide) ?_
      refine q_iload_n eX10_tries_40 rfl ?_
      refine q_imul eX10_tries_41 ?_
      refine q_iload_n eX10_tries_42 rfl ?_
      refine q_iadd eX10_tries_43 ?_
      refine q_iconst (v := nI 0) eX10_tries_44 (by decide) ?_
      refine q_callV (b := 0) (t := 0) (gX10_runOf _ _ _ _ _ hw) mlX10_260 kX10_runOf vX10_runOf rfl hs9 ⟨rfl, rfl⟩ (by decide) rfl (Nat.le_of_ble_eq_true rfl) eX10_tries_45 (kI fun r15 h16 hw => ?_)
      obtain ⟨hw1, hw2⟩ := hw
      refine q_if_ne (tgt := 61) eX10_tries_48 (by decide) (fun c => ?_) (fun c => ?_)
      · have hw := hw1 c
        refine x_iinc (v := (x2 + nI 1)) (ls' := [_, _, _]) eX10_tries_61 rfl rfl rfl rfl ?_
        refine q_goto (tgt := 25) eX10_tries_64 (by decide) ?_
        refine q_le (ls' := [some _, some _, some _]) ⟨rfl, rfl, rfl, trivial⟩ ?_
        exact ih _ _ _ _ hw
      · have hw := hw2 c
        refine q_aload_nr eX10_tries_51 rfl ?_
        refine q_iload_n eX10_tries_52 rfl ?_
        refine q_iconst (v := nI 2) eX10_tries_53 (by decide) ?_
        refine q_iload_n eX10_tries_54 rfl ?_
        refine q_imul eX10_tries_55 ?_
        refine q_iload_n eX10_tries_56 rfl ?_
        refine q_iadd eX10_tries_57 ?_
        obtain ⟨hs17, hw⟩ := hw
        refine q_callV (b := 0) (t := 0) (gX10_triesOne _ _ _ _ _ hw) mlX10_277 kX10_triesOne vX10_triesOne rfl hs17 ⟨rfl, rfl⟩ (by decide) rfl (Nat.le_of_ble_eq_true rfl) eX10_tries_58 (kV fun h19 hw => ?_)
        refine x_iinc (v := (x2 + nI 1)) (ls' := [_, _, _]) eX10_tries_61 rfl rfl rfl rfl ?_
        refine q_goto (tgt := 25) eX10_tries_64 (by decide) ?_
        refine q_le (ls' := [some _, some _, some _]) ⟨rfl, rfl, rfl, trivial⟩ ?_
        exact ih _ _ _ _ hw
def wX10_tries_2 (Q : MH → Prop) : Nat → Nat → Int32 → MH → Prop
  | 0, _, _, _ => False
  | n + 1, x0, x1, h => hS h x0 = (1, 10) ∧ ∃ a2, hR h x0 1 = some a2 ∧ ∃ n5, hS h a2 = (2, n5) ∧ vp_in (nI 2) n5 ∧ (hI h a2 (nI 2).toNatClampNeg ≤ x1 → Q h) ∧ (¬ (hI h a2 (nI 2).toNatClampNeg ≤ x1) → wX10_hasFailed x0 x1 h (fun r7 h8 => (¬ (r7 = 0) → ∃ m20, wX10_tries_25 Q (wX10_tries_2 Q n) m20 x0 x1 (nI 0) h8) ∧ (r7 = 0 → wX10_tries_2 Q n x0 (x1 + nI 1) h8)))
set_option maxHeartbeats 4000000 in
set_option maxRecDepth 100000 in
theorem tX10_tries_2 {Q : MH → Prop} : ∀ (n : Nat) (h : MH) (x0 : Nat) (x1 : Int32), wX10_tries_2 Q n x0 x1 h → Wm MX10_tries 5 0 0 2 [some (.ref (x0)), some (.int (x1)), none] [] h (pV Q) := by
  intro n
  induction n with
  | zero => intro h x0 x1 hw; exact hw.elim
  | succ n ih =>
    intro h x0 x1 hw
    unfold wX10_tries_2 at hw
    refine q_iload_n eX10_tries_2 rfl ?_
    refine q_aload_nr eX10_tries_3 rfl ?_
    obtain ⟨hs1, hw⟩ := hw
    obtain ⟨a2, hr3, hw⟩ := hw
    refine q_getR flX10_13 rfl hs1 hr3 eX10_tries_4 ?_
    refine q_iconst (v := nI 2) eX10_tries_7 (by decide) ?_
    obtain ⟨n5, hs4, hw⟩ := hw
    obtain ⟨hi6, hw⟩ := hw
    refine q_iald hs4 hi6 eX10_tries_8 ?_
    obtain ⟨hw1, hw2⟩ := hw
    refine q_icmp_ge (tgt := 73) eX10_tries_9 (by decide) (fun c => ?_) (fun c => ?_)
    · have hw := hw1 c
      exact q_retV rfl eX10_tries_73 ⟨rfl, hw⟩
    · have hw := hw2 c
      refine q_aload_nr eX10_tries_12 rfl ?_
      refine q_iload_n eX10_tries_13 rfl ?_
      refine q_callV (b := 0) (t := 0) (gX10_hasFailed _ _ _ _ hw) mlX10_274 kX10_hasFailed vX10_hasFailed rfl hs1 ⟨rfl, rfl⟩ (by decide) rfl (Nat.le_of_ble_eq_true rfl) eX10_tries_14 (kI fun r7 h8 hw => ?_)
      obtain ⟨hw1, hw2⟩ := hw
      refine q_if_ne (tgt := 23) eX10_tries_17 (by decide) (fun c => ?_) (fun c => ?_)
      · have hw := hw1 c
        refine q_iconst (v := nI 0) eX10_tries_23 (by decide) ?_
        refine x_istore_n (ls' := [_, _, _]) eX10_tries_24 (by decide) rfl rfl ?_
        refine q_le (ls' := [some _, some _, some _]) ⟨rfl, rfl, rfl, trivial⟩ ?_
        obtain ⟨m20, hw⟩ := hw
        exact tX10_tries_25 ih m20 _ _ _ _ hw
      · have hw := hw2 c
        refine q_goto (tgt := 67) eX10_tries_20 (by decide) ?_
        refine x_iinc (v := (x1 + nI 1)) (ls' := [_, _, _]) eX10_tries_67 rfl rfl rfl rfl ?_
        refine q_goto (tgt := 2) eX10_tries_70 (by decide) ?_
        refine q_le (ls' := [some _, some _, none]) ⟨rfl, rfl, trivial⟩ ?_
        exact ih _ _ _ hw
def wX10_tries (x0 : Nat) (h : MH) (Q : MH → Prop) : Prop := ∃ m21, wX10_tries_2 Q m21 x0 (nI 0) h
set_option maxHeartbeats 4000000 in
set_option maxRecDepth 100000 in
theorem gX10_tries (x0 : Nat) (h : MH) (Q : MH → Prop) (hw : wX10_tries x0 h Q) : Cm MX10_tries 5 0 0 [.ref (x0)] h (pV Q) := by
  refine cm_of [some (.ref (x0)), none, none] rfl pnX10 (Nat.le_of_ble_eq_true rfl) rfl ?_
  unfold wX10_tries at hw
  refine q_iconst (v := nI 0) eX10_tries_0 (by decide) ?_
  refine x_istore_n (ls' := [_, _, _]) eX10_tries_1 (by decide) rfl rfl ?_
  refine q_le (ls' := [some _, some _, none]) ⟨rfl, rfl, trivial⟩ ?_
  obtain ⟨m21, hw⟩ := hw
  exact tX10_tries_2 m21 _ _ _ hw
def wX10_lostNow_16 (Q : Int32 → MH → Prop) (K4 : Nat → Int32 → Int32 → MH → Prop) : Nat → Nat → Int32 → Int32 → Int32 → MH → Prop
  | 0, _, _, _, _, _ => False
  | n + 1, x0, x1, x2, x3, h => hS h x0 = (1, 10) ∧ ∃ a8, hR h x0 1 = some a8 ∧ ∃ n11, hS h a8 = (2, n11) ∧ vp_in ((nI 39 + x2)) n11 ∧ (hI h a8 ((nI 39 + x2)).toNatClampNeg ≤ x3 → K4 x0 x1 (x2 + nI 1) h) ∧ (¬ (hI h a8 ((nI 39 + x2)).toNatClampNeg ≤ x3) → wX10_hasFailed x0 x2 h (fun r13 h14 => (r13 = 0 → wX10_lostNow_16 Q K4 n x0 (x1 + nI 0) x2 (x3 + nI 1) h14) ∧ (¬ (r13 = 0) → hS h14 x0 = (1, 10) ∧ wX10_runOf x0 ((nI 2 * x2) + x3) (nI 0) h14 (fun r16 h17 => wX10_lostNow_16 Q K4 n x0 (x1 + (if r16 = 0 then nI 1 else nI 0)) x2 (x3 + nI 1) h17))))
set_option maxHeartbeats 4000000 in
set_option maxRecDepth 100000 in
theorem tX10_lostNow_16 {Q : Int32 → MH → Prop} {K4 : Nat → Int32 → Int32 → MH → Prop} (hK4 : ∀ (h : MH) (x0 : Nat) (x1 : Int32) (x2 : Int32), K4 x0 x1 x2 h → Wm MX10_lostNow 2 0 0 4 [some (.ref (x0)), some (.int (x1)), some (.int (x2)), none] [] h (pI Q)) : ∀ (n : Nat) (h : MH) (x0 : Nat) (x1 : Int32) (x2 : Int32) (x3 : Int32), wX10_lostNow_16 Q K4 n x0 x1 x2 x3 h → Wm MX10_lostNow 2 0 0 16 [some (.ref (x0)), some (.int (x1)), some (.int (x2)), some (.int (x3))] [] h (pI Q) := by
  intro n
  induction n with
  | zero => intro h x0 x1 x2 x3 hw; exact hw.elim
  | succ n ih =>
    intro h x0 x1 x2 x3 hw
    unfold wX10_lostNow_16 at hw
    refine q_iload_n eX10_lostNow_16 rfl ?_
    refine q_aload_nr eX10_lostNow_17 rfl ?_
    obtain ⟨hs7, hw⟩ := hw
    obtain ⟨a8, hr9, hw⟩ := hw
    refine q_getR flX10_13 rfl hs7 hr9 eX10_lostNow_18 ?_
    refine q_bipush (v := nI 39) eX10_lostNow_21 (by decide) ?_
    refine q_iload_n eX10_lostNow_23 rfl ?_
    refine q_iadd eX10_lostNow_24 ?_
    obtain ⟨n11, hs10, hw⟩ := hw
    obtain ⟨hi12, hw⟩ := hw
    refine q_iald hs10 hi12 eX10_lostNow_25 ?_
    obtain ⟨hw1, hw2⟩ := hw
    refine q_icmp_ge (tgt := 64) eX10_lostNow_26 (by decide) (fun c => ?_) (fun c => ?_)
    · have hw := hw1 c
      refine x_iinc (v := (x2 + nI 1)) (ls' := [_, _, _, _]) eX10_lostNow_64 rfl rfl rfl rfl ?_
      refine q_goto (tgt := 4) eX10_lostNow_67 (by decide) ?_
      refine q_le (ls' := [some _, some _, some _, none]) ⟨rfl, rfl, rfl, trivial⟩ ?_
      exact hK4 _ _ _ _ hw
    · have hw := hw2 c
      refine q_iload_n eX10_lostNow_29 rfl ?_
      refine q_aload_nr eX10_lostNow_30 rfl ?_
      refine q_iload_n eX10_lostNow_31 rfl ?_
      refine q_callV (b := 0) (t := 0) (gX10_hasFailed _ _ _ _ hw) mlX10_274 kX10_hasFailed vX10_hasFailed rfl hs7 ⟨rfl, rfl⟩ (by decide) rfl (Nat.le_of_ble_eq_true rfl) eX10_lostNow_32 (kI fun r13 h14 hw => ?_)
      obtain ⟨hw1, hw2⟩ := hw
      refine q_if_eq (tgt := 55) eX10_lostNow_35 (by decide) (fun c => ?_) (fun c => ?_)
      · have hw := hw1 c
        refine q_iconst (v := nI 0) eX10_lostNow_55 (by decide) ?_
        refine q_iadd eX10_lostNow_56 ?_
        refine x_istore_n (ls' := [_, _, _, _]) eX10_lostNow_57 (by decide) rfl rfl ?_
        refine x_iinc (v := (x3 + nI 1)) (ls' := [_, _, _, _]) eX10_lostNow_58 rfl rfl rfl rfl ?_
        refine q_goto (tgt := 16) eX10_lostNow_61 (by decide) ?_
        refine q_le (ls' := [some _, some _, some _, some _]) ⟨rfl, rfl, rfl, rfl, trivial⟩ ?_
        exact ih _ _ _ _ _ hw
      · have hw := hw2 c
        refine q_aload_nr eX10_lostNow_38 rfl ?_
        refine q_iconst (v := nI 2) eX10_lostNow_39 (by decide) ?_
        refine q_iload_n eX10_lostNow_40 rfl ?_
        refine q_imul eX10_lostNow_41 ?_
        refine q_iload_n eX10_lostNow_42 rfl ?_
        refine q_iadd eX10_lostNow_43 ?_
        refine q_iconst (v := nI 0) eX10_lostNow_44 (by decide) ?_
        obtain ⟨hs15, hw⟩ := hw
        refine q_callV (b := 0) (t := 0) (gX10_runOf _ _ _ _ _ hw) mlX10_260 kX10_runOf vX10_runOf rfl hs15 ⟨rfl, rfl⟩ (by decide) rfl (Nat.le_of_ble_eq_true rfl) eX10_lostNow_45 (kI fun r16 h17 hw => ?_)
        have hj19 : Wm MX10_lostNow 2 0 0 56 [some (.ref (x0)), some (.int (x1)), some (.int (x2)), some (.int (x3))] [.int ((if r16 = 0 then nI 1 else nI 0)), .int (x1)] h17 (pI Q) := by
          refine q_iadd eX10_lostNow_56 ?_
          refine x_istore_n (ls' := [_, _, _, _]) eX10_lostNow_57 (by decide) rfl rfl ?_
          refine x_iinc (v := (x3 + nI 1)) (ls' := [_, _, _, _]) eX10_lostNow_58 rfl rfl rfl rfl ?_
          refine q_goto (tgt := 16) eX10_lostNow_61 (by decide) ?_
          refine q_le (ls' := [some _, some _, some _, some _]) ⟨rfl, rfl, rfl, rfl, trivial⟩ ?_
          exact ih _ _ _ _ _ hw
        refine q_if_ne (tgt := 55) eX10_lostNow_48 (by decide) (fun c => ?_) (fun c => ?_)
        · refine q_iconst (v := nI 0) eX10_lostNow_55 (by decide) ?_
          rw [if_neg c] at hj19
          exact hj19
        · refine q_iconst (v := nI 1) eX10_lostNow_51 (by decide) ?_
          refine q_goto (tgt := 56) eX10_lostNow_52 (by decide) ?_
          rw [if_pos c] at hj19
          exact hj19
def wX10_lostNow_4 (Q : Int32 → MH → Prop) : Nat → Nat → Int32 → Int32 → MH → Prop
  | 0, _, _, _, _ => False
  | n + 1, x0, x1, x2, h => hS h x0 = (1, 10) ∧ ∃ a2, hR h x0 1 = some a2 ∧ ∃ n5, hS h a2 = (2, n5) ∧ vp_in (nI 2) n5 ∧ (hI h a2 (nI 2).toNatClampNeg ≤ x2 → Q (x1) h) ∧ (¬ (hI h a2 (nI 2).toNatClampNeg ≤ x2) → ∃ m20, wX10_lostNow_16 Q (wX10_lostNow_4 Q n) m20 x0 x1 x2 (nI 0) h)
set_option maxHeartbeats 4000000 in
set_option maxRecDepth 100000 in
theorem tX10_lostNow_4 {Q : Int32 → MH → Prop} : ∀ (n : Nat) (h : MH) (x0 : Nat) (x1 : Int32) (x2 : Int32), wX10_lostNow_4 Q n x0 x1 x2 h → Wm MX10_lostNow 2 0 0 4 [some (.ref (x0)), some (.int (x1)), some (.int (x2)), none] [] h (pI Q) := by
  intro n
  induction n with
  | zero => intro h x0 x1 x2 hw; exact hw.elim
  | succ n ih =>
    intro h x0 x1 x2 hw
    unfold wX10_lostNow_4 at hw
    refine q_iload_n eX10_lostNow_4 rfl ?_
    refine q_aload_nr eX10_lostNow_5 rfl ?_
    obtain ⟨hs1, hw⟩ := hw
    obtain ⟨a2, hr3, hw⟩ := hw
    refine q_getR flX10_13 rfl hs1 hr3 eX10_lostNow_6 ?_
    refine q_iconst (v := nI 2) eX10_lostNow_9 (by decide) ?_
    obtain ⟨n5, hs4, hw⟩ := hw
    obtain ⟨hi6, hw⟩ := hw
    refine q_iald hs4 hi6 eX10_lostNow_10 ?_
    obtain ⟨hw1, hw2⟩ := hw
    refine q_icmp_ge (tgt := 70) eX10_lostNow_11 (by decide) (fun c => ?_) (fun c => ?_)
    · have hw := hw1 c
      refine q_iload_n eX10_lostNow_70 rfl ?_
      exact q_ret rfl eX10_lostNow_71 ⟨_, rfl, hw⟩
    · have hw := hw2 c
      refine q_iconst (v := nI 0) eX10_lostNow_14 (by decide) ?_
      refine x_istore_n (ls' := [_, _, _, _]) eX10_lostNow_15 (by decide) rfl rfl ?_
      refine q_le (ls' := [some _, some _, some _, some _]) ⟨rfl, rfl, rfl, rfl, trivial⟩ ?_
      obtain ⟨m20, hw⟩ := hw
      exact tX10_lostNow_16 ih m20 _ _ _ _ _ hw
def wX10_lostNow (x0 : Nat) (h : MH) (Q : Int32 → MH → Prop) : Prop := ∃ m21, wX10_lostNow_4 Q m21 x0 (nI 0) (nI 0) h
set_option maxHeartbeats 4000000 in
set_option maxRecDepth 100000 in
theorem gX10_lostNow (x0 : Nat) (h : MH) (Q : Int32 → MH → Prop) (hw : wX10_lostNow x0 h Q) : Cm MX10_lostNow 2 0 0 [.ref (x0)] h (pI Q) := by
  refine cm_of [some (.ref (x0)), none, none, none] rfl pnX10 (Nat.le_of_ble_eq_true rfl) rfl ?_
  unfold wX10_lostNow at hw
  refine q_iconst (v := nI 0) eX10_lostNow_0 (by decide) ?_
  refine x_istore_n (ls' := [_, _, _, _]) eX10_lostNow_1 (by decide) rfl rfl ?_
  refine q_iconst (v := nI 0) eX10_lostNow_2 (by decide) ?_
  refine x_istore_n (ls' := [_, _, _, _]) eX10_lostNow_3 (by decide) rfl rfl ?_
  refine q_le (ls' := [some _, some _, some _, none]) ⟨rfl, rfl, rfl, trivial⟩ ?_
  obtain ⟨m21, hw⟩ := hw
  exact tX10_lostNow_4 m21 _ _ _ _ hw
def wX10_goesFail_15 (Q : MH → Prop) : Nat → Nat → Int32 → Int32 → MH → Prop
  | 0, _, _, _, _ => False
  | n + 1, x0, x1, x2, h => (nI 20 ≤ x2 → hS h x0 = (1, 10) ∧ wX10_tries x0 h (fun h11 => Q h11)) ∧ (¬ (nI 20 ≤ x2) → hS h x0 = (1, 10) ∧ wX10_runOf x0 x2 (nI 2) h (fun r13 h14 => wX10_isIn ((r13).toInt64) x1 h14 (fun r15 h16 => (r15 = 0 → wX10_goesFail_15 Q n x0 x1 (x2 + nI 1) h16) ∧ (¬ (r15 = 0) → hS h16 x0 = (1, 10) ∧ wX10_runsOn x0 x2 (-1 : Int32) (nI 0) (nI 0) h16 (fun h19 => wX10_goesFail_15 Q n x0 x1 (x2 + nI 1) h19)))))
set_option maxHeartbeats 4000000 in
set_option maxRecDepth 100000 in
theorem tX10_goesFail_15 {Q : MH → Prop} : ∀ (n : Nat) (h : MH) (x0 : Nat) (x1 : Int32) (x2 : Int32), wX10_goesFail_15 Q n x0 x1 x2 h → Wm MX10_goesFail 6 0 0 15 [some (.ref (x0)), some (.int (x1)), some (.int (x2))] [] h (pV Q) := by
  intro n
  induction n with
  | zero => intro h x0 x1 x2 hw; exact hw.elim
  | succ n ih =>
    intro h x0 x1 x2 hw
    unfold wX10_goesFail_15 at hw
    refine q_iload_n eX10_goesFail_15 rfl ?_
    refine q_bipush (v := nI 20) eX10_goesFail_16 (by decide) ?_
    obtain ⟨hw1, hw2⟩ := hw
    refine q_icmp_ge (tgt := 49) eX10_goesFail_18 (by decide) (fun c => ?_) (fun c => ?_)
    · have hw := hw1 c
      refine q_aload_nr eX10_goesFail_49 rfl ?_
      obtain ⟨hs9, hw⟩ := hw
      refine q_callV (b := 0) (t := 0) (gX10_tries _ _ _ hw) mlX10_281 kX10_tries vX10_tries rfl hs9 ⟨rfl, rfl⟩ (by decide) rfl (Nat.le_of_ble_eq_true rfl) eX10_goesFail_50 (kV fun h11 hw => ?_)
      exact q_retV rfl eX10_goesFail_53 ⟨rfl, hw⟩
    · have hw := hw2 c
      refine q_aload_nr eX10_goesFail_21 rfl ?_
      refine q_iload_n eX10_goesFail_22 rfl ?_
      refine q_iconst (v := nI 2) eX10_goesFail_23 (by decide) ?_
      obtain ⟨hs12, hw⟩ := hw
      refine q_callV (b := 0) (t := 0) (gX10_runOf _ _ _ _ _ hw) mlX10_260 kX10_runOf vX10_runOf rfl hs12 ⟨rfl, rfl⟩ (by decide) rfl (Nat.le_of_ble_eq_true rfl) eX10_goesFail_24 (kI fun r13 h14 hw => ?_)
      refine q_i2l eX10_goesFail_27 ?_
      refine q_iload_n eX10_goesFail_28 rfl ?_
      refine q_callS (b := 0) (t := 0) (gX10_isIn _ _ _ _ hw) mlX10_232 kX10_isIn sX10_isIn rfl (by decide) rfl (Nat.le_of_ble_eq_true rfl) eX10_goesFail_29 (kI fun r15 h16 hw => ?_)
      obtain ⟨hw1, hw2⟩ := hw
      refine q_if_eq (tgt := 43) eX10_goesFail_32 (by decide) (fun c => ?_) (fun c => ?_)
      · have hw := hw1 c
        refine x_iinc (v := (x2 + nI 1)) (ls' := [_, _, _]) eX10_goesFail_43 rfl rfl rfl rfl ?_
        refine q_goto (tgt := 15) eX10_goesFail_46 (by decide) ?_
        refine q_le (ls' := [some _, some _, some _]) ⟨rfl, rfl, rfl, trivial⟩ ?_
        exact ih _ _ _ _ hw
      · have hw := hw2 c
        refine q_aload_nr eX10_goesFail_35 rfl ?_
        refine q_iload_n eX10_goesFail_36 rfl ?_
        refine q_iconst (v := (-1 : Int32)) eX10_goesFail_37 (by decide) ?_
        refine q_iconst (v := nI 0) eX10_goesFail_38 (by decide) ?_
        refine q_iconst (v := nI 0) eX10_goesFail_39 (by decide) ?_
        obtain ⟨hs17, hw⟩ := hw
        refine q_callV (b := 0) (t := 0) (gX10_runsOn _ _ _ _ _ _ _ hw) mlX10_270 kX10_runsOn vX10_runsOn rfl hs17 ⟨rfl, rfl⟩ (by decide) rfl (Nat.le_of_ble_eq_true rfl) eX10_goesFail_40 (kV fun h19 hw => ?_)
        refine x_iinc (v := (x2 + nI 1)) (ls' := [_, _, _]) eX10_goesFail_43 rfl rfl rfl rfl ?_
        refine q_goto (tgt := 15) eX10_goesFail_46 (by decide) ?_
        refine q_le (ls' := [some _, some _, some _]) ⟨rfl, rfl, rfl, trivial⟩ ?_
        exact ih _ _ _ _ hw
def wX10_goesFail (x0 : Nat) (x1 : Int32) (h : MH) (Q : MH → Prop) : Prop := hS h x0 = (1, 10) ∧ ∃ a2, hR h x0 1 = some a2 ∧ ∃ n5, hS h a2 = (2, n5) ∧ vp_in (nI 113) n5 ∧ vp_in (nI 113) n5 ∧ ∀ h8, h8 = sI h a2 (nI 113).toNatClampNeg ((hI h a2 (nI 113).toNatClampNeg ||| (nI 1 <<< (x1 &&& 31)))) → ∃ m20, wX10_goesFail_15 Q m20 x0 x1 (nI 0) h8
set_option maxHeartbeats 4000000 in
set_option maxRecDepth 100000 in
theorem gX10_goesFail (x0 : Nat) (x1 : Int32) (h : MH) (Q : MH → Prop) (hw : wX10_goesFail x0 x1 h Q) : Cm MX10_goesFail 6 0 0 [.ref (x0), .int (x1)] h (pV Q) := by
  refine cm_of [some (.ref (x0)), some (.int (x1)), none] rfl pnX10 (Nat.le_of_ble_eq_true rfl) rfl ?_
  unfold wX10_goesFail at hw
  refine q_aload_nr eX10_goesFail_0 rfl ?_
  obtain ⟨hs1, hw⟩ := hw
  obtain ⟨a2, hr3, hw⟩ := hw
  refine q_getR flX10_13 rfl hs1 hr3 eX10_goesFail_1 ?_
  refine q_bipush (v := nI 113) eX10_goesFail_4 (by decide) ?_
  refine q_dup2 eX10_goesFail_6 rfl rfl ?_
  obtain ⟨n5, hs4, hw⟩ := hw
  obtain ⟨hi6, hw⟩ := hw
  refine q_iald hs4 hi6 eX10_goesFail_7 ?_
  refine q_iconst (v := nI 1) eX10_goesFail_8 (by decide) ?_
  refine q_iload_n eX10_goesFail_9 rfl ?_
  refine q_ishl eX10_goesFail_10 ?_
  refine q_ior eX10_goesFail_11 ?_
  obtain ⟨hi7, hw⟩ := hw
  have hw := hw _ rfl
  refine q_iast hs4 hi7 eX10_goesFail_12 ?_
  refine q_iconst (v := nI 0) eX10_goesFail_13 (by decide) ?_
  refine x_istore_n (ls' := [_, _, _]) eX10_goesFail_14 (by decide) rfl rfl ?_
  refine q_le (ls' := [some _, some _, some _]) ⟨rfl, rfl, rfl, trivial⟩ ?_
  obtain ⟨m20, hw⟩ := hw
  exact tX10_goesFail_15 m20 _ _ _ _ hw
def wX10_goesMend (x0 : Nat) (x1 : Int32) (h : MH) (Q : MH → Prop) : Prop := hS h x0 = (1, 10) ∧ ∃ a2, hR h x0 1 = some a2 ∧ ∃ n5, hS h a2 = (2, n5) ∧ vp_in (nI 113) n5 ∧ vp_in (nI 113) n5 ∧ ∀ h8, h8 = sI h a2 (nI 113).toNatClampNeg ((hI h a2 (nI 113).toNatClampNeg &&& ((nI 1 <<< (x1 &&& 31)) ^^^ (-1 : Int32)))) → wX10_runsOn x0 (nI 2 * x1) (-1 : Int32) (nI 0) (nI 0) h8 (fun h10 => hS h10 x0 = (1, 10) ∧ wX10_runsOn x0 ((nI 2 * x1) + nI 1) (-1 : Int32) (nI 0) (nI 0) h10 (fun h13 => hS h13 x0 = (1, 10) ∧ wX10_tries x0 h13 (fun h16 => Q h16)))
set_option maxHeartbeats 4000000 in
set_option maxRecDepth 100000 in
theorem gX10_goesMend (x0 : Nat) (x1 : Int32) (h : MH) (Q : MH → Prop) (hw : wX10_goesMend x0 x1 h Q) : Cm MX10_goesMend 6 0 0 [.ref (x0), .int (x1)] h (pV Q) := by
  refine cm_of [some (.ref (x0)), some (.int (x1))] rfl pnX10 (Nat.le_of_ble_eq_true rfl) rfl ?_
  unfold wX10_goesMend at hw
  refine q_aload_nr eX10_goesMend_0 rfl ?_
  obtain ⟨hs1, hw⟩ := hw
  obtain ⟨a2, hr3, hw⟩ := hw
  refine q_getR flX10_13 rfl hs1 hr3 eX10_goesMend_1 ?_
  refine q_bipush (v := nI 113) eX10_goesMend_4 (by decide) ?_
  refine q_dup2 eX10_goesMend_6 rfl rfl ?_
  obtain ⟨n5, hs4, hw⟩ := hw
  obtain ⟨hi6, hw⟩ := hw
  refine q_iald hs4 hi6 eX10_goesMend_7 ?_
  refine q_iconst (v := nI 1) eX10_goesMend_8 (by decide) ?_
  refine q_iload_n eX10_goesMend_9 rfl ?_
  refine q_ishl eX10_goesMend_10 ?_
  refine q_iconst (v := (-1 : Int32)) eX10_goesMend_11 (by decide) ?_
  refine q_ixor eX10_goesMend_12 ?_
  refine q_iand eX10_goesMend_13 ?_
  obtain ⟨hi7, hw⟩ := hw
  have hw := hw _ rfl
  refine q_iast hs4 hi7 eX10_goesMend_14 ?_
  refine q_aload_nr eX10_goesMend_15 rfl ?_
  refine q_iconst (v := nI 2) eX10_goesMend_16 (by decide) ?_
  refine q_iload_n eX10_goesMend_17 rfl ?_
  refine q_imul eX10_goesMend_18 ?_
  refine q_iconst (v := (-1 : Int32)) eX10_goesMend_19 (by decide) ?_
  refine q_iconst (v := nI 0) eX10_goesMend_20 (by decide) ?_
  refine q_iconst (v := nI 0) eX10_goesMend_21 (by decide) ?_
  refine q_callV (b := 0) (t := 0) (gX10_runsOn _ _ _ _ _ _ _ hw) mlX10_270 kX10_runsOn vX10_runsOn rfl hs1 ⟨rfl, rfl⟩ (by decide) rfl (Nat.le_of_ble_eq_true rfl) eX10_goesMend_22 (kV fun h10 hw => ?_)
  refine q_aload_nr eX10_goesMend_25 rfl ?_
  refine q_iconst (v := nI 2) eX10_goesMend_26 (by decide) ?_
  refine q_iload_n eX10_goesMend_27 rfl ?_
  refine q_imul eX10_goesMend_28 ?_
  refine q_iconst (v := nI 1) eX10_goesMend_29 (by decide) ?_
  refine q_iadd eX10_goesMend_30 ?_
  refine q_iconst (v := (-1 : Int32)) eX10_goesMend_31 (by decide) ?_
  refine q_iconst (v := nI 0) eX10_goesMend_32 (by decide) ?_
  refine q_iconst (v := nI 0) eX10_goesMend_33 (by decide) ?_
  obtain ⟨hs11, hw⟩ := hw
  refine q_callV (b := 0) (t := 0) (gX10_runsOn _ _ _ _ _ _ _ hw) mlX10_270 kX10_runsOn vX10_runsOn rfl hs11 ⟨rfl, rfl⟩ (by decide) rfl (Nat.le_of_ble_eq_true rfl) eX10_goesMend_34 (kV fun h13 hw => ?_)
  refine q_aload_nr eX10_goesMend_37 rfl ?_
  obtain ⟨hs14, hw⟩ := hw
  refine q_callV (b := 0) (t := 0) (gX10_tries _ _ _ hw) mlX10_281 kX10_tries vX10_tries rfl hs14 ⟨rfl, rfl⟩ (by decide) rfl (Nat.le_of_ble_eq_true rfl) eX10_goesMend_38 (kV fun h16 hw => ?_)
  exact q_retV rfl eX10_goesMend_41 ⟨rfl, hw⟩
def wX10_goesLay (x0 : Nat) (x1 : Int32) (h : MH) (Q : MH → Prop) : Prop := hS h x0 = (1, 10) ∧ ∃ a2, hR h x0 1 = some a2 ∧ ∃ n5, hS h a2 = (2, n5) ∧ vp_in ((nI 49 + x1)) n5 ∧ vp_in ((nI 49 + x1)) n5 ∧ ∀ h8, h8 = sI h a2 ((nI 49 + x1)).toNatClampNeg ((hI h a2 ((nI 49 + x1)).toNatClampNeg + nI 1)) → wX10_tries x0 h8 (fun h10 => Q h10)
set_option maxHeartbeats 4000000 in
set_option maxRecDepth 100000 in
theorem gX10_goesLay (x0 : Nat) (x1 : Int32) (h : MH) (Q : MH → Prop) (hw : wX10_goesLay x0 x1 h Q) : Cm MX10_goesLay 6 0 0 [.ref (x0), .int (x1)] h (pV Q) := by
  refine cm_of [some (.ref (x0)), some (.int (x1))] rfl pnX10 (Nat.le_of_ble_eq_true rfl) rfl ?_
  unfold wX10_goesLay at hw
  refine q_aload_nr eX10_goesLay_0 rfl ?_
  obtain ⟨hs1, hw⟩ := hw
  obtain ⟨a2, hr3, hw⟩ := hw
  refine q_getR flX10_13 rfl hs1 hr3 eX10_goesLay_1 ?_
  refine q_bipush (v := nI 49) eX10_goesLay_4 (by decide) ?_
  refine q_iload_n eX10_goesLay_6 rfl ?_
  refine q_iadd eX10_goesLay_7 ?_
  refine q_dup2 eX10_goesLay_8 rfl rfl ?_
  obtain ⟨n5, hs4, hw⟩ := hw
  obtain ⟨hi6, hw⟩ := hw
  refine q_iald hs4 hi6 eX10_goesLay_9 ?_
  refine q_iconst (v := nI 1) eX10_goesLay_10 (by decide) ?_
  refine q_iadd eX10_goesLay_11 ?_
  obtain ⟨hi7, hw⟩ := hw
  have hw := hw _ rfl
  refine q_iast hs4 hi7 eX10_goesLay_12 ?_
  refine q_aload_nr eX10_goesLay_13 rfl ?_
  refine q_callV (b := 0) (t := 0) (gX10_tries _ _ _ hw) mlX10_281 kX10_tries vX10_tries rfl hs1 ⟨rfl, rfl⟩ (by decide) rfl (Nat.le_of_ble_eq_true rfl) eX10_goesLay_14 (kV fun h10 hw => ?_)
  exact q_retV rfl eX10_goesLay_17 ⟨rfl, hw⟩
def wX10_goesTake_15 (Q : MH → Prop) : Nat → Nat → Int32 → Int32 → MH → Prop
  | 0, _, _, _, _ => False
  | n + 1, x0, x1, x2, h => (nI 20 ≤ x2 → hS h x0 = (1, 10) ∧ wX10_tries x0 h (fun h11 => Q h11)) ∧ (¬ (nI 20 ≤ x2) → hS h x0 = (1, 10) ∧ wX10_runOf x0 x2 (nI 0) h (fun r13 h14 => (¬ (r13 = (x1 + nI 1)) → wX10_goesTake_15 Q n x0 x1 (x2 + nI 1) h14) ∧ (r13 = (x1 + nI 1) → hS h14 x0 = (1, 10) ∧ wX10_runOf x0 x2 (nI 1) h14 (fun r16 h17 => hS h17 x0 = (1, 10) ∧ ∃ a19, hR h17 x0 1 = some a19 ∧ ∃ n22, hS h17 a19 = (2, n22) ∧ vp_in ((nI 49 + x1)) n22 ∧ (¬ (r16 = hI h17 a19 ((nI 49 + x1)).toNatClampNeg) → wX10_goesTake_15 Q n x0 x1 (x2 + nI 1) h17) ∧ (r16 = hI h17 a19 ((nI 49 + x1)).toNatClampNeg → wX10_runsOn x0 x2 (-1 : Int32) (nI 0) (nI 0) h17 (fun h25 => wX10_goesTake_15 Q n x0 x1 (x2 + nI 1) h25))))))
set_option maxHeartbeats 4000000 in
set_option maxRecDepth 100000 in
theorem tX10_goesTake_15 {Q : MH → Prop} : ∀ (n : Nat) (h : MH) (x0 : Nat) (x1 : Int32) (x2 : Int32), wX10_goesTake_15 Q n x0 x1 x2 h → Wm MX10_goesTake 6 0 0 15 [some (.ref (x0)), some (.int (x1)), some (.int (x2))] [] h (pV Q) := by
  intro n
  induction n with
  | zero => intro h x0 x1 x2 hw; exact hw.elim
  | succ n ih =>
    intro h x0 x1 x2 hw
    unfold wX10_goesTake_15 at hw
    refine q_iload_n eX10_goesTake_15 rfl ?_
    refine q_bipush (v := nI 20) eX10_goesTake_16 (by decide) ?_
    obtain ⟨hw1, hw2⟩ := hw
    refine q_icmp_ge (tgt := 65) eX10_goesTake_18 (by decide) (fun c => ?_) (fun c => ?_)
    · have hw := hw1 c
      refine q_aload_nr eX10_goesTake_65 rfl ?_
      obtain ⟨hs9, hw⟩ := hw
      refine q_callV (b := 0) (t := 0) (gX10_tries _ _ _ hw) mlX10_281 kX10_tries vX10_tries rfl hs9 ⟨rfl, rfl⟩ (by decide) rfl (Nat.le_of_ble_eq_true rfl) eX10_goesTake_66 (kV fun h11 hw => ?_)
      exact q_retV rfl eX10_goesTake_69 ⟨rfl, hw⟩
    · have hw := hw2 c
      refine q_aload_nr eX10_goesTake_21 rfl ?_
      refine q_iload_n eX10_goesTake_22 rfl ?_
      refine q_iconst (v := nI 0) eX10_goesTake_23 (by decide) ?_
      obtain ⟨hs12, hw⟩ := hw
      refine q_callV (b := 0) (t := 0) (gX10_runOf _ _ _ _ _ hw) mlX10_260 kX10_runOf vX10_runOf rfl hs12 ⟨rfl, rfl⟩ (by decide) rfl (Nat.le_of_ble_eq_true rfl) eX10_goesTake_24 (kI fun r13 h14 hw => ?_)
      refine q_iload_n eX10_goesTake_27 rfl ?_
      refine q_iconst (v := nI 1) eX10_goesTake_28 (by decide) ?_
      refine q_iadd eX10_goesTake_29 ?_
      obtain ⟨hw1, hw2⟩ := hw
      refine q_icmp_ne (tgt := 59) eX10_goesTake_30 (by decide) (fun c => ?_) (fun c => ?_)
      · have hw := hw1 c
        refine x_iinc (v := (x2 + nI 1)) (ls' := [_, _, _]) eX10_goesTake_59 rfl rfl rfl rfl ?_
        refine q_goto (tgt := 15) eX10_goesTake_62 (by decide) ?_
        refine q_le (ls' := [some _, some _, some _]) ⟨rfl, rfl, rfl, trivial⟩ ?_
        exact ih _ _ _ _ hw
      · have hw := hw2 c
        refine q_aload_nr eX10_goesTake_33 rfl ?_
        refine q_iload_n eX10_goesTake_34 rfl ?_
        refine q_iconst (v := nI 1) eX10_goesTake_35 (by decide) ?_
        obtain ⟨hs15, hw⟩ := hw
        refine q_callV (b := 0) (t := 0) (gX10_runOf _ _ _ _ _ hw) mlX10_260 kX10_runOf vX10_runOf rfl hs15 ⟨rfl, rfl⟩ (by decide) rfl (Nat.le_of_ble_eq_true rfl) eX10_goesTake_36 (kI fun r16 h17 hw => ?_)
        refine q_aload_nr eX10_goesTake_39 rfl ?_
        obtain ⟨hs18, hw⟩ := hw
        obtain ⟨a19, hr20, hw⟩ := hw
        refine q_getR flX10_13 rfl hs18 hr20 eX10_goesTake_40 ?_
        refine q_bipush (v := nI 49) eX10_goesTake_43 (by decide) ?_
        refine q_iload_n eX10_goesTake_45 rfl ?_
        refine q_iadd eX10_goesTake_46 ?_
        obtain ⟨n22, hs21, hw⟩ := hw
        obtain ⟨hi23, hw⟩ := hw
        refine q_iald hs21 hi23 eX10_goesTake_47 ?_
        obtain ⟨hw1, hw2⟩ := hw
        refine q_icmp_ne (tgt := 59) eX10_goesTake_48 (by decide) (fun c => ?_) (fun c => ?_)
        · have hw := hw1 c
          refine x_iinc (v := (x2 + nI 1)) (ls' := [_, _, _]) eX10_goesTake_59 rfl rfl rfl rfl ?_
          refine q_goto (tgt := 15) eX10_goesTake_62 (by decide) ?_
          refine q_le (ls' := [some _, some _, some _]) ⟨rfl, rfl, rfl, trivial⟩ ?_
          exact ih _ _ _ _ hw
        · have hw := hw2 c
          refine q_aload_nr eX10_goesTake_51 rfl ?_
          refine q_iload_n eX10_goesTake_52 rfl ?_
          refine q_iconst (v := (-1 : Int32)) eX10_goesTake_53 (by decide) ?_
          refine q_iconst (v := nI 0) eX10_goesTake_54 (by decide) ?_
          refine q_iconst (v := nI 0) eX10_goesTake_55 (by decide) ?_
          refine q_callV (b := 0) (t := 0) (gX10_runsOn _ _ _ _ _ _ _ hw) mlX10_270 kX10_runsOn vX10_runsOn rfl hs18 ⟨rfl, rfl⟩ (by decide) rfl (Nat.le_of_ble_eq_true rfl) eX10_goesTake_56 (kV fun h25 hw => ?_)
          refine x_iinc (v := (x2 + nI 1)) (ls' := [_, _, _]) eX10_goesTake_59 rfl rfl rfl rfl ?_
          refine q_goto (tgt := 15) eX10_goesTake_62 (by decide) ?_
          refine q_le (ls' := [some _, some _, some _]) ⟨rfl, rfl, rfl, trivial⟩ ?_
          exact ih _ _ _ _ hw
def wX10_goesTake (x0 : Nat) (x1 : Int32) (h : MH) (Q : MH → Prop) : Prop := hS h x0 = (1, 10) ∧ ∃ a2, hR h x0 1 = some a2 ∧ ∃ n5, hS h a2 = (2, n5) ∧ vp_in ((nI 49 + x1)) n5 ∧ vp_in ((nI 49 + x1)) n5 ∧ ∀ h8, h8 = sI h a2 ((nI 49 + x1)).toNatClampNeg ((hI h a2 ((nI 49 + x1)).toNatClampNeg - nI 1)) → ∃ m26, wX10_goesTake_15 Q m26 x0 x1 (nI 0) h8
set_option maxHeartbeats 4000000 in
set_option maxRecDepth 100000 in
theorem gX10_goesTake (x0 : Nat) (x1 : Int32) (h : MH) (Q : MH → Prop) (hw : wX10_goesTake x0 x1 h Q) : Cm MX10_goesTake 6 0 0 [.ref (x0), .int (x1)] h (pV Q) := by
  refine cm_of [some (.ref (x0)), some (.int (x1)), none] rfl pnX10 (Nat.le_of_ble_eq_true rfl) rfl ?_
  unfold wX10_goesTake at hw
  refine q_aload_nr eX10_goesTake_0 rfl ?_
  obtain ⟨hs1, hw⟩ := hw
  obtain ⟨a2, hr3, hw⟩ := hw
  refine q_getR flX10_13 rfl hs1 hr3 eX10_goesTake_1 ?_
  refine q_bipush (v := nI 49) eX10_goesTake_4 (by decide) ?_
  refine q_iload_n eX10_goesTake_6 rfl ?_
  refine q_iadd eX10_goesTake_7 ?_
  refine q_dup2 eX10_goesTake_8 rfl rfl ?_
  obtain ⟨n5, hs4, hw⟩ := hw
  obtain ⟨hi6, hw⟩ := hw
  refine q_iald hs4 hi6 eX10_goesTake_9 ?_
  refine q_iconst (v := nI 1) eX10_goesTake_10 (by decide) ?_
  refine q_isub eX10_goesTake_11 ?_
  obtain ⟨hi7, hw⟩ := hw
  have hw := hw _ rfl
  refine q_iast hs4 hi7 eX10_goesTake_12 ?_
  refine q_iconst (v := nI 0) eX10_goesTake_13 (by decide) ?_
  refine x_istore_n (ls' := [_, _, _]) eX10_goesTake_14 (by decide) rfl rfl ?_
  refine q_le (ls' := [some _, some _, some _]) ⟨rfl, rfl, rfl, trivial⟩ ?_
  obtain ⟨m26, hw⟩ := hw
  exact tX10_goesTake_15 m26 _ _ _ _ hw
def wX10_isFresh_10 (Q : MH → Prop) : Nat → Nat → Int32 → MH → Prop
  | 0, _, _, _ => False
  | n + 1, x0, x1, h => (nI 20 ≤ x1 → Q h) ∧ (¬ (nI 20 ≤ x1) → hS h x0 = (1, 10) ∧ wX10_runsOn x0 x1 (-1 : Int32) (nI 0) (nI 0) h (fun h10 => wX10_isFresh_10 Q n x0 (x1 + nI 1) h10))
set_option maxHeartbeats 4000000 in
set_option maxRecDepth 100000 in
theorem tX10_isFresh_10 {Q : MH → Prop} : ∀ (n : Nat) (h : MH) (x0 : Nat) (x1 : Int32), wX10_isFresh_10 Q n x0 x1 h → Wm MX10_isFresh 1 0 0 10 [some (.ref (x0)), some (.int (x1))] [] h (pV Q) := by
  intro n
  induction n with
  | zero => intro h x0 x1 hw; exact hw.elim
  | succ n ih =>
    intro h x0 x1 hw
    unfold wX10_isFresh_10 at hw
    refine q_iload_n eX10_isFresh_10 rfl ?_
    refine q_bipush (v := nI 20) eX10_isFresh_11 (by decide) ?_
    obtain ⟨hw1, hw2⟩ := hw
    refine q_icmp_ge (tgt := 30) eX10_isFresh_13 (by decide) (fun c => ?_) (fun c => ?_)
    · have hw := hw1 c
      exact q_retV rfl eX10_isFresh_30 ⟨rfl, hw⟩
    · have hw := hw2 c
      refine q_aload_nr eX10_isFresh_16 rfl ?_
      refine q_iload_n eX10_isFresh_17 rfl ?_
      refine q_iconst (v := (-1 : Int32)) eX10_isFresh_18 (by decide) ?_
      refine q_iconst (v := nI 0) eX10_isFresh_19 (by decide) ?_
      refine q_iconst (v := nI 0) eX10_isFresh_20 (by decide) ?_
      obtain ⟨hs8, hw⟩ := hw
      refine q_callV (b := 0) (t := 0) (gX10_runsOn _ _ _ _ _ _ _ hw) mlX10_270 kX10_runsOn vX10_runsOn rfl hs8 ⟨rfl, rfl⟩ (by decide) rfl (Nat.le_of_ble_eq_true rfl) eX10_isFresh_21 (kV fun h10 hw => ?_)
      refine x_iinc (v := (x1 + nI 1)) (ls' := [_, _]) eX10_isFresh_24 rfl rfl rfl rfl ?_
      refine q_goto (tgt := 10) eX10_isFresh_27 (by decide) ?_
      refine q_le (ls' := [some _, some _]) ⟨rfl, rfl, trivial⟩ ?_
      exact ih _ _ _ hw
def wX10_isFresh (x0 : Nat) (h : MH) (Q : MH → Prop) : Prop := hS h x0 = (1, 10) ∧ ∃ a2, hR h x0 1 = some a2 ∧ ∃ n5, hS h a2 = (2, n5) ∧ vp_in (nI 113) n5 ∧ ∀ h7, h7 = sI h a2 (nI 113).toNatClampNeg (nI 0) → ∃ m11, wX10_isFresh_10 Q m11 x0 (nI 0) h7
set_option maxHeartbeats 4000000 in
set_option maxRecDepth 100000 in
theorem gX10_isFresh (x0 : Nat) (h : MH) (Q : MH → Prop) (hw : wX10_isFresh x0 h Q) : Cm MX10_isFresh 1 0 0 [.ref (x0)] h (pV Q) := by
  refine cm_of [some (.ref (x0)), none] rfl pnX10 (Nat.le_of_ble_eq_true rfl) rfl ?_
  unfold wX10_isFresh at hw
  refine q_aload_nr eX10_isFresh_0 rfl ?_
  obtain ⟨hs1, hw⟩ := hw
  obtain ⟨a2, hr3, hw⟩ := hw
  refine q_getR flX10_13 rfl hs1 hr3 eX10_isFresh_1 ?_
  refine q_bipush (v := nI 113) eX10_isFresh_4 (by decide) ?_
  refine q_iconst (v := nI 0) eX10_isFresh_6 (by decide) ?_
  obtain ⟨n5, hs4, hw⟩ := hw
  obtain ⟨hi6, hw⟩ := hw
  have hw := hw _ rfl
  refine q_iast hs4 hi6 eX10_isFresh_7 ?_
  refine q_iconst (v := nI 0) eX10_isFresh_8 (by decide) ?_
  refine x_istore_n (ls' := [_, _]) eX10_isFresh_9 (by decide) rfl rfl ?_
  refine q_le (ls' := [some _, some _]) ⟨rfl, rfl, trivial⟩ ?_
  obtain ⟨m11, hw⟩ := hw
  exact tX10_isFresh_10 m11 _ _ _ hw
def wX10_goesRate_112 (Q : MH → Prop) : Nat → Nat → Int32 → MH → Prop
  | 0, _, _, _ => False
  | n + 1, x0, x4, h => (nI 64 ≤ x4 → hS h x0 = (1, 10) ∧ wX10_isFresh x0 h (fun h17 => Q h17)) ∧ (¬ (nI 64 ≤ x4) → hS h x0 = (1, 10) ∧ ∃ a19, hR h x0 1 = some a19 ∧ ∃ n22, hS h a19 = (2, n22) ∧ vp_in ((nI 49 + x4)) n22 ∧ ∀ h24, h24 = sI h a19 ((nI 49 + x4)).toNatClampNeg (nI 0) → wX10_goesRate_112 Q n x0 (x4 + nI 1) h24)
set_option maxHeartbeats 4000000 in
set_option maxRecDepth 100000 in
theorem tX10_goesRate_112 {Q : MH → Prop} : ∀ (n : Nat) (h : MH) (x0 : Nat) (x4 : Int32), wX10_goesRate_112 Q n x0 x4 h → Wm MX10_goesRate 4 0 0 112 [some (.ref (x0)), none, none, none, some (.int (x4))] [] h (pV Q) := by
  intro n
  induction n with
  | zero => intro h x0 x4 hw; exact hw.elim
  | succ n ih =>
    intro h x0 x4 hw
    unfold wX10_goesRate_112 at hw
    refine q_iload eX10_goesRate_112 rfl ?_
    refine q_bipush (v := nI 64) eX10_goesRate_114 (by decide) ?_
    obtain ⟨hw1, hw2⟩ := hw
    refine q_icmp_ge (tgt := 136) eX10_goesRate_116 (by decide) (fun c => ?_) (fun c => ?_)
    · have hw := hw1 c
      refine q_aload_nr eX10_goesRate_136 rfl ?_
      obtain ⟨hs15, hw⟩ := hw
      refine q_callV (b := 0) (t := 0) (gX10_isFresh _ _ _ hw) mlX10_284 kX10_isFresh vX10_isFresh rfl hs15 ⟨rfl, rfl⟩ (by decide) rfl (Nat.le_of_ble_eq_true rfl) eX10_goesRate_137 (kV fun h17 hw => ?_)
      exact q_retV rfl eX10_goesRate_140 ⟨rfl, hw⟩
    · have hw := hw2 c
      refine q_aload_nr eX10_goesRate_119 rfl ?_
      obtain ⟨hs18, hw⟩ := hw
      obtain ⟨a19, hr20, hw⟩ := hw
      refine q_getR flX10_13 rfl hs18 hr20 eX10_goesRate_120 ?_
      refine q_bipush (v := nI 49) eX10_goesRate_123 (by decide) ?_
      refine q_iload eX10_goesRate_125 rfl ?_
      refine q_iadd eX10_goesRate_127 ?_
      refine q_iconst (v := nI 0) eX10_goesRate_128 (by decide) ?_
      obtain ⟨n22, hs21, hw⟩ := hw
      obtain ⟨hi23, hw⟩ := hw
      have hw := hw _ rfl
      refine q_iast hs21 hi23 eX10_goesRate_129 ?_
      refine x_iinc (v := (x4 + nI 1)) (ls' := [_, _, _, _, _]) eX10_goesRate_130 rfl rfl rfl rfl ?_
      refine q_goto (tgt := 112) eX10_goesRate_133 (by decide) ?_
      refine q_le (ls' := [some _, none, none, none, some _]) ⟨rfl, rfl, trivial⟩ ?_
      exact ih _ _ _ hw
def wX10_goesRate_104 (Q : MH → Prop) (x0 : Nat) (x3 : Int32) (h : MH) : Prop := (x3 = 0 → ∃ m25, wX10_goesRate_112 Q m25 x0 (nI 0) h) ∧ (¬ (x3 = 0) → Q h)
set_option maxHeartbeats 4000000 in
set_option maxRecDepth 100000 in
theorem tX10_goesRate_104 {Q : MH → Prop} (h : MH) (x0 : Nat) (x3 : Int32) (hw : wX10_goesRate_104 Q x0 x3 h) : Wm MX10_goesRate 4 0 0 104 [some (.ref (x0)), none, none, some (.int (x3)), none] [] h (pV Q) := by
  unfold wX10_goesRate_104 at hw
  refine q_iload_n eX10_goesRate_104 rfl ?_
  obtain ⟨hw1, hw2⟩ := hw
  refine q_if_eq (tgt := 109) eX10_goesRate_105 (by decide) (fun c => ?_) (fun c => ?_)
  · have hw := hw1 c
    refine q_iconst (v := nI 0) eX10_goesRate_109 (by decide) ?_
    refine x_istore (ls' := [_, _, _, _, _]) eX10_goesRate_110 (by decide) rfl rfl ?_
    refine q_le (ls' := [some _, none, none, none, some _]) ⟨rfl, rfl, trivial⟩ ?_
    obtain ⟨m25, hw⟩ := hw
    exact tX10_goesRate_112 m25 _ _ _ hw
  · have hw := hw2 c
    exact q_retV rfl eX10_goesRate_108 ⟨rfl, hw⟩
def wX10_goesRate_62 (Q : MH → Prop) : Nat → Nat → Int32 → Int32 → MH → Prop
  | 0, _, _, _, _ => False
  | n + 1, x0, x3, x4, h => hS h x0 = (1, 10) ∧ (hI h x0 23 ≤ x4 → wX10_goesRate_104 Q x0 x3 h) ∧ (¬ (hI h x0 23 ≤ x4) → (x3 = 0 → wX10_goesRate_104 Q x0 x3 h) ∧ (¬ (x3 = 0) → ∃ a26, hR h x0 18 = some a26 ∧ ∃ n29, hS h a26 = (2, n29) ∧ vp_in (x4) n29 ∧ ∃ a31, hR h x0 22 = some a31 ∧ ∃ n34, hS h a31 = (2, n34) ∧ vp_in (x4) n34 ∧ ∀ v37, v37 = (if hI h a26 (x4).toNatClampNeg = hI h a31 (x4).toNatClampNeg then nI 1 else nI 0) → wX10_goesRate_62 Q n x0 v37 (x4 + nI 1) h))
set_option maxHeartbeats 4000000 in
set_option maxRecDepth 100000 in
theorem tX10_goesRate_62 {Q : MH → Prop} : ∀ (n : Nat) (h : MH) (x0 : Nat) (x3 : Int32) (x4 : Int32), wX10_goesRate_62 Q n x0 x3 x4 h → Wm MX10_goesRate 4 0 0 62 [some (.ref (x0)), none, none, some (.int (x3)), some (.int (x4))] [] h (pV Q) := by
  intro n
  induction n with
  | zero => intro h x0 x3 x4 hw; exact hw.elim
  | succ n ih =>
    intro h x0 x3 x4 hw
    unfold wX10_goesRate_62 at hw
    refine q_iload eX10_goesRate_62 rfl ?_
    refine q_aload_nr eX10_goesRate_64 rfl ?_
    obtain ⟨hs14, hw⟩ := hw
    refine q_getI flX10_216 rfl hs14 eX10_goesRate_65 ?_
    obtain ⟨hw1, hw2⟩ := hw
    refine q_icmp_ge (tgt := 104) eX10_goesRate_68 (by decide) (fun c => ?_) (fun c => ?_)
    · have hw := hw1 c
      refine q_le (ls' := [some _, none, none, some _, none]) ⟨rfl, rfl, trivial⟩ ?_
      exact tX10_goesRate_104 _ _ _ hw
    · have hw := hw2 c
      refine q_iload_n eX10_goesRate_71 rfl ?_
      obtain ⟨hw1, hw2⟩ := hw
      refine q_if_eq (tgt := 104) eX10_goesRate_72 (by decide) (fun c => ?_) (fun c => ?_)
      · have hw := hw1 c
        refine q_le (ls' := [some _, none, none, some _, none]) ⟨rfl, rfl, trivial⟩ ?_
        exact tX10_goesRate_104 _ _ _ hw
      · have hw := hw2 c
        refine q_aload_nr eX10_goesRate_75 rfl ?_
        obtain ⟨a26, hr27, hw⟩ := hw
        refine q_getR flX10_36 rfl hs14 hr27 eX10_goesRate_76 ?_
        refine q_iload eX10_goesRate_79 rfl ?_
        obtain ⟨n29, hs28, hw⟩ := hw
        obtain ⟨hi30, hw⟩ := hw
        refine q_iald hs28 hi30 eX10_goesRate_81 ?_
        refine q_aload_nr eX10_goesRate_82 rfl ?_
        obtain ⟨a31, hr32, hw⟩ := hw
        refine q_getR flX10_48 rfl hs14 hr32 eX10_goesRate_83 ?_
        refine q_iload eX10_goesRate_86 rfl ?_
        obtain ⟨n34, hs33, hw⟩ := hw
        obtain ⟨hi35, hw⟩ := hw
        refine q_iald hs33 hi35 eX10_goesRate_88 ?_
        have hj38 : Wm MX10_goesRate 4 0 0 97 [some (.ref (x0)), none, none, some (.int (x3)), some (.int (x4))] [.int ((if hI h a26 (x4).toNatClampNeg = hI h a31 (x4).toNatClampNeg then nI 1 else nI 0))] h (pV Q) := by
          have hw := hw _ rfl
          refine x_istore_n (ls' := [_, _, _, _, _]) eX10_goesRate_97 (by decide) rfl rfl ?_
          refine x_iinc (v := (x4 + nI 1)) (ls' := [_, _, _, _, _]) eX10_goesRate_98 rfl rfl rfl rfl ?_
          refine q_goto (tgt := 62) eX10_goesRate_101 (by decide) ?_
          refine q_le (ls' := [some _, none, none, some _, some _]) ⟨rfl, rfl, rfl, trivial⟩ ?_
          exact ih _ _ _ _ hw
        refine q_icmp_ne (tgt := 96) eX10_goesRate_89 (by decide) (fun c => ?_) (fun c => ?_)
        · refine q_iconst (v := nI 0) eX10_goesRate_96 (by decide) ?_
          rw [if_neg c] at hj38
          exact hj38
        · refine q_iconst (v := nI 1) eX10_goesRate_92 (by decide) ?_
          refine q_goto (tgt := 97) eX10_goesRate_93 (by decide) ?_
          rw [if_pos c] at hj38
          exact hj38
def wX10_goesRate_7 (Q : MH → Prop) : Nat → Nat → Int32 → Int32 → Int32 → MH → Prop
  | 0, _, _, _, _, _ => False
  | n + 1, x0, x1, x2, x3, h => hS h x0 = (1, 10) ∧ (hI h x0 23 ≤ x3 → ∃ a3, hR h x0 1 = some a3 ∧ ∃ n6, hS h a3 = (2, n6) ∧ vp_in (nI 114) n6 ∧ ∀ h8, h8 = sI h a3 (nI 114).toNatClampNeg (x1) → wX10_laysRings x0 h8 (fun h10 => hS h10 x0 = (1, 10) ∧ ∀ v13, v13 = (if hI h10 x0 23 = x2 then nI 1 else nI 0) → ∃ m39, wX10_goesRate_62 Q m39 x0 v13 (nI 0) h10)) ∧ (¬ (hI h x0 23 ≤ x3) → ∃ a41, hR h x0 22 = some a41 ∧ ∃ a43, hR h x0 18 = some a43 ∧ ∃ n46, hS h a43 = (2, n46) ∧ vp_in (x3) n46 ∧ ∃ n49, hS h a41 = (2, n49) ∧ vp_in (x3) n49 ∧ ∀ h51, h51 = sI h a41 (x3).toNatClampNeg (hI h a43 (x3).toNatClampNeg) → wX10_goesRate_7 Q n x0 x1 x2 (x3 + nI 1) h51)
set_option maxHeartbeats 4000000 in
set_option maxRecDepth 100000 in
theorem tX10_goesRate_7 {Q : MH → Prop} : ∀ (n : Nat) (h : MH) (x0 : Nat) (x1 : Int32) (x2 : Int32) (x3 : Int32), wX10_goesRate_7 Q n x0 x1 x2 x3 h → Wm MX10_goesRate 4 0 0 7 [some (.ref (x0)), some (.int (x1)), some (.int (x2)), some (.int (x3)), none] [] h (pV Q) := by
  intro n
  induction n with
  | zero => intro h x0 x1 x2 x3 hw; exact hw.elim
  | succ n ih =>
    intro h x0 x1 x2 x3 hw
    unfold wX10_goesRate_7 at hw
    refine q_iload_n eX10_goesRate_7 rfl ?_
    refine q_aload_nr eX10_goesRate_8 rfl ?_
    obtain ⟨hs2, hw⟩ := hw
    refine q_getI flX10_216 rfl hs2 eX10_goesRate_9 ?_
    obtain ⟨hw1, hw2⟩ := hw
    refine q_icmp_ge (tgt := 33) eX10_goesRate_12 (by decide) (fun c => ?_) (fun c => ?_)
    · have hw := hw1 c
      refine q_aload_nr eX10_goesRate_33 rfl ?_
      obtain ⟨a3, hr4, hw⟩ := hw
      refine q_getR flX10_13 rfl hs2 hr4 eX10_goesRate_34 ?_
      refine q_bipush (v := nI 114) eX10_goesRate_37 (by decide) ?_
      refine q_iload_n eX10_goesRate_39 rfl ?_
      obtain ⟨n6, hs5, hw⟩ := hw
      obtain ⟨hi7, hw⟩ := hw
      have hw := hw _ rfl
      refine q_iast hs5 hi7 eX10_goesRate_40 ?_
      refine q_aload_nr eX10_goesRate_41 rfl ?_
      refine q_callV (b := 0) (t := 0) (gX10_laysRings _ _ _ hw) mlX10_84 kX10_laysRings vX10_laysRings rfl hs2 ⟨rfl, rfl⟩ (by decide) rfl (Nat.le_of_ble_eq_true rfl) eX10_goesRate_42 (kV fun h10 hw => ?_)
      refine q_aload_nr eX10_goesRate_45 rfl ?_
      obtain ⟨hs11, hw⟩ := hw
      refine q_getI flX10_216 rfl hs11 eX10_goesRate_46 ?_
      refine q_iload_n eX10_goesRate_49 rfl ?_
      have hj40 : Wm MX10_goesRate 4 0 0 58 [some (.ref (x0)), some (.int (x1)), some (.int (x2)), some (.int (x3)), none] [.int ((if hI h10 x0 23 = x2 then nI 1 else nI 0))] h10 (pV Q) := by
        have hw := hw _ rfl
        refine x_istore_n (ls' := [_, _, _, _, _]) eX10_goesRate_58 (by decide) rfl rfl ?_
        refine q_iconst (v := nI 0) eX10_goesRate_59 (by decide) ?_
        refine x_istore (ls' := [_, _, _, _, _]) eX10_goesRate_60 (by decide) rfl rfl ?_
        refine q_le (ls' := [some _, none, none, some _, some _]) ⟨rfl, rfl, rfl, trivial⟩ ?_
        obtain ⟨m39, hw⟩ := hw
        exact tX10_goesRate_62 m39 _ _ _ _ hw
      refine q_icmp_ne (tgt := 57) eX10_goesRate_50 (by decide) (fun c => ?_) (fun c => ?_)
      · refine q_iconst (v := nI 0) eX10_goesRate_57 (by decide) ?_
        rw [if_neg c] at hj40
        exact hj40
      · refine q_iconst (v := nI 1) eX10_goesRate_53 (by decide) ?_
        refine q_goto (tgt := 58) eX10_goesRate_54 (by decide) ?_
        rw [if_pos c] at hj40
        exact hj40
    · have hw := hw2 c
      refine q_aload_nr eX10_goesRate_15 rfl ?_
      obtain ⟨a41, hr42, hw⟩ := hw
      refine q_getR flX10_48 rfl hs2 hr42 eX10_goesRate_16 ?_
      refine q_iload_n eX10_goesRate_19 rfl ?_
      refine q_aload_nr eX10_goesRate_20 rfl ?_
      obtain ⟨a43, hr44, hw⟩ := hw
      refine q_getR flX10_36 rfl hs2 hr44 eX10_goesRate_21 ?_
      refine q_iload_n eX10_goesRate_24 rfl ?_
      obtain ⟨n46, hs45, hw⟩ := hw
      obtain ⟨hi47, hw⟩ := hw
      refine q_iald hs45 hi47 eX10_goesRate_25 ?_
      obtain ⟨n49, hs48, hw⟩ := hw
      obtain ⟨hi50, hw⟩ := hw
      have hw := hw _ rfl
      refine q_iast hs48 hi50 eX10_goesRate_26 ?_
      refine x_iinc (v := (x3 + nI 1)) (ls' := [_, _, _, _, _]) eX10_goesRate_27 rfl rfl rfl rfl ?_
      refine q_goto (tgt := 7) eX10_goesRate_30 (by decide) ?_
      refine q_le (ls' := [some _, some _, some _, some _, none]) ⟨rfl, rfl, rfl, rfl, trivial⟩ ?_
      exact ih _ _ _ _ _ hw
def wX10_goesRate (x0 : Nat) (x1 : Int32) (h : MH) (Q : MH → Prop) : Prop := hS h x0 = (1, 10) ∧ ∃ m52, wX10_goesRate_7 Q m52 x0 x1 (hI h x0 23) (nI 0) h
set_option maxHeartbeats 4000000 in
set_option maxRecDepth 100000 in
theorem gX10_goesRate (x0 : Nat) (x1 : Int32) (h : MH) (Q : MH → Prop) (hw : wX10_goesRate x0 x1 h Q) : Cm MX10_goesRate 4 0 0 [.ref (x0), .int (x1)] h (pV Q) := by
  refine cm_of [some (.ref (x0)), some (.int (x1)), none, none, none] rfl pnX10 (Nat.le_of_ble_eq_true rfl) rfl ?_
  unfold wX10_goesRate at hw
  refine q_aload_nr eX10_goesRate_0 rfl ?_
  obtain ⟨hs1, hw⟩ := hw
  refine q_getI flX10_216 rfl hs1 eX10_goesRate_1 ?_
  refine x_istore_n (ls' := [_, _, _, _, _]) eX10_goesRate_4 (by decide) rfl rfl ?_
  refine q_iconst (v := nI 0) eX10_goesRate_5 (by decide) ?_
  refine x_istore_n (ls' := [_, _, _, _, _]) eX10_goesRate_6 (by decide) rfl rfl ?_
  refine q_le (ls' := [some _, some _, some _, some _, none]) ⟨rfl, rfl, rfl, rfl, trivial⟩ ?_
  obtain ⟨m52, hw⟩ := hw
  exact tX10_goesRate_7 m52 _ _ _ _ _ hw
def wX10_link_119 (Q : Int32 → MH → Prop) : Nat → Nat → Int32 → Int32 → Int32 → MH → Prop
  | 0, _, _, _, _, _ => False
  | n + 1, x0, x1, x3, x4, h => hS h x0 = (1, 10) ∧ ∃ a32, hR h x0 1 = some a32 ∧ ∃ n35, hS h a32 = (2, n35) ∧ vp_in ((nI 39 + x1)) n35 ∧ (hI h a32 ((nI 39 + x1)).toNatClampNeg ≤ x4 → Q (x3) h) ∧ (¬ (hI h a32 ((nI 39 + x1)).toNatClampNeg ≤ x4) → wX10_hasFailed x0 x1 h (fun r37 h38 => (r37 = 0 → wX10_link_119 Q n x0 x1 (x3 + nI 0) (x4 + nI 1) h38) ∧ (¬ (r37 = 0) → hS h38 x0 = (1, 10) ∧ wX10_runOf x0 ((nI 2 * x1) + x4) (nI 0) h38 (fun r40 h41 => wX10_link_119 Q n x0 x1 (x3 + (if r40 = 0 then nI 1 else nI 0)) (x4 + nI 1) h41))))
set_option maxHeartbeats 4000000 in
set_option maxRecDepth 100000 in
theorem tX10_link_119 {Q : Int32 → MH → Prop} : ∀ (n : Nat) (h : MH) (x0 : Nat) (x1 : Int32) (x3 : Int32) (x4 : Int32), wX10_link_119 Q n x0 x1 x3 x4 h → Wm MX10_link 3 0 0 119 [some (.ref (x0)), some (.int (x1)), none, some (.int (x3)), some (.int (x4))] [] h (pI Q) := by
  intro n
  induction n with
  | zero => intro h x0 x1 x3 x4 hw; exact hw.elim
  | succ n ih =>
    intro h x0 x1 x3 x4 hw
    unfold wX10_link_119 at hw
    refine q_iload eX10_link_119 rfl ?_
    refine q_aload_nr eX10_link_121 rfl ?_
    obtain ⟨hs31, hw⟩ := hw
    obtain ⟨a32, hr33, hw⟩ := hw
    refine q_getR flX10_13 rfl hs31 hr33 eX10_link_122 ?_
    refine q_bipush (v := nI 39) eX10_link_125 (by decide) ?_
    refine q_iload_n eX10_link_127 rfl ?_
    refine q_iadd eX10_link_128 ?_
    obtain ⟨n35, hs34, hw⟩ := hw
    obtain ⟨hi36, hw⟩ := hw
    refine q_iald hs34 hi36 eX10_link_129 ?_
    obtain ⟨hw1, hw2⟩ := hw
    refine q_icmp_ge (tgt := 169) eX10_link_130 (by decide) (fun c => ?_) (fun c => ?_)
    · have hw := hw1 c
      refine q_iload_n eX10_link_169 rfl ?_
      exact q_ret rfl eX10_link_170 ⟨_, rfl, hw⟩
    · have hw := hw2 c
      refine q_iload_n eX10_link_133 rfl ?_
      refine q_aload_nr eX10_link_134 rfl ?_
      refine q_iload_n eX10_link_135 rfl ?_
      refine q_callV (b := 0) (t := 0) (gX10_hasFailed _ _ _ _ hw) mlX10_274 kX10_hasFailed vX10_hasFailed rfl hs31 ⟨rfl, rfl⟩ (by decide) rfl (Nat.le_of_ble_eq_true rfl) eX10_link_136 (kI fun r37 h38 hw => ?_)
      obtain ⟨hw1, hw2⟩ := hw
      refine q_if_eq (tgt := 160) eX10_link_139 (by decide) (fun c => ?_) (fun c => ?_)
      · have hw := hw1 c
        refine q_iconst (v := nI 0) eX10_link_160 (by decide) ?_
        refine q_iadd eX10_link_161 ?_
        refine x_istore_n (ls' := [_, _, _, _, _]) eX10_link_162 (by decide) rfl rfl ?_
        refine x_iinc (v := (x4 + nI 1)) (ls' := [_, _, _, _, _]) eX10_link_163 rfl rfl rfl rfl ?_
        refine q_goto (tgt := 119) eX10_link_166 (by decide) ?_
        refine q_le (ls' := [some _, some _, none, some _, some _]) ⟨rfl, rfl, rfl, rfl, trivial⟩ ?_
        exact ih _ _ _ _ _ hw
      · have hw := hw2 c
        refine q_aload_nr eX10_link_142 rfl ?_
        refine q_iconst (v := nI 2) eX10_link_143 (by decide) ?_
        refine q_iload_n eX10_link_144 rfl ?_
        refine q_imul eX10_link_145 ?_
        refine q_iload eX10_link_146 rfl ?_
        refine q_iadd eX10_link_148 ?_
        refine q_iconst (v := nI 0) eX10_link_149 (by decide) ?_
        obtain ⟨hs39, hw⟩ := hw
        refine q_callV (b := 0) (t := 0) (gX10_runOf _ _ _ _ _ hw) mlX10_260 kX10_runOf vX10_runOf rfl hs39 ⟨rfl, rfl⟩ (by decide) rfl (Nat.le_of_ble_eq_true rfl) eX10_link_150 (kI fun r40 h41 hw => ?_)
        have hj43 : Wm MX10_link 3 0 0 161 [some (.ref (x0)), some (.int (x1)), none, some (.int (x3)), some (.int (x4))] [.int ((if r40 = 0 then nI 1 else nI 0)), .int (x3)] h41 (pI Q) := by
          refine q_iadd eX10_link_161 ?_
          refine x_istore_n (ls' := [_, _, _, _, _]) eX10_link_162 (by decide) rfl rfl ?_
          refine x_iinc (v := (x4 + nI 1)) (ls' := [_, _, _, _, _]) eX10_link_163 rfl rfl rfl rfl ?_
          refine q_goto (tgt := 119) eX10_link_166 (by decide) ?_
          refine q_le (ls' := [some _, some _, none, some _, some _]) ⟨rfl, rfl, rfl, rfl, trivial⟩ ?_
          exact ih _ _ _ _ _ hw
        refine q_if_ne (tgt := 160) eX10_link_153 (by decide) (fun c => ?_) (fun c => ?_)
        · refine q_iconst (v := nI 0) eX10_link_160 (by decide) ?_
          rw [if_neg c] at hj43
          exact hj43
        · refine q_iconst (v := nI 1) eX10_link_156 (by decide) ?_
          refine q_goto (tgt := 161) eX10_link_157 (by decide) ?_
          rw [if_pos c] at hj43
          exact hj43
def wX10_link (x0 : Nat) (x1 : Int32) (x2 : Int32) (h : MH) (Q : Int32 → MH → Prop) : Prop := hS h x0 = (1, 10) ∧ ∀ h2, h2 = sI h x0 0 (nI 0) → wX10_isLink x0 ((x1).toInt64) h2 (fun r3 h4 => (¬ (r3 = 0) → ((x2).toInt < 0 ∨ 6 < (x2).toInt → Q ((-2 : Int32)) h4) ∧ (x2 = nI 0 → hS h4 x0 = (1, 10) ∧ wX10_endOf x0 x1 (nI 0) h4 (fun r6 h7 => Q (r6) h7)) ∧ (x2 = nI 1 → hS h4 x0 = (1, 10) ∧ wX10_endOf x0 x1 (nI 1) h4 (fun r9 h10 => Q (r9) h10)) ∧ (x2 = nI 2 → hS h4 x0 = (1, 10) ∧ ∃ a12, hR h4 x0 1 = some a12 ∧ ∃ n15, hS h4 a12 = (2, n15) ∧ vp_in ((nI 29 + x1)) n15 ∧ Q (hI h4 a12 ((nI 29 + x1)).toNatClampNeg) h4) ∧ (x2 = nI 3 → hS h4 x0 = (1, 10) ∧ ∃ a18, hR h4 x0 1 = some a18 ∧ ∃ n21, hS h4 a18 = (2, n21) ∧ vp_in ((nI 39 + x1)) n21 ∧ Q (hI h4 a18 ((nI 39 + x1)).toNatClampNeg) h4) ∧ (x2 = nI 4 → hS h4 x0 = (1, 10) ∧ wX10_hasFailed x0 x1 h4 (fun r24 h25 => Q ((if r24 = 0 then nI 0 else nI 1)) h25)) ∧ (x2 = nI 5 → hS h4 x0 = (1, 10) ∧ wX10_usedFor x0 x1 h4 (fun r29 h30 => Q (r29) h30)) ∧ (x2 = nI 6 → ∃ m44, wX10_link_119 Q m44 x0 x1 (nI 0) (nI 0) h4)) ∧ (r3 = 0 → Q ((-2 : Int32)) h4))
set_option maxHeartbeats 4000000 in
set_option maxRecDepth 100000 in
theorem gX10_link (x0 : Nat) (x1 : Int32) (x2 : Int32) (h : MH) (Q : Int32 → MH → Prop) (hw : wX10_link x0 x1 x2 h Q) : Cm MX10_link 3 0 0 [.ref (x0), .int (x1), .int (x2)] h (pI Q) := by
  refine cm_of [some (.ref (x0)), some (.int (x1)), some (.int (x2)), none, none] rfl pnX10 (Nat.le_of_ble_eq_true rfl) rfl ?_
  unfold wX10_link at hw
  refine q_aload_nr eX10_link_0 rfl ?_
  refine q_iconst (v := nI 0) eX10_link_1 (by decide) ?_
  obtain ⟨hs1, hw⟩ := hw
  have hw := hw _ rfl
  refine q_putI (fwX10_1 _) rfl hs1 eX10_link_2 ?_
  refine q_aload_nr eX10_link_5 rfl ?_
  refine q_iload_n eX10_link_6 rfl ?_
  refine q_i2l eX10_link_7 ?_
  refine q_callV (b := 0) (t := 0) (gX10_isLink _ _ _ _ hw) mlX10_287 kX10_isLink vX10_isLink rfl hs1 ⟨rfl, rfl⟩ (by decide) rfl (Nat.le_of_ble_eq_true rfl) eX10_link_8 (kI fun r3 h4 hw => ?_)
  obtain ⟨hw1, hw2⟩ := hw
  refine q_if_ne (tgt := 17) eX10_link_11 (by decide) (fun c => ?_) (fun c => ?_)
  · have hw := hw1 c
    refine q_iload_n eX10_link_17 rfl ?_
    obtain ⟨hw0, hw1, hw2, hw3, hw4, hw5, hw6, hw7⟩ := hw
    by_cases hx : (x2).toInt < 0 ∨ 6 < (x2).toInt
    · have hw := hw0 hx
      refine q_tabOut (tgt := 171) eX10_link_18 hx (by decide) ?_
      refine q_bipush (v := (-2 : Int32)) eX10_link_171 (by decide) ?_
      exact q_ret rfl eX10_link_173 ⟨_, rfl, hw⟩
    · have hk : (x2).toInt = 0 ∨ (x2).toInt = 1 ∨ (x2).toInt = 2 ∨ (x2).toInt = 3 ∨ (x2).toInt = 4 ∨ (x2).toInt = 5 ∨ (x2).toInt = 6 := by omega
      rcases hk with hk | hk | hk | hk | hk | hk | hk
      · have hw := hw1 (x_toInt (by decide) hk)
        refine q_tabIn (off := 42) (tgt := 60) eX10_link_18 (by omega) (by omega) (by rw [hk]; rfl) (by decide) ?_
        refine q_aload_nr eX10_link_60 rfl ?_
        refine q_iload_n eX10_link_61 rfl ?_
        refine q_iconst (v := nI 0) eX10_link_62 (by decide) ?_
        obtain ⟨hs5, hw⟩ := hw
        refine q_callV (b := 0) (t := 0) (gX10_endOf _ _ _ _ _ hw) mlX10_219 kX10_endOf vX10_endOf rfl hs5 ⟨rfl, rfl⟩ (by decide) rfl (Nat.le_of_ble_eq_true rfl) eX10_link_63 (kI fun r6 h7 hw => ?_)
        exact q_ret rfl eX10_link_66 ⟨_, rfl, hw⟩
      · have hw := hw2 (x_toInt (by decide) hk)
        refine q_tabIn (off := 49) (tgt := 67) eX10_link_18 (by omega) (by omega) (by rw [hk]; rfl) (by decide) ?_
        refine q_aload_nr eX10_link_67 rfl ?_
        refine q_iload_n eX10_link_68 rfl ?_
        refine q_iconst (v := nI 1) eX10_link_69 (by decide) ?_
        obtain ⟨hs8, hw⟩ := hw
        refine q_callV (b := 0) (t := 0) (gX10_endOf _ _ _ _ _ hw) mlX10_219 kX10_endOf vX10_endOf rfl hs8 ⟨rfl, rfl⟩ (by decide) rfl (Nat.le_of_ble_eq_true rfl) eX10_link_70 (kI fun r9 h10 hw => ?_)
        exact q_ret rfl eX10_link_73 ⟨_, rfl, hw⟩
      · have hw := hw3 (x_toInt (by decide) hk)
        refine q_tabIn (off := 56) (tgt := 74) eX10_link_18 (by omega) (by omega) (by rw [hk]; rfl) (by decide) ?_
        refine q_aload_nr eX10_link_74 rfl ?_
        obtain ⟨hs11, hw⟩ := hw
        obtain ⟨a12, hr13, hw⟩ := hw
        refine q_getR flX10_13 rfl hs11 hr13 eX10_link_75 ?_
        refine q_bipush (v := nI 29) eX10_link_78 (by decide) ?_
        refine q_iload_n eX10_link_80 rfl ?_
        refine q_iadd eX10_link_81 ?_
        obtain ⟨n15, hs14, hw⟩ := hw
        obtain ⟨hi16, hw⟩ := hw
        refine q_iald hs14 hi16 eX10_link_82 ?_
        exact q_ret rfl eX10_link_83 ⟨_, rfl, hw⟩
      · have hw := hw4 (x_toInt (by decide) hk)
        refine q_tabIn (off := 66) (tgt := 84) eX10_link_18 (by omega) (by omega) (by rw [hk]; rfl) (by decide) ?_
        refine q_aload_nr eX10_link_84 rfl ?_
        obtain ⟨hs17, hw⟩ := hw
        obtain ⟨a18, hr19, hw⟩ := hw
        refine q_getR flX10_13 rfl hs17 hr19 eX10_link_85 ?_
        refine q_bipush (v := nI 39) eX10_link_88 (by decide) ?_
        refine q_iload_n eX10_link_90 rfl ?_
        refine q_iadd eX10_link_91 ?_
        obtain ⟨n21, hs20, hw⟩ := hw
        obtain ⟨hi22, hw⟩ := hw
        refine q_iald hs20 hi22 eX10_link_92 ?_
        exact q_ret rfl eX10_link_93 ⟨_, rfl, hw⟩
      · have hw := hw5 (x_toInt (by decide) hk)
        refine q_tabIn (off := 76) (tgt := 94) eX10_link_18 (by omega) (by omega) (by rw [hk]; rfl) (by decide) ?_
        refine q_aload_nr eX10_link_94 rfl ?_
        refine q_iload_n eX10_link_95 rfl ?_
        obtain ⟨hs23, hw⟩ := hw
        refine q_callV (b := 0) (t := 0) (gX10_hasFailed _ _ _ _ hw) mlX10_274 kX10_hasFailed vX10_hasFailed rfl hs23 ⟨rfl, rfl⟩ (by decide) rfl (Nat.le_of_ble_eq_true rfl) eX10_link_96 (kI fun r24 h25 hw => ?_)
        have hj27 : Wm MX10_link 3 0 0 107 [some (.ref (x0)), some (.int (x1)), some (.int (x2)), none, none] [.int ((if r24 = 0 then nI 0 else nI 1))] h25 (pI Q) := by
          exact q_ret rfl eX10_link_107 ⟨_, rfl, hw⟩
        refine q_if_eq (tgt := 106) eX10_link_99 (by decide) (fun c => ?_) (fun c => ?_)
        · refine q_iconst (v := nI 0) eX10_link_106 (by decide) ?_
          rw [if_pos c] at hj27
          exact hj27
        · refine q_iconst (v := nI 1) eX10_link_102 (by decide) ?_
          refine q_goto (tgt := 107) eX10_link_103 (by decide) ?_
          rw [if_neg c] at hj27
          exact hj27
      · have hw := hw6 (x_toInt (by decide) hk)
        refine q_tabIn (off := 90) (tgt := 108) eX10_link_18 (by omega) (by omega) (by rw [hk]; rfl) (by decide) ?_
        refine q_aload_nr eX10_link_108 rfl ?_
        refine q_iload_n eX10_link_109 rfl ?_
        obtain ⟨hs28, hw⟩ := hw
        refine q_callV (b := 0) (t := 0) (gX10_usedFor _ _ _ _ hw) mlX10_291 kX10_usedFor vX10_usedFor rfl hs28 ⟨rfl, rfl⟩ (by decide) rfl (Nat.le_of_ble_eq_true rfl) eX10_link_110 (kI fun r29 h30 hw => ?_)
        exact q_ret rfl eX10_link_113 ⟨_, rfl, hw⟩
      · have hw := hw7 (x_toInt (by decide) hk)
        refine q_tabIn (off := 96) (tgt := 114) eX10_link_18 (by omega) (by omega) (by rw [hk]; rfl) (by decide) ?_
        refine q_iconst (v := nI 0) eX10_link_114 (by decide) ?_
        refine x_istore_n (ls' := [_, _, _, _, _]) eX10_link_115 (by decide) rfl rfl ?_
        refine q_iconst (v := nI 0) eX10_link_116 (by decide) ?_
        refine x_istore (ls' := [_, _, _, _, _]) eX10_link_117 (by decide) rfl rfl ?_
        refine q_le (ls' := [some _, some _, none, some _, some _]) ⟨rfl, rfl, rfl, rfl, trivial⟩ ?_
        obtain ⟨m44, hw⟩ := hw
        exact tX10_link_119 m44 _ _ _ _ _ hw
  · have hw := hw2 c
    refine q_bipush (v := (-2 : Int32)) eX10_link_14 (by decide) ?_
    exact q_ret rfl eX10_link_16 ⟨_, rfl, hw⟩
def wX10_ring (x0 : Nat) (x1 : Int32) (x2 : Int32) (h : MH) (Q : Int32 → MH → Prop) : Prop := hS h x0 = (1, 10) ∧ ∀ h2, h2 = sI h x0 0 (nI 0) → wX10_isRing x0 ((x1).toInt64) h2 (fun r3 h4 => (¬ (r3 = 0) → ((x2).toInt < 0 ∨ 5 < (x2).toInt → Q ((-2 : Int32)) h4) ∧ (x2 = nI 0 → hS h4 x0 = (1, 10) ∧ ∃ a6, hR h4 x0 18 = some a6 ∧ ∃ n9, hS h4 a6 = (2, n9) ∧ vp_in (x1) n9 ∧ Q (hI h4 a6 (x1).toNatClampNeg) h4) ∧ (x2 = nI 1 → hS h4 x0 = (1, 10) ∧ ∃ a12, hR h4 x0 20 = some a12 ∧ ∃ n15, hS h4 a12 = (2, n15) ∧ vp_in (x1) n15 ∧ Q (hI h4 a12 (x1).toNatClampNeg) h4) ∧ (x2 = nI 2 → hS h4 x0 = (1, 10) ∧ ∃ a18, hR h4 x0 19 = some a18 ∧ ∃ n21, hS h4 a18 = (2, n21) ∧ vp_in (x1) n21 ∧ Q (hI h4 a18 (x1).toNatClampNeg) h4) ∧ (x2 = nI 3 → hS h4 x0 = (1, 10) ∧ ∃ a24, hR h4 x0 21 = some a24 ∧ ∃ n27, hS h4 a24 = (2, n27) ∧ vp_in (x1) n27 ∧ Q (hI h4 a24 (x1).toNatClampNeg) h4) ∧ (x2 = nI 4 → hS h4 x0 = (1, 10) ∧ wX10_usesOf x0 x1 h4 (fun r30 h31 => Q (r30) h31)) ∧ (x2 = nI 5 → hS h4 x0 = (1, 10) ∧ ∃ a33, hR h4 x0 1 = some a33 ∧ ∃ n36, hS h4 a33 = (2, n36) ∧ vp_in ((nI 49 + x1)) n36 ∧ Q (hI h4 a33 ((nI 49 + x1)).toNatClampNeg) h4)) ∧ (r3 = 0 → Q ((-2 : Int32)) h4))
set_option maxHeartbeats 4000000 in
set_option maxRecDepth 100000 in
theorem gX10_ring (x0 : Nat) (x1 : Int32) (x2 : Int32) (h : MH) (Q : Int32 → MH → Prop) (hw : wX10_ring x0 x1 x2 h Q) : Cm MX10_ring 2 0 0 [.ref (x0), .int (x1), .int (x2)] h (pI Q) := by
  refine cm_of [some (.ref (x0)), some (.int (x1)), some (.int (x2))] rfl pnX10 (Nat.le_of_ble_eq_true rfl) rfl ?_
  unfold wX10_ring at hw
  refine q_aload_nr eX10_ring_0 rfl ?_
  refine q_iconst (v := nI 0) eX10_ring_1 (by decide) ?_
  obtain ⟨hs1, hw⟩ := hw
  have hw := hw _ rfl
  refine q_putI (fwX10_1 _) rfl hs1 eX10_ring_2 ?_
  refine q_aload_nr eX10_ring_5 rfl ?_
  refine q_iload_n eX10_ring_6 rfl ?_
  refine q_i2l eX10_ring_7 ?_
  refine q_callV (b := 0) (t := 0) (gX10_isRing _ _ _ _ hw) mlX10_294 kX10_isRing vX10_isRing rfl hs1 ⟨rfl, rfl⟩ (by decide) rfl (Nat.le_of_ble_eq_true rfl) eX10_ring_8 (kI fun r3 h4 hw => ?_)
  obtain ⟨hw1, hw2⟩ := hw
  refine q_if_ne (tgt := 17) eX10_ring_11 (by decide) (fun c => ?_) (fun c => ?_)
  · have hw := hw1 c
    refine q_iload_n eX10_ring_17 rfl ?_
    obtain ⟨hw0, hw1, hw2, hw3, hw4, hw5, hw6⟩ := hw
    by_cases hx : (x2).toInt < 0 ∨ 5 < (x2).toInt
    · have hw := hw0 hx
      refine q_tabOut (tgt := 100) eX10_ring_18 hx (by decide) ?_
      refine q_bipush (v := (-2 : Int32)) eX10_ring_100 (by decide) ?_
      exact q_ret rfl eX10_ring_102 ⟨_, rfl, hw⟩
    · have hk : (x2).toInt = 0 ∨ (x2).toInt = 1 ∨ (x2).toInt = 2 ∨ (x2).toInt = 3 ∨ (x2).toInt = 4 ∨ (x2).toInt = 5 := by omega
      rcases hk with hk | hk | hk | hk | hk | hk
      · have hw := hw1 (x_toInt (by decide) hk)
        refine q_tabIn (off := 38) (tgt := 56) eX10_ring_18 (by omega) (by omega) (by rw [hk]; rfl) (by decide) ?_
        refine q_aload_nr eX10_ring_56 rfl ?_
        obtain ⟨hs5, hw⟩ := hw
        obtain ⟨a6, hr7, hw⟩ := hw
        refine q_getR flX10_36 rfl hs5 hr7 eX10_ring_57 ?_
        refine q_iload_n eX10_ring_60 rfl ?_
        obtain ⟨n9, hs8, hw⟩ := hw
        obtain ⟨hi10, hw⟩ := hw
        refine q_iald hs8 hi10 eX10_ring_61 ?_
        exact q_ret rfl eX10_ring_62 ⟨_, rfl, hw⟩
      · have hw := hw2 (x_toInt (by decide) hk)
        refine q_tabIn (off := 45) (tgt := 63) eX10_ring_18 (by omega) (by omega) (by rw [hk]; rfl) (by decide) ?_
        refine q_aload_nr eX10_ring_63 rfl ?_
        obtain ⟨hs11, hw⟩ := hw
        obtain ⟨a12, hr13, hw⟩ := hw
        refine q_getR flX10_42 rfl hs11 hr13 eX10_ring_64 ?_
        refine q_iload_n eX10_ring_67 rfl ?_
        obtain ⟨n15, hs14, hw⟩ := hw
        obtain ⟨hi16, hw⟩ := hw
        refine q_iald hs14 hi16 eX10_ring_68 ?_
        exact q_ret rfl eX10_ring_69 ⟨_, rfl, hw⟩
      · have hw := hw3 (x_toInt (by decide) hk)
        refine q_tabIn (off := 52) (tgt := 70) eX10_ring_18 (by omega) (by omega) (by rw [hk]; rfl) (by decide) ?_
        refine q_aload_nr eX10_ring_70 rfl ?_
        obtain ⟨hs17, hw⟩ := hw
        obtain ⟨a18, hr19, hw⟩ := hw
        refine q_getR flX10_39 rfl hs17 hr19 eX10_ring_71 ?_
        refine q_iload_n eX10_ring_74 rfl ?_
        obtain ⟨n21, hs20, hw⟩ := hw
        obtain ⟨hi22, hw⟩ := hw
        refine q_iald hs20 hi22 eX10_ring_75 ?_
        exact q_ret rfl eX10_ring_76 ⟨_, rfl, hw⟩
      · have hw := hw4 (x_toInt (by decide) hk)
        refine q_tabIn (off := 59) (tgt := 77) eX10_ring_18 (by omega) (by omega) (by rw [hk]; rfl) (by decide) ?_
        refine q_aload_nr eX10_ring_77 rfl ?_
        obtain ⟨hs23, hw⟩ := hw
        obtain ⟨a24, hr25, hw⟩ := hw
        refine q_getR flX10_45 rfl hs23 hr25 eX10_ring_78 ?_
        refine q_iload_n eX10_ring_81 rfl ?_
        obtain ⟨n27, hs26, hw⟩ := hw
        obtain ⟨hi28, hw⟩ := hw
        refine q_iald hs26 hi28 eX10_ring_82 ?_
        exact q_ret rfl eX10_ring_83 ⟨_, rfl, hw⟩
      · have hw := hw5 (x_toInt (by decide) hk)
        refine q_tabIn (off := 66) (tgt := 84) eX10_ring_18 (by omega) (by omega) (by rw [hk]; rfl) (by decide) ?_
        refine q_aload_nr eX10_ring_84 rfl ?_
        refine q_iload_n eX10_ring_85 rfl ?_
        obtain ⟨hs29, hw⟩ := hw
        refine q_callV (b := 0) (t := 0) (gX10_usesOf _ _ _ _ hw) mlX10_297 kX10_usesOf vX10_usesOf rfl hs29 ⟨rfl, rfl⟩ (by decide) rfl (Nat.le_of_ble_eq_true rfl) eX10_ring_86 (kI fun r30 h31 hw => ?_)
        exact q_ret rfl eX10_ring_89 ⟨_, rfl, hw⟩
      · have hw := hw6 (x_toInt (by decide) hk)
        refine q_tabIn (off := 72) (tgt := 90) eX10_ring_18 (by omega) (by omega) (by rw [hk]; rfl) (by decide) ?_
        refine q_aload_nr eX10_ring_90 rfl ?_
        obtain ⟨hs32, hw⟩ := hw
        obtain ⟨a33, hr34, hw⟩ := hw
        refine q_getR flX10_13 rfl hs32 hr34 eX10_ring_91 ?_
        refine q_bipush (v := nI 49) eX10_ring_94 (by decide) ?_
        refine q_iload_n eX10_ring_96 rfl ?_
        refine q_iadd eX10_ring_97 ?_
        obtain ⟨n36, hs35, hw⟩ := hw
        obtain ⟨hi37, hw⟩ := hw
        refine q_iald hs35 hi37 eX10_ring_98 ?_
        exact q_ret rfl eX10_ring_99 ⟨_, rfl, hw⟩
  · have hw := hw2 c
    refine q_bipush (v := (-2 : Int32)) eX10_ring_14 (by decide) ?_
    exact q_ret rfl eX10_ring_16 ⟨_, rfl, hw⟩
def wX10_ringOf_7 (Q : Int32 → MH → Prop) : Nat → Nat → Int32 → Int32 → MH → Prop
  | 0, _, _, _, _ => False
  | n + 1, x0, x1, x2, h => hS h x0 = (1, 10) ∧ (hI h x0 23 ≤ x2 → Q ((-1 : Int32)) h) ∧ (¬ (hI h x0 23 ≤ x2) → ∃ a4, hR h x0 18 = some a4 ∧ ∃ n7, hS h a4 = (2, n7) ∧ vp_in (x2) n7 ∧ (¬ (hI h a4 (x2).toNatClampNeg = x1) → wX10_ringOf_7 Q n x0 x1 (x2 + nI 1) h) ∧ (hI h a4 (x2).toNatClampNeg = x1 → Q (x2) h))
set_option maxHeartbeats 4000000 in
set_option maxRecDepth 100000 in
theorem tX10_ringOf_7 {Q : Int32 → MH → Prop} : ∀ (n : Nat) (h : MH) (x0 : Nat) (x1 : Int32) (x2 : Int32), wX10_ringOf_7 Q n x0 x1 x2 h → Wm MX10_ringOf 0 0 0 7 [some (.ref (x0)), some (.int (x1)), some (.int (x2))] [] h (pI Q) := by
  intro n
  induction n with
  | zero => intro h x0 x1 x2 hw; exact hw.elim
  | succ n ih =>
    intro h x0 x1 x2 hw
    unfold wX10_ringOf_7 at hw
    refine q_iload_n eX10_ringOf_7 rfl ?_
    refine q_aload_nr eX10_ringOf_8 rfl ?_
    obtain ⟨hs3, hw⟩ := hw
    refine q_getI flX10_216 rfl hs3 eX10_ringOf_9 ?_
    obtain ⟨hw1, hw2⟩ := hw
    refine q_icmp_ge (tgt := 33) eX10_ringOf_12 (by decide) (fun c => ?_) (fun c => ?_)
    · have hw := hw1 c
      refine q_iconst (v := (-1 : Int32)) eX10_ringOf_33 (by decide) ?_
      exact q_ret rfl eX10_ringOf_34 ⟨_, rfl, hw⟩
    · have hw := hw2 c
      refine q_aload_nr eX10_ringOf_15 rfl ?_
      obtain ⟨a4, hr5, hw⟩ := hw
      refine q_getR flX10_36 rfl hs3 hr5 eX10_ringOf_16 ?_
      refine q_iload_n eX10_ringOf_19 rfl ?_
      obtain ⟨n7, hs6, hw⟩ := hw
      obtain ⟨hi8, hw⟩ := hw
      refine q_iald hs6 hi8 eX10_ringOf_20 ?_
      refine q_iload_n eX10_ringOf_21 rfl ?_
      obtain ⟨hw1, hw2⟩ := hw
      refine q_icmp_ne (tgt := 27) eX10_ringOf_22 (by decide) (fun c => ?_) (fun c => ?_)
      · have hw := hw1 c
        refine x_iinc (v := (x2 + nI 1)) (ls' := [_, _, _]) eX10_ringOf_27 rfl rfl rfl rfl ?_
        refine q_goto (tgt := 7) eX10_ringOf_30 (by decide) ?_
        refine q_le (ls' := [some _, some _, some _]) ⟨rfl, rfl, rfl, trivial⟩ ?_
        exact ih _ _ _ _ hw
      · have hw := hw2 c
        refine q_iload_n eX10_ringOf_25 rfl ?_
        exact q_ret rfl eX10_ringOf_26 ⟨_, rfl, hw⟩
def wX10_ringOf (x0 : Nat) (x1 : Int32) (h : MH) (Q : Int32 → MH → Prop) : Prop := hS h x0 = (1, 10) ∧ ∀ h2, h2 = sI h x0 0 (nI 0) → ∃ m9, wX10_ringOf_7 Q m9 x0 x1 (nI 0) h2
set_option maxHeartbeats 4000000 in
set_option maxRecDepth 100000 in
theorem gX10_ringOf (x0 : Nat) (x1 : Int32) (h : MH) (Q : Int32 → MH → Prop) (hw : wX10_ringOf x0 x1 h Q) : Cm MX10_ringOf 0 0 0 [.ref (x0), .int (x1)] h (pI Q) := by
  refine cm_of [some (.ref (x0)), some (.int (x1)), none] rfl pnX10 (Nat.le_of_ble_eq_true rfl) rfl ?_
  unfold wX10_ringOf at hw
  refine q_aload_nr eX10_ringOf_0 rfl ?_
  refine q_iconst (v := nI 0) eX10_ringOf_1 (by decide) ?_
  obtain ⟨hs1, hw⟩ := hw
  have hw := hw _ rfl
  refine q_putI (fwX10_1 _) rfl hs1 eX10_ringOf_2 ?_
  refine q_iconst (v := nI 0) eX10_ringOf_5 (by decide) ?_
  refine x_istore_n (ls' := [_, _, _]) eX10_ringOf_6 (by decide) rfl rfl ?_
  refine q_le (ls' := [some _, some _, some _]) ⟨rfl, rfl, rfl, trivial⟩ ?_
  obtain ⟨m9, hw⟩ := hw
  exact tX10_ringOf_7 m9 _ _ _ _ hw
def wX10_use (x0 : Nat) (x1 : Int32) (x2 : Int32) (h : MH) (Q : Int32 → MH → Prop) : Prop := hS h x0 = (1, 10) ∧ ∀ h2, h2 = sI h x0 0 (nI 0) → wX10_isRing x0 ((x1).toInt64) h2 (fun r3 h4 => (r3 = 0 → Q ((-2 : Int32)) h4) ∧ (¬ (r3 = 0) → hS h4 x0 = (1, 10) ∧ wX10_isLink x0 ((x2).toInt64) h4 (fun r6 h7 => (r6 = 0 → Q ((-2 : Int32)) h7) ∧ (¬ (r6 = 0) → hS h7 x0 = (1, 10) ∧ wX10_useOf x0 x1 x2 h7 (fun r9 h10 => Q (r9) h10)))))
set_option maxHeartbeats 4000000 in
set_option maxRecDepth 100000 in
theorem gX10_use (x0 : Nat) (x1 : Int32) (x2 : Int32) (h : MH) (Q : Int32 → MH → Prop) (hw : wX10_use x0 x1 x2 h Q) : Cm MX10_use 2 0 0 [.ref (x0), .int (x1), .int (x2)] h (pI Q) := by
  refine cm_of [some (.ref (x0)), some (.int (x1)), some (.int (x2))] rfl pnX10 (Nat.le_of_ble_eq_true rfl) rfl ?_
  unfold wX10_use at hw
  refine q_aload_nr eX10_use_0 rfl ?_
  refine q_iconst (v := nI 0) eX10_use_1 (by decide) ?_
  obtain ⟨hs1, hw⟩ := hw
  have hw := hw _ rfl
  refine q_putI (fwX10_1 _) rfl hs1 eX10_use_2 ?_
  refine q_aload_nr eX10_use_5 rfl ?_
  refine q_iload_n eX10_use_6 rfl ?_
  refine q_i2l eX10_use_7 ?_
  refine q_callV (b := 0) (t := 0) (gX10_isRing _ _ _ _ hw) mlX10_294 kX10_isRing vX10_isRing rfl hs1 ⟨rfl, rfl⟩ (by decide) rfl (Nat.le_of_ble_eq_true rfl) eX10_use_8 (kI fun r3 h4 hw => ?_)
  obtain ⟨hw1, hw2⟩ := hw
  refine q_if_eq (tgt := 32) eX10_use_11 (by decide) (fun c => ?_) (fun c => ?_)
  · have hw := hw1 c
    refine q_bipush (v := (-2 : Int32)) eX10_use_32 (by decide) ?_
    exact q_ret rfl eX10_use_34 ⟨_, rfl, hw⟩
  · have hw := hw2 c
    refine q_aload_nr eX10_use_14 rfl ?_
    refine q_iload_n eX10_use_15 rfl ?_
    refine q_i2l eX10_use_16 ?_
    obtain ⟨hs5, hw⟩ := hw
    refine q_callV (b := 0) (t := 0) (gX10_isLink _ _ _ _ hw) mlX10_287 kX10_isLink vX10_isLink rfl hs5 ⟨rfl, rfl⟩ (by decide) rfl (Nat.le_of_ble_eq_true rfl) eX10_use_17 (kI fun r6 h7 hw => ?_)
    obtain ⟨hw1, hw2⟩ := hw
    refine q_if_eq (tgt := 32) eX10_use_20 (by decide) (fun c => ?_) (fun c => ?_)
    · have hw := hw1 c
      refine q_bipush (v := (-2 : Int32)) eX10_use_32 (by decide) ?_
      exact q_ret rfl eX10_use_34 ⟨_, rfl, hw⟩
    · have hw := hw2 c
      refine q_aload_nr eX10_use_23 rfl ?_
      refine q_iload_n eX10_use_24 rfl ?_
      refine q_iload_n eX10_use_25 rfl ?_
      obtain ⟨hs8, hw⟩ := hw
      refine q_callV (b := 0) (t := 0) (gX10_useOf _ _ _ _ _ hw) mlX10_254 kX10_useOf vX10_useOf rfl hs8 ⟨rfl, rfl⟩ (by decide) rfl (Nat.le_of_ble_eq_true rfl) eX10_use_26 (kI fun r9 h10 hw => ?_)
      refine q_goto (tgt := 34) eX10_use_29 (by decide) ?_
      exact q_ret rfl eX10_use_34 ⟨_, rfl, hw⟩
def wX10_path (x0 : Nat) (x1 : Int32) (x2 : Int32) (x3 : Int32) (h : MH) (Q : Int32 → MH → Prop) : Prop := hS h x0 = (1, 10) ∧ ∀ h2, h2 = sI h x0 0 (nI 0) → wX10_isRing x0 ((x1).toInt64) h2 (fun r3 h4 => (r3 = 0 → Q ((-2 : Int32)) h4) ∧ (¬ (r3 = 0) → hS h4 x0 = (1, 10) ∧ wX10_isLink x0 ((x2).toInt64) h4 (fun r6 h7 => (¬ (r6 = 0) → (0 ≤ x3 → hS h7 x0 = (1, 10) ∧ wX10_pathOf x0 x1 x2 x3 h7 (fun r9 h10 => Q (r9) h10)) ∧ (¬ (0 ≤ x3) → Q ((-3 : Int32)) h7)) ∧ (r6 = 0 → Q ((-2 : Int32)) h7))))
set_option maxHeartbeats 4000000 in
set_option maxRecDepth 100000 in
theorem gX10_path (x0 : Nat) (x1 : Int32) (x2 : Int32) (x3 : Int32) (h : MH) (Q : Int32 → MH → Prop) (hw : wX10_path x0 x1 x2 x3 h Q) : Cm MX10_path 4 0 0 [.ref (x0), .int (x1), .int (x2), .int (x3)] h (pI Q) := by
  refine cm_of [some (.ref (x0)), some (.int (x1)), some (.int (x2)), some (.int (x3))] rfl pnX10 (Nat.le_of_ble_eq_true rfl) rfl ?_
  unfold wX10_path at hw
  refine q_aload_nr eX10_path_0 rfl ?_
  refine q_iconst (v := nI 0) eX10_path_1 (by decide) ?_
  obtain ⟨hs1, hw⟩ := hw
  have hw := hw _ rfl
  refine q_putI (fwX10_1 _) rfl hs1 eX10_path_2 ?_
  refine q_aload_nr eX10_path_5 rfl ?_
  refine q_iload_n eX10_path_6 rfl ?_
  refine q_i2l eX10_path_7 ?_
  refine q_callV (b := 0) (t := 0) (gX10_isRing _ _ _ _ hw) mlX10_294 kX10_isRing vX10_isRing rfl hs1 ⟨rfl, rfl⟩ (by decide) rfl (Nat.le_of_ble_eq_true rfl) eX10_path_8 (kI fun r3 h4 hw => ?_)
  obtain ⟨hw1, hw2⟩ := hw
  refine q_if_eq (tgt := 23) eX10_path_11 (by decide) (fun c => ?_) (fun c => ?_)
  · have hw := hw1 c
    refine q_bipush (v := (-2 : Int32)) eX10_path_23 (by decide) ?_
    exact q_ret rfl eX10_path_25 ⟨_, rfl, hw⟩
  · have hw := hw2 c
    refine q_aload_nr eX10_path_14 rfl ?_
    refine q_iload_n eX10_path_15 rfl ?_
    refine q_i2l eX10_path_16 ?_
    obtain ⟨hs5, hw⟩ := hw
    refine q_callV (b := 0) (t := 0) (gX10_isLink _ _ _ _ hw) mlX10_287 kX10_isLink vX10_isLink rfl hs5 ⟨rfl, rfl⟩ (by decide) rfl (Nat.le_of_ble_eq_true rfl) eX10_path_17 (kI fun r6 h7 hw => ?_)
    obtain ⟨hw1, hw2⟩ := hw
    refine q_if_ne (tgt := 26) eX10_path_20 (by decide) (fun c => ?_) (fun c => ?_)
    · have hw := hw1 c
      refine q_iload_n eX10_path_26 rfl ?_
      obtain ⟨hw1, hw2⟩ := hw
      refine q_if_ge (tgt := 35) eX10_path_27 (by decide) (fun c => ?_) (fun c => ?_)
      · have hw := hw1 c
        refine q_aload_nr eX10_path_35 rfl ?_
        refine q_iload_n eX10_path_36 rfl ?_
        refine q_iload_n eX10_path_37 rfl ?_
        refine q_iload_n eX10_path_38 rfl ?_
        obtain ⟨hs8, hw⟩ := hw
        refine q_callV (b := 0) (t := 0) (gX10_pathOf _ _ _ _ _ _ hw) mlX10_263 kX10_pathOf vX10_pathOf rfl hs8 ⟨rfl, rfl⟩ (by decide) rfl (Nat.le_of_ble_eq_true rfl) eX10_path_39 (kI fun r9 h10 hw => ?_)
        exact q_ret rfl eX10_path_42 ⟨_, rfl, hw⟩
      · have hw := hw2 c
        refine q_bipush (v := (-3 : Int32)) eX10_path_30 (by decide) ?_
        refine q_goto (tgt := 42) eX10_path_32 (by decide) ?_
        exact q_ret rfl eX10_path_42 ⟨_, rfl, hw⟩
    · have hw := hw2 c
      refine q_bipush (v := (-2 : Int32)) eX10_path_23 (by decide) ?_
      exact q_ret rfl eX10_path_25 ⟨_, rfl, hw⟩
def wX10_stores_2 (Q : MH → Prop) : Nat → Nat → Int32 → MH → Prop
  | 0, _, _, _ => False
  | n + 1, x0, x1, h => (nI 126 ≤ x1 → Q h) ∧ (¬ (nI 126 ≤ x1) → hS h x0 = (1, 10) ∧ ∃ a2, hR h x0 24 = some a2 ∧ ∃ a4, hR h x0 1 = some a4 ∧ ∃ n7, hS h a4 = (2, n7) ∧ vp_in ((nI 49 + x1)) n7 ∧ ∃ n10, hS h a2 = (2, n10) ∧ vp_in (x1) n10 ∧ ∀ h12, h12 = sI h a2 (x1).toNatClampNeg (hI h a4 ((nI 49 + x1)).toNatClampNeg) → wX10_stores_2 Q n x0 (x1 + nI 1) h12)
set_option maxHeartbeats 4000000 in
set_option maxRecDepth 100000 in
theorem tX10_stores_2 {Q : MH → Prop} : ∀ (n : Nat) (h : MH) (x0 : Nat) (x1 : Int32), wX10_stores_2 Q n x0 x1 h → Wm MX10_stores 0 0 0 2 [some (.ref (x0)), some (.int (x1))] [] h (pV Q) := by
  intro n
  induction n with
  | zero => intro h x0 x1 hw; exact hw.elim
  | succ n ih =>
    intro h x0 x1 hw
    unfold wX10_stores_2 at hw
    refine q_iload_n eX10_stores_2 rfl ?_
    refine q_bipush (v := nI 126) eX10_stores_3 (by decide) ?_
    obtain ⟨hw1, hw2⟩ := hw
    refine q_icmp_ge (tgt := 29) eX10_stores_5 (by decide) (fun c => ?_) (fun c => ?_)
    · have hw := hw1 c
      exact q_retV rfl eX10_stores_29 ⟨rfl, hw⟩
    · have hw := hw2 c
      refine q_aload_nr eX10_stores_8 rfl ?_
      obtain ⟨hs1, hw⟩ := hw
      obtain ⟨a2, hr3, hw⟩ := hw
      refine q_getR flX10_51 rfl hs1 hr3 eX10_stores_9 ?_
      refine q_iload_n eX10_stores_12 rfl ?_
      refine q_aload_nr eX10_stores_13 rfl ?_
      obtain ⟨a4, hr5, hw⟩ := hw
      refine q_getR flX10_13 rfl hs1 hr5 eX10_stores_14 ?_
      refine q_bipush (v := nI 49) eX10_stores_17 (by decide) ?_
      refine q_iload_n eX10_stores_19 rfl ?_
      refine q_iadd eX10_stores_20 ?_
      obtain ⟨n7, hs6, hw⟩ := hw
      obtain ⟨hi8, hw⟩ := hw
      refine q_iald hs6 hi8 eX10_stores_21 ?_
      obtain ⟨n10, hs9, hw⟩ := hw
      obtain ⟨hi11, hw⟩ := hw
      have hw := hw _ rfl
      refine q_iast hs9 hi11 eX10_stores_22 ?_
      refine x_iinc (v := (x1 + nI 1)) (ls' := [_, _]) eX10_stores_23 rfl rfl rfl rfl ?_
      refine q_goto (tgt := 2) eX10_stores_26 (by decide) ?_
      refine q_le (ls' := [some _, some _]) ⟨rfl, rfl, trivial⟩ ?_
      exact ih _ _ _ hw
def wX10_stores (x0 : Nat) (h : MH) (Q : MH → Prop) : Prop := ∃ m13, wX10_stores_2 Q m13 x0 (nI 0) h
set_option maxHeartbeats 4000000 in
set_option maxRecDepth 100000 in
theorem gX10_stores (x0 : Nat) (h : MH) (Q : MH → Prop) (hw : wX10_stores x0 h Q) : Cm MX10_stores 0 0 0 [.ref (x0)] h (pV Q) := by
  refine cm_of [some (.ref (x0)), none] rfl pnX10 (Nat.le_of_ble_eq_true rfl) rfl ?_
  unfold wX10_stores at hw
  refine q_iconst (v := nI 0) eX10_stores_0 (by decide) ?_
  refine x_istore_n (ls' := [_, _]) eX10_stores_1 (by decide) rfl rfl ?_
  refine q_le (ls' := [some _, some _]) ⟨rfl, rfl, trivial⟩ ?_
  obtain ⟨m13, hw⟩ := hw
  exact tX10_stores_2 m13 _ _ _ hw
def wX10_isAgain_25 (Q : MH → Prop) : Nat → Nat → Int32 → Int32 → MH → Prop
  | 0, _, _, _, _ => False
  | n + 1, x0, x1, x2, h => (nI 126 ≤ x2 → (x1 = 0 → Q h) ∧ (¬ (x1 = 0) → hS h x0 = (1, 10) ∧ wX10_laysRings x0 h (fun h16 => Q h16))) ∧ (¬ (nI 126 ≤ x2) → hS h x0 = (1, 10) ∧ ∃ a18, hR h x0 1 = some a18 ∧ ∃ a20, hR h x0 24 = some a20 ∧ ∃ n23, hS h a20 = (2, n23) ∧ vp_in (x2) n23 ∧ ∃ n26, hS h a18 = (2, n26) ∧ vp_in ((nI 49 + x2)) n26 ∧ ∀ h28, h28 = sI h a18 ((nI 49 + x2)).toNatClampNeg (hI h a20 (x2).toNatClampNeg) → wX10_isAgain_25 Q n x0 x1 (x2 + nI 1) h28)
set_option maxHeartbeats 4000000 in
set_option maxRecDepth 100000 in
theorem tX10_isAgain_25 {Q : MH → Prop} : ∀ (n : Nat) (h : MH) (x0 : Nat) (x1 : Int32) (x2 : Int32), wX10_isAgain_25 Q n x0 x1 x2 h → Wm MX10_isAgain 4 0 0 25 [some (.ref (x0)), some (.int (x1)), some (.int (x2))] [] h (pV Q) := by
  intro n
  induction n with
  | zero => intro h x0 x1 x2 hw; exact hw.elim
  | succ n ih =>
    intro h x0 x1 x2 hw
    unfold wX10_isAgain_25 at hw
    refine q_iload_n eX10_isAgain_25 rfl ?_
    refine q_bipush (v := nI 126) eX10_isAgain_26 (by decide) ?_
    obtain ⟨hw1, hw2⟩ := hw
    refine q_icmp_ge (tgt := 52) eX10_isAgain_28 (by decide) (fun c => ?_) (fun c => ?_)
    · have hw := hw1 c
      refine q_iload_n eX10_isAgain_52 rfl ?_
      obtain ⟨hw1, hw2⟩ := hw
      refine q_if_eq (tgt := 60) eX10_isAgain_53 (by decide) (fun c => ?_) (fun c => ?_)
      · have hw := hw1 c
        exact q_retV rfl eX10_isAgain_60 ⟨rfl, hw⟩
      · have hw := hw2 c
        refine q_aload_nr eX10_isAgain_56 rfl ?_
        obtain ⟨hs14, hw⟩ := hw
        refine q_callV (b := 0) (t := 0) (gX10_laysRings _ _ _ hw) mlX10_84 kX10_laysRings vX10_laysRings rfl hs14 ⟨rfl, rfl⟩ (by decide) rfl (Nat.le_of_ble_eq_true rfl) eX10_isAgain_57 (kV fun h16 hw => ?_)
        exact q_retV rfl eX10_isAgain_60 ⟨rfl, hw⟩
    · have hw := hw2 c
      refine q_aload_nr eX10_isAgain_31 rfl ?_
      obtain ⟨hs17, hw⟩ := hw
      obtain ⟨a18, hr19, hw⟩ := hw
      refine q_getR flX10_13 rfl hs17 hr19 eX10_isAgain_32 ?_
      refine q_bipush (v := nI 49) eX10_isAgain_35 (by decide) ?_
      refine q_iload_n eX10_isAgain_37 rfl ?_
      refine q_iadd eX10_isAgain_38 ?_
      refine q_aload_nr eX10_isAgain_39 rfl ?_
      obtain ⟨a20, hr21, hw⟩ := hw
      refine q_getR flX10_51 rfl hs17 hr21 eX10_isAgain_40 ?_
      refine q_iload_n eX10_isAgain_43 rfl ?_
      obtain ⟨n23, hs22, hw⟩ := hw
      obtain ⟨hi24, hw⟩ := hw
      refine q_iald hs22 hi24 eX10_isAgain_44 ?_
      obtain ⟨n26, hs25, hw⟩ := hw
      obtain ⟨hi27, hw⟩ := hw
      have hw := hw _ rfl
      refine q_iast hs25 hi27 eX10_isAgain_45 ?_
      refine x_iinc (v := (x2 + nI 1)) (ls' := [_, _, _]) eX10_isAgain_46 rfl rfl rfl rfl ?_
      refine q_goto (tgt := 25) eX10_isAgain_49 (by decide) ?_
      refine q_le (ls' := [some _, some _, some _]) ⟨rfl, rfl, rfl, trivial⟩ ?_
      exact ih _ _ _ _ hw
def wX10_isAgain (x0 : Nat) (h : MH) (Q : MH → Prop) : Prop := hS h x0 = (1, 10) ∧ ∃ a2, hR h x0 1 = some a2 ∧ ∃ n5, hS h a2 = (2, n5) ∧ vp_in (nI 114) n5 ∧ ∃ a7, hR h x0 24 = some a7 ∧ ∃ n10, hS h a7 = (2, n10) ∧ vp_in (nI 65) n10 ∧ ∀ v13, v13 = (if hI h a2 (nI 114).toNatClampNeg = hI h a7 (nI 65).toNatClampNeg then nI 0 else nI 1) → ∃ m29, wX10_isAgain_25 Q m29 x0 v13 (nI 0) h
set_option maxHeartbeats 4000000 in
set_option maxRecDepth 100000 in
theorem gX10_isAgain (x0 : Nat) (h : MH) (Q : MH → Prop) (hw : wX10_isAgain x0 h Q) : Cm MX10_isAgain 4 0 0 [.ref (x0)] h (pV Q) := by
  refine cm_of [some (.ref (x0)), none, none] rfl pnX10 (Nat.le_of_ble_eq_true rfl) rfl ?_
  unfold wX10_isAgain at hw
  refine q_aload_nr eX10_isAgain_0 rfl ?_
  obtain ⟨hs1, hw⟩ := hw
  obtain ⟨a2, hr3, hw⟩ := hw
  refine q_getR flX10_13 rfl hs1 hr3 eX10_isAgain_1 ?_
  refine q_bipush (v := nI 114) eX10_isAgain_4 (by decide) ?_
  obtain ⟨n5, hs4, hw⟩ := hw
  obtain ⟨hi6, hw⟩ := hw
  refine q_iald hs4 hi6 eX10_isAgain_6 ?_
  refine q_aload_nr eX10_isAgain_7 rfl ?_
  obtain ⟨a7, hr8, hw⟩ := hw
  refine q_getR flX10_51 rfl hs1 hr8 eX10_isAgain_8 ?_
  refine q_bipush (v := nI 65) eX10_isAgain_11 (by decide) ?_
  obtain ⟨n10, hs9, hw⟩ := hw
  obtain ⟨hi11, hw⟩ := hw
  refine q_iald hs9 hi11 eX10_isAgain_13 ?_
  have hj30 : Wm MX10_isAgain 4 0 0 22 [some (.ref (x0)), none, none] [.int ((if hI h a2 (nI 114).toNatClampNeg = hI h a7 (nI 65).toNatClampNeg then nI 0 else nI 1))] h (pV Q) := by
    have hw := hw _ rfl
    refine x_istore_n (ls' := [_, _, _]) eX10_isAgain_22 (by decide) rfl rfl ?_
    refine q_iconst (v := nI 0) eX10_isAgain_23 (by decide) ?_
    refine x_istore_n (ls' := [_, _, _]) eX10_isAgain_24 (by decide) rfl rfl ?_
    refine q_le (ls' := [some _, some _, some _]) ⟨rfl, rfl, rfl, trivial⟩ ?_
    obtain ⟨m29, hw⟩ := hw
    exact tX10_isAgain_25 m29 _ _ _ _ hw
  refine q_icmp_eq (tgt := 21) eX10_isAgain_14 (by decide) (fun c => ?_) (fun c => ?_)
  · refine q_iconst (v := nI 0) eX10_isAgain_21 (by decide) ?_
    rw [if_pos c] at hj30
    exact hj30
  · refine q_iconst (v := nI 1) eX10_isAgain_17 (by decide) ?_
    refine q_goto (tgt := 22) eX10_isAgain_18 (by decide) ?_
    rw [if_neg c] at hj30
    exact hj30
def wX10_notes_62 (Q : MH → Prop) : Nat → Nat → Int32 → MH → Prop
  | 0, _, _, _ => False
  | n + 1, x0, x1, h => (nI 126 ≤ x1 → hS h x0 = (1, 10) ∧ ∃ a8, hR h x0 1 = some a8 ∧ ∃ n11, hS h a8 = (2, n11) ∧ vp_in (nI 175) n11 ∧ vp_in (nI 175) n11 ∧ ∀ h14, h14 = sI h a8 (nI 175).toNatClampNeg ((hI h a8 (nI 175).toNatClampNeg + nI 1)) → Q h14) ∧ (¬ (nI 126 ≤ x1) → hS h x0 = (1, 10) ∧ ∃ a16, hR h x0 1 = some a16 ∧ ∃ n19, hS h a16 = (2, n19) ∧ vp_in (nI 175) n19 ∧ ∃ a21, hR h x0 24 = some a21 ∧ ∃ n24, hS h a21 = (2, n24) ∧ vp_in (x1) n24 ∧ vp_in (((nI 176 + (nI 126 * hI h a16 (nI 175).toNatClampNeg)) + x1)) n19 ∧ ∀ h27, h27 = sI h a16 (((nI 176 + (nI 126 * hI h a16 (nI 175).toNatClampNeg)) + x1)).toNatClampNeg (hI h a21 (x1).toNatClampNeg) → wX10_notes_62 Q n x0 (x1 + nI 1) h27)
set_option maxHeartbeats 4000000 in
set_option maxRecDepth 100000 in
theorem tX10_notes_62 {Q : MH → Prop} : ∀ (n : Nat) (h : MH) (x0 : Nat) (x1 : Int32), wX10_notes_62 Q n x0 x1 h → Wm MX10_notes 0 0 0 62 [some (.ref (x0)), some (.int (x1))] [] h (pV Q) := by
  intro n
  induction n with
  | zero => intro h x0 x1 hw; exact hw.elim
  | succ n ih =>
    intro h x0 x1 hw
    unfold wX10_notes_62 at hw
    refine q_iload_n eX10_notes_62 rfl ?_
    refine q_bipush (v := nI 126) eX10_notes_63 (by decide) ?_
    obtain ⟨hw1, hw2⟩ := hw
    refine q_icmp_ge (tgt := 102) eX10_notes_65 (by decide) (fun c => ?_) (fun c => ?_)
    · have hw := hw1 c
      refine q_aload_nr eX10_notes_102 rfl ?_
      obtain ⟨hs7, hw⟩ := hw
      obtain ⟨a8, hr9, hw⟩ := hw
      refine q_getR flX10_13 rfl hs7 hr9 eX10_notes_103 ?_
      refine q_sipush (v := nI 175) eX10_notes_106 (by decide) ?_
      refine q_dup2 eX10_notes_109 rfl rfl ?_
      obtain ⟨n11, hs10, hw⟩ := hw
      obtain ⟨hi12, hw⟩ := hw
      refine q_iald hs10 hi12 eX10_notes_110 ?_
      refine q_iconst (v := nI 1) eX10_notes_111 (by decide) ?_
      refine q_iadd eX10_notes_112 ?_
      obtain ⟨hi13, hw⟩ := hw
      have hw := hw _ rfl
      refine q_iast hs10 hi13 eX10_notes_113 ?_
      exact q_retV rfl eX10_notes_114 ⟨rfl, hw⟩
    · have hw := hw2 c
      refine q_aload_nr eX10_notes_68 rfl ?_
      obtain ⟨hs15, hw⟩ := hw
      obtain ⟨a16, hr17, hw⟩ := hw
      refine q_getR flX10_13 rfl hs15 hr17 eX10_notes_69 ?_
      refine q_sipush (v := nI 176) eX10_notes_72 (by decide) ?_
      refine q_bipush (v := nI 126) eX10_notes_75 (by decide) ?_
      refine q_aload_nr eX10_notes_77 rfl ?_
      refine q_getR flX10_13 rfl hs15 hr17 eX10_notes_78 ?_
      refine q_sipush (v := nI 175) eX10_notes_81 (by decide) ?_
      obtain ⟨n19, hs18, hw⟩ := hw
      obtain ⟨hi20, hw⟩ := hw
      refine q_iald hs18 hi20 eX10_notes_84 ?_
      refine q_imul eX10_notes_85 ?_
      refine q_iadd eX10_notes_86 ?_
      refine q_iload_n eX10_notes_87 rfl ?_
      refine q_iadd eX10_notes_88 ?_
      refine q_aload_nr eX10_notes_89 rfl ?_
      obtain ⟨a21, hr22, hw⟩ := hw
      refine q_getR flX10_51 rfl hs15 hr22 eX10_notes_90 ?_
      refine q_iload_n eX10_notes_93 rfl ?_
      obtain ⟨n24, hs23, hw⟩ := hw
      obtain ⟨hi25, hw⟩ := hw
      refine q_iald hs23 hi25 eX10_notes_94 ?_
      obtain ⟨hi26, hw⟩ := hw
      have hw := hw _ rfl
      refine q_iast hs18 hi26 eX10_notes_95 ?_
      refine x_iinc (v := (x1 + nI 1)) (ls' := [_, _]) eX10_notes_96 rfl rfl rfl rfl ?_
      refine q_goto (tgt := 62) eX10_notes_99 (by decide) ?_
      refine q_le (ls' := [some _, some _]) ⟨rfl, rfl, trivial⟩ ?_
      exact ih _ _ _ hw
def wX10_notes_15 (Q : MH → Prop) : Nat → Nat → Int32 → MH → Prop
  | 0, _, _, _ => False
  | n + 1, x0, x1, h => (nI 1134 ≤ x1 → hS h x0 = (1, 10) ∧ ∃ a30, hR h x0 1 = some a30 ∧ ∃ n33, hS h a30 = (2, n33) ∧ vp_in (nI 175) n33 ∧ vp_in (nI 175) n33 ∧ ∀ h36, h36 = sI h a30 (nI 175).toNatClampNeg ((hI h a30 (nI 175).toNatClampNeg - nI 1)) → ∃ m37, wX10_notes_62 Q m37 x0 (nI 0) h36) ∧ (¬ (nI 1134 ≤ x1) → hS h x0 = (1, 10) ∧ ∃ a39, hR h x0 1 = some a39 ∧ ∃ n42, hS h a39 = (2, n42) ∧ vp_in ((nI 302 + x1)) n42 ∧ vp_in ((nI 176 + x1)) n42 ∧ ∀ h45, h45 = sI h a39 ((nI 176 + x1)).toNatClampNeg (hI h a39 ((nI 302 + x1)).toNatClampNeg) → wX10_notes_15 Q n x0 (x1 + nI 1) h45)
set_option maxHeartbeats 4000000 in
set_option maxRecDepth 100000 in
theorem tX10_notes_15 {Q : MH → Prop} : ∀ (n : Nat) (h : MH) (x0 : Nat) (x1 : Int32), wX10_notes_15 Q n x0 x1 h → Wm MX10_notes 0 0 0 15 [some (.ref (x0)), some (.int (x1))] [] h (pV Q) := by
  intro n
  induction n with
  | zero => intro h x0 x1 hw; exact hw.elim
  | succ n ih =>
    intro h x0 x1 hw
    unfold wX10_notes_15 at hw
    refine q_iload_n eX10_notes_15 rfl ?_
    refine q_sipush (v := nI 1134) eX10_notes_16 (by decide) ?_
    obtain ⟨hw1, hw2⟩ := hw
    refine q_icmp_ge (tgt := 48) eX10_notes_19 (by decide) (fun c => ?_) (fun c => ?_)
    · have hw := hw1 c
      refine q_aload_nr eX10_notes_48 rfl ?_
      obtain ⟨hs29, hw⟩ := hw
      obtain ⟨a30, hr31, hw⟩ := hw
      refine q_getR flX10_13 rfl hs29 hr31 eX10_notes_49 ?_
      refine q_sipush (v := nI 175) eX10_notes_52 (by decide) ?_
      refine q_dup2 eX10_notes_55 rfl rfl ?_
      obtain ⟨n33, hs32, hw⟩ := hw
      obtain ⟨hi34, hw⟩ := hw
      refine q_iald hs32 hi34 eX10_notes_56 ?_
      refine q_iconst (v := nI 1) eX10_notes_57 (by decide) ?_
      refine q_isub eX10_notes_58 ?_
      obtain ⟨hi35, hw⟩ := hw
      have hw := hw _ rfl
      refine q_iast hs32 hi35 eX10_notes_59 ?_
      refine q_iconst (v := nI 0) eX10_notes_60 (by decide) ?_
      refine x_istore_n (ls' := [_, _]) eX10_notes_61 (by decide) rfl rfl ?_
      refine q_le (ls' := [some _, some _]) ⟨rfl, rfl, trivial⟩ ?_
      obtain ⟨m37, hw⟩ := hw
      exact tX10_notes_62 m37 _ _ _ hw
    · have hw := hw2 c
      refine q_aload_nr eX10_notes_22 rfl ?_
      obtain ⟨hs38, hw⟩ := hw
      obtain ⟨a39, hr40, hw⟩ := hw
      refine q_getR flX10_13 rfl hs38 hr40 eX10_notes_23 ?_
      refine q_sipush (v := nI 176) eX10_notes_26 (by decide) ?_
      refine q_iload_n eX10_notes_29 rfl ?_
      refine q_iadd eX10_notes_30 ?_
      refine q_aload_nr eX10_notes_31 rfl ?_
      refine q_getR flX10_13 rfl hs38 hr40 eX10_notes_32 ?_
      refine q_sipush (v := nI 302) eX10_notes_35 (by decide) ?_
      refine q_iload_n eX10_notes_38 rfl ?_
      refine q_iadd eX10_notes_39 ?_
      obtain ⟨n42, hs41, hw⟩ := hw
      obtain ⟨hi43, hw⟩ := hw
      refine q_iald hs41 hi43 eX10_notes_40 ?_
      obtain ⟨hi44, hw⟩ := hw
      have hw := hw _ rfl
      refine q_iast hs41 hi44 eX10_notes_41 ?_
      refine x_iinc (v := (x1 + nI 1)) (ls' := [_, _]) eX10_notes_42 rfl rfl rfl rfl ?_
      refine q_goto (tgt := 15) eX10_notes_45 (by decide) ?_
      refine q_le (ls' := [some _, some _]) ⟨rfl, rfl, trivial⟩ ?_
      exact ih _ _ _ hw
def wX10_notes (x0 : Nat) (h : MH) (Q : MH → Prop) : Prop := hS h x0 = (1, 10) ∧ ∃ a2, hR h x0 1 = some a2 ∧ ∃ n5, hS h a2 = (2, n5) ∧ vp_in (nI 175) n5 ∧ (¬ (hI h a2 (nI 175).toNatClampNeg = nI 10) → ∃ m28, wX10_notes_62 Q m28 x0 (nI 0) h) ∧ (hI h a2 (nI 175).toNatClampNeg = nI 10 → ∃ m46, wX10_notes_15 Q m46 x0 (nI 0) h)
set_option maxHeartbeats 4000000 in
set_option maxRecDepth 100000 in
theorem gX10_notes (x0 : Nat) (h : MH) (Q : MH → Prop) (hw : wX10_notes x0 h Q) : Cm MX10_notes 0 0 0 [.ref (x0)] h (pV Q) := by
  refine cm_of [some (.ref (x0)), none] rfl pnX10 (Nat.le_of_ble_eq_true rfl) rfl ?_
  unfold wX10_notes at hw
  refine q_aload_nr eX10_notes_0 rfl ?_
  obtain ⟨hs1, hw⟩ := hw
  obtain ⟨a2, hr3, hw⟩ := hw
  refine q_getR flX10_13 rfl hs1 hr3 eX10_notes_1 ?_
  refine q_sipush (v := nI 175) eX10_notes_4 (by decide) ?_
  obtain ⟨n5, hs4, hw⟩ := hw
  obtain ⟨hi6, hw⟩ := hw
  refine q_iald hs4 hi6 eX10_notes_7 ?_
  refine q_bipush (v := nI 10) eX10_notes_8 (by decide) ?_
  obtain ⟨hw1, hw2⟩ := hw
  refine q_icmp_ne (tgt := 60) eX10_notes_10 (by decide) (fun c => ?_) (fun c => ?_)
  · have hw := hw1 c
    refine q_iconst (v := nI 0) eX10_notes_60 (by decide) ?_
    refine x_istore_n (ls' := [_, _]) eX10_notes_61 (by decide) rfl rfl ?_
    refine q_le (ls' := [some _, some _]) ⟨rfl, rfl, trivial⟩ ?_
    obtain ⟨m28, hw⟩ := hw
    exact tX10_notes_62 m28 _ _ _ hw
  · have hw := hw2 c
    refine q_iconst (v := nI 0) eX10_notes_13 (by decide) ?_
    refine x_istore_n (ls' := [_, _]) eX10_notes_14 (by decide) rfl rfl ?_
    refine q_le (ls' := [some _, some _]) ⟨rfl, rfl, trivial⟩ ?_
    obtain ⟨m46, hw⟩ := hw
    exact tX10_notes_15 m46 _ _ _ hw
def wX10_whyLay (x0 : Nat) (x1 : Int64) (h : MH) (Q : Int32 → MH → Prop) : Prop := hS h x0 = (1, 10) ∧ wX10_isRing x0 x1 h (fun r2 h3 => (¬ (r2 = 0) → hS h3 x0 = (1, 10) ∧ ∃ a5, hR h3 x0 1 = some a5 ∧ ∃ n8, hS h3 a5 = (2, n8) ∧ vp_in ((nI 49 + (x1).toInt32)) n8 ∧ Q ((if hI h3 a5 ((nI 49 + (x1).toInt32)).toNatClampNeg = nI 9 then nI 2 else nI 0)) h3) ∧ (r2 = 0 → Q (nI 1) h3))
set_option maxHeartbeats 4000000 in
set_option maxRecDepth 100000 in
theorem gX10_whyLay (x0 : Nat) (x1 : Int64) (h : MH) (Q : Int32 → MH → Prop) (hw : wX10_whyLay x0 x1 h Q) : Cm MX10_whyLay 2 0 0 [.ref (x0), .long (x1)] h (pI Q) := by
  refine cm_of [some (.ref (x0)), some (.long (x1)), none] rfl pnX10 (Nat.le_of_ble_eq_true rfl) rfl ?_
  unfold wX10_whyLay at hw
  refine q_aload_nr eX10_whyLay_0 rfl ?_
  refine q_lload_n eX10_whyLay_1 rfl ?_
  obtain ⟨hs1, hw⟩ := hw
  refine q_callV (b := 0) (t := 0) (gX10_isRing _ _ _ _ hw) mlX10_294 kX10_isRing vX10_isRing rfl hs1 ⟨rfl, rfl⟩ (by decide) rfl (Nat.le_of_ble_eq_true rfl) eX10_whyLay_2 (kI fun r2 h3 hw => ?_)
  obtain ⟨hw1, hw2⟩ := hw
  refine q_if_ne (tgt := 12) eX10_whyLay_5 (by decide) (fun c => ?_) (fun c => ?_)
  · have hw := hw1 c
    refine q_aload_nr eX10_whyLay_12 rfl ?_
    obtain ⟨hs4, hw⟩ := hw
    obtain ⟨a5, hr6, hw⟩ := hw
    refine q_getR flX10_13 rfl hs4 hr6 eX10_whyLay_13 ?_
    refine q_bipush (v := nI 49) eX10_whyLay_16 (by decide) ?_
    refine q_lload_n eX10_whyLay_18 rfl ?_
    refine q_l2i eX10_whyLay_19 ?_
    refine q_iadd eX10_whyLay_20 ?_
    obtain ⟨n8, hs7, hw⟩ := hw
    obtain ⟨hi9, hw⟩ := hw
    refine q_iald hs7 hi9 eX10_whyLay_21 ?_
    refine q_bipush (v := nI 9) eX10_whyLay_22 (by decide) ?_
    have hj11 : Wm MX10_whyLay 2 0 0 32 [some (.ref (x0)), some (.long (x1)), none] [.int ((if hI h3 a5 ((nI 49 + (x1).toInt32)).toNatClampNeg = nI 9 then nI 2 else nI 0))] h3 (pI Q) := by
      exact q_ret rfl eX10_whyLay_32 ⟨_, rfl, hw⟩
    refine q_icmp_ne (tgt := 31) eX10_whyLay_24 (by decide) (fun c => ?_) (fun c => ?_)
    · refine q_iconst (v := nI 0) eX10_whyLay_31 (by decide) ?_
      rw [if_neg c] at hj11
      exact hj11
    · refine q_iconst (v := nI 2) eX10_whyLay_27 (by decide) ?_
      refine q_goto (tgt := 32) eX10_whyLay_28 (by decide) ?_
      rw [if_pos c] at hj11
      exact hj11
  · have hw := hw2 c
    refine q_iconst (v := nI 1) eX10_whyLay_8 (by decide) ?_
    refine q_goto (tgt := 32) eX10_whyLay_9 (by decide) ?_
    exact q_ret rfl eX10_whyLay_32 ⟨_, rfl, hw⟩
def wX10_whyTake (x0 : Nat) (x1 : Int64) (h : MH) (Q : Int32 → MH → Prop) : Prop := hS h x0 = (1, 10) ∧ wX10_isRing x0 x1 h (fun r2 h3 => (¬ (r2 = 0) → hS h3 x0 = (1, 10) ∧ ∃ a5, hR h3 x0 1 = some a5 ∧ ∃ n8, hS h3 a5 = (2, n8) ∧ vp_in ((nI 49 + (x1).toInt32)) n8 ∧ Q ((if hI h3 a5 ((nI 49 + (x1).toInt32)).toNatClampNeg = 0 then nI 2 else nI 0)) h3) ∧ (r2 = 0 → Q (nI 1) h3))
set_option maxHeartbeats 4000000 in
set_option maxRecDepth 100000 in
theorem gX10_whyTake (x0 : Nat) (x1 : Int64) (h : MH) (Q : Int32 → MH → Prop) (hw : wX10_whyTake x0 x1 h Q) : Cm MX10_whyTake 2 0 0 [.ref (x0), .long (x1)] h (pI Q) := by
  refine cm_of [some (.ref (x0)), some (.long (x1)), none] rfl pnX10 (Nat.le_of_ble_eq_true rfl) rfl ?_
  unfold wX10_whyTake at hw
  refine q_aload_nr eX10_whyTake_0 rfl ?_
  refine q_lload_n eX10_whyTake_1 rfl ?_
  obtain ⟨hs1, hw⟩ := hw
  refine q_callV (b := 0) (t := 0) (gX10_isRing _ _ _ _ hw) mlX10_294 kX10_isRing vX10_isRing rfl hs1 ⟨rfl, rfl⟩ (by decide) rfl (Nat.le_of_ble_eq_true rfl) eX10_whyTake_2 (kI fun r2 h3 hw => ?_)
  obtain ⟨hw1, hw2⟩ := hw
  refine q_if_ne (tgt := 12) eX10_whyTake_5 (by decide) (fun c => ?_) (fun c => ?_)
  · have hw := hw1 c
    refine q_aload_nr eX10_whyTake_12 rfl ?_
    obtain ⟨hs4, hw⟩ := hw
    obtain ⟨a5, hr6, hw⟩ := hw
    refine q_getR flX10_13 rfl hs4 hr6 eX10_whyTake_13 ?_
    refine q_bipush (v := nI 49) eX10_whyTake_16 (by decide) ?_
    refine q_lload_n eX10_whyTake_18 rfl ?_
    refine q_l2i eX10_whyTake_19 ?_
    refine q_iadd eX10_whyTake_20 ?_
    obtain ⟨n8, hs7, hw⟩ := hw
    obtain ⟨hi9, hw⟩ := hw
    refine q_iald hs7 hi9 eX10_whyTake_21 ?_
    have hj11 : Wm MX10_whyTake 2 0 0 30 [some (.ref (x0)), some (.long (x1)), none] [.int ((if hI h3 a5 ((nI 49 + (x1).toInt32)).toNatClampNeg = 0 then nI 2 else nI 0))] h3 (pI Q) := by
      exact q_ret rfl eX10_whyTake_30 ⟨_, rfl, hw⟩
    refine q_if_ne (tgt := 29) eX10_whyTake_22 (by decide) (fun c => ?_) (fun c => ?_)
    · refine q_iconst (v := nI 0) eX10_whyTake_29 (by decide) ?_
      rw [if_neg c] at hj11
      exact hj11
    · refine q_iconst (v := nI 2) eX10_whyTake_25 (by decide) ?_
      refine q_goto (tgt := 30) eX10_whyTake_26 (by decide) ?_
      rw [if_pos c] at hj11
      exact hj11
  · have hw := hw2 c
    refine q_iconst (v := nI 1) eX10_whyTake_8 (by decide) ?_
    refine q_goto (tgt := 30) eX10_whyTake_9 (by decide) ?_
    exact q_ret rfl eX10_whyTake_30 ⟨_, rfl, hw⟩
def wX10_whyFail (x0 : Nat) (x1 : Int64) (h : MH) (Q : Int32 → MH → Prop) : Prop := hS h x0 = (1, 10) ∧ wX10_isLink x0 x1 h (fun r2 h3 => (¬ (r2 = 0) → hS h3 x0 = (1, 10) ∧ wX10_hasFailed x0 ((x1).toInt32) h3 (fun r5 h6 => Q ((if r5 = 0 then nI 0 else nI 2)) h6)) ∧ (r2 = 0 → Q (nI 1) h3))
set_option maxHeartbeats 4000000 in
set_option maxRecDepth 100000 in
theorem gX10_whyFail (x0 : Nat) (x1 : Int64) (h : MH) (Q : Int32 → MH → Prop) (hw : wX10_whyFail x0 x1 h Q) : Cm MX10_whyFail 2 0 0 [.ref (x0), .long (x1)] h (pI Q) := by
  refine cm_of [some (.ref (x0)), some (.long (x1)), none] rfl pnX10 (Nat.le_of_ble_eq_true rfl) rfl ?_
  unfold wX10_whyFail at hw
  refine q_aload_nr eX10_whyFail_0 rfl ?_
  refine q_lload_n eX10_whyFail_1 rfl ?_
  obtain ⟨hs1, hw⟩ := hw
  refine q_callV (b := 0) (t := 0) (gX10_isLink _ _ _ _ hw) mlX10_287 kX10_isLink vX10_isLink rfl hs1 ⟨rfl, rfl⟩ (by decide) rfl (Nat.le_of_ble_eq_true rfl) eX10_whyFail_2 (kI fun r2 h3 hw => ?_)
  obtain ⟨hw1, hw2⟩ := hw
  refine q_if_ne (tgt := 12) eX10_whyFail_5 (by decide) (fun c => ?_) (fun c => ?_)
  · have hw := hw1 c
    refine q_aload_nr eX10_whyFail_12 rfl ?_
    refine q_lload_n eX10_whyFail_13 rfl ?_
    refine q_l2i eX10_whyFail_14 ?_
    obtain ⟨hs4, hw⟩ := hw
    refine q_callV (b := 0) (t := 0) (gX10_hasFailed _ _ _ _ hw) mlX10_274 kX10_hasFailed vX10_hasFailed rfl hs4 ⟨rfl, rfl⟩ (by decide) rfl (Nat.le_of_ble_eq_true rfl) eX10_whyFail_15 (kI fun r5 h6 hw => ?_)
    have hj8 : Wm MX10_whyFail 2 0 0 26 [some (.ref (x0)), some (.long (x1)), none] [.int ((if r5 = 0 then nI 0 else nI 2))] h6 (pI Q) := by
      exact q_ret rfl eX10_whyFail_26 ⟨_, rfl, hw⟩
    refine q_if_eq (tgt := 25) eX10_whyFail_18 (by decide) (fun c => ?_) (fun c => ?_)
    · refine q_iconst (v := nI 0) eX10_whyFail_25 (by decide) ?_
      rw [if_pos c] at hj8
      exact hj8
    · refine q_iconst (v := nI 2) eX10_whyFail_21 (by decide) ?_
      refine q_goto (tgt := 26) eX10_whyFail_22 (by decide) ?_
      rw [if_neg c] at hj8
      exact hj8
  · have hw := hw2 c
    refine q_iconst (v := nI 1) eX10_whyFail_8 (by decide) ?_
    refine q_goto (tgt := 26) eX10_whyFail_9 (by decide) ?_
    exact q_ret rfl eX10_whyFail_26 ⟨_, rfl, hw⟩
def wX10_whyMend (x0 : Nat) (x1 : Int64) (h : MH) (Q : Int32 → MH → Prop) : Prop := hS h x0 = (1, 10) ∧ wX10_isLink x0 x1 h (fun r2 h3 => (¬ (r2 = 0) → hS h3 x0 = (1, 10) ∧ wX10_hasFailed x0 ((x1).toInt32) h3 (fun r5 h6 => Q ((if r5 = 0 then nI 2 else nI 0)) h6)) ∧ (r2 = 0 → Q (nI 1) h3))
set_option maxHeartbeats 4000000 in
set_option maxRecDepth 100000 in
theorem gX10_whyMend (x0 : Nat) (x1 : Int64) (h : MH) (Q : Int32 → MH → Prop) (hw : wX10_whyMend x0 x1 h Q) : Cm MX10_whyMend 2 0 0 [.ref (x0), .long (x1)] h (pI Q) := by
  refine cm_of [some (.ref (x0)), some (.long (x1)), none] rfl pnX10 (Nat.le_of_ble_eq_true rfl) rfl ?_
  unfold wX10_whyMend at hw
  refine q_aload_nr eX10_whyMend_0 rfl ?_
  refine q_lload_n eX10_whyMend_1 rfl ?_
  obtain ⟨hs1, hw⟩ := hw
  refine q_callV (b := 0) (t := 0) (gX10_isLink _ _ _ _ hw) mlX10_287 kX10_isLink vX10_isLink rfl hs1 ⟨rfl, rfl⟩ (by decide) rfl (Nat.le_of_ble_eq_true rfl) eX10_whyMend_2 (kI fun r2 h3 hw => ?_)
  obtain ⟨hw1, hw2⟩ := hw
  refine q_if_ne (tgt := 12) eX10_whyMend_5 (by decide) (fun c => ?_) (fun c => ?_)
  · have hw := hw1 c
    refine q_aload_nr eX10_whyMend_12 rfl ?_
    refine q_lload_n eX10_whyMend_13 rfl ?_
    refine q_l2i eX10_whyMend_14 ?_
    obtain ⟨hs4, hw⟩ := hw
    refine q_callV (b := 0) (t := 0) (gX10_hasFailed _ _ _ _ hw) mlX10_274 kX10_hasFailed vX10_hasFailed rfl hs4 ⟨rfl, rfl⟩ (by decide) rfl (Nat.le_of_ble_eq_true rfl) eX10_whyMend_15 (kI fun r5 h6 hw => ?_)
    have hj8 : Wm MX10_whyMend 2 0 0 26 [some (.ref (x0)), some (.long (x1)), none] [.int ((if r5 = 0 then nI 2 else nI 0))] h6 (pI Q) := by
      exact q_ret rfl eX10_whyMend_26 ⟨_, rfl, hw⟩
    refine q_if_eq (tgt := 25) eX10_whyMend_18 (by decide) (fun c => ?_) (fun c => ?_)
    · refine q_iconst (v := nI 2) eX10_whyMend_25 (by decide) ?_
      rw [if_pos c] at hj8
      exact hj8
    · refine q_iconst (v := nI 0) eX10_whyMend_21 (by decide) ?_
      refine q_goto (tgt := 26) eX10_whyMend_22 (by decide) ?_
      rw [if_neg c] at hj8
      exact hj8
  · have hw := hw2 c
    refine q_iconst (v := nI 1) eX10_whyMend_8 (by decide) ?_
    refine q_goto (tgt := 26) eX10_whyMend_9 (by decide) ?_
    exact q_ret rfl eX10_whyMend_26 ⟨_, rfl, hw⟩
def wX10_lay (x0 : Nat) (x1 : Int32) (h : MH) (Q : Int32 → MH → Prop) : Prop := hS h x0 = (1, 10) ∧ ∀ h2, h2 = sI h x0 0 (nI 0) → wX10_whyLay x0 ((x1).toInt64) h2 (fun r3 h4 => (r3 = 0 → hS h4 x0 = (1, 10) ∧ wX10_stores x0 h4 (fun h7 => hS h7 x0 = (1, 10) ∧ wX10_goesLay x0 x1 h7 (fun h10 => hS h10 x0 = (1, 10) ∧ wX10_notes x0 h10 (fun h13 => hS h13 x0 = (1, 10) ∧ ∃ a15, hR h13 x0 1 = some a15 ∧ ∃ n18, hS h13 a15 = (2, n18) ∧ vp_in ((nI 49 + x1)) n18 ∧ Q (hI h13 a15 ((nI 49 + x1)).toNatClampNeg) h13)))) ∧ (¬ (r3 = 0) → Q (((-10 : Int32) - r3)) h4))
set_option maxHeartbeats 4000000 in
set_option maxRecDepth 100000 in
theorem gX10_lay (x0 : Nat) (x1 : Int32) (h : MH) (Q : Int32 → MH → Prop) (hw : wX10_lay x0 x1 h Q) : Cm MX10_lay 7 0 0 [.ref (x0), .int (x1)] h (pI Q) := by
  refine cm_of [some (.ref (x0)), some (.int (x1)), none] rfl pnX10 (Nat.le_of_ble_eq_true rfl) rfl ?_
  unfold wX10_lay at hw
  refine q_aload_nr eX10_lay_0 rfl ?_
  refine q_iconst (v := nI 0) eX10_lay_1 (by decide) ?_
  obtain ⟨hs1, hw⟩ := hw
  have hw := hw _ rfl
  refine q_putI (fwX10_1 _) rfl hs1 eX10_lay_2 ?_
  refine q_aload_nr eX10_lay_5 rfl ?_
  refine q_iload_n eX10_lay_6 rfl ?_
  refine q_i2l eX10_lay_7 ?_
  refine q_callV (b := 0) (t := 0) (gX10_whyLay _ _ _ _ hw) mlX10_300 kX10_whyLay vX10_whyLay rfl hs1 ⟨rfl, rfl⟩ (by decide) rfl (Nat.le_of_ble_eq_true rfl) eX10_lay_8 (kI fun r3 h4 hw => ?_)
  refine x_istore_n (ls' := [_, _, _]) eX10_lay_11 (by decide) rfl rfl ?_
  refine q_iload_n eX10_lay_12 rfl ?_
  obtain ⟨hw1, hw2⟩ := hw
  refine q_if_eq (tgt := 21) eX10_lay_13 (by decide) (fun c => ?_) (fun c => ?_)
  · have hw := hw1 c
    refine q_aload_nr eX10_lay_21 rfl ?_
    obtain ⟨hs5, hw⟩ := hw
    refine q_callV (b := 0) (t := 0) (gX10_stores _ _ _ hw) mlX10_304 kX10_stores vX10_stores rfl hs5 ⟨rfl, rfl⟩ (by decide) rfl (Nat.le_of_ble_eq_true rfl) eX10_lay_22 (kV fun h7 hw => ?_)
    refine q_aload_nr eX10_lay_25 rfl ?_
    refine q_iload_n eX10_lay_26 rfl ?_
    obtain ⟨hs8, hw⟩ := hw
    refine q_callV (b := 0) (t := 0) (gX10_goesLay _ _ _ _ hw) mlX10_307 kX10_goesLay vX10_goesLay rfl hs8 ⟨rfl, rfl⟩ (by decide) rfl (Nat.le_of_ble_eq_true rfl) eX10_lay_27 (kV fun h10 hw => ?_)
    refine q_aload_nr eX10_lay_30 rfl ?_
    obtain ⟨hs11, hw⟩ := hw
    refine q_callV (b := 0) (t := 0) (gX10_notes _ _ _ hw) mlX10_310 kX10_notes vX10_notes rfl hs11 ⟨rfl, rfl⟩ (by decide) rfl (Nat.le_of_ble_eq_true rfl) eX10_lay_31 (kV fun h13 hw => ?_)
    refine q_aload_nr eX10_lay_34 rfl ?_
    obtain ⟨hs14, hw⟩ := hw
    obtain ⟨a15, hr16, hw⟩ := hw
    refine q_getR flX10_13 rfl hs14 hr16 eX10_lay_35 ?_
    refine q_bipush (v := nI 49) eX10_lay_38 (by decide) ?_
    refine q_iload_n eX10_lay_40 rfl ?_
    refine q_iadd eX10_lay_41 ?_
    obtain ⟨n18, hs17, hw⟩ := hw
    obtain ⟨hi19, hw⟩ := hw
    refine q_iald hs17 hi19 eX10_lay_42 ?_
    exact q_ret rfl eX10_lay_43 ⟨_, rfl, hw⟩
  · have hw := hw2 c
    refine q_bipush (v := (-10 : Int32)) eX10_lay_16 (by decide) ?_
    refine q_iload_n eX10_lay_18 rfl ?_
    refine q_isub eX10_lay_19 ?_
    exact q_ret rfl eX10_lay_20 ⟨_, rfl, hw⟩
def wX10_take (x0 : Nat) (x1 : Int32) (h : MH) (Q : Int32 → MH → Prop) : Prop := hS h x0 = (1, 10) ∧ ∀ h2, h2 = sI h x0 0 (nI 0) → wX10_whyTake x0 ((x1).toInt64) h2 (fun r3 h4 => (r3 = 0 → hS h4 x0 = (1, 10) ∧ wX10_stores x0 h4 (fun h7 => hS h7 x0 = (1, 10) ∧ wX10_goesTake x0 x1 h7 (fun h10 => hS h10 x0 = (1, 10) ∧ wX10_notes x0 h10 (fun h13 => hS h13 x0 = (1, 10) ∧ ∃ a15, hR h13 x0 1 = some a15 ∧ ∃ n18, hS h13 a15 = (2, n18) ∧ vp_in ((nI 49 + x1)) n18 ∧ Q (hI h13 a15 ((nI 49 + x1)).toNatClampNeg) h13)))) ∧ (¬ (r3 = 0) → Q (((-10 : Int32) - r3)) h4))
set_option maxHeartbeats 4000000 in
set_option maxRecDepth 100000 in
theorem gX10_take (x0 : Nat) (x1 : Int32) (h : MH) (Q : Int32 → MH → Prop) (hw : wX10_take x0 x1 h Q) : Cm MX10_take 7 0 0 [.ref (x0), .int (x1)] h (pI Q) := by
  refine cm_of [some (.ref (x0)), some (.int (x1)), none] rfl pnX10 (Nat.le_of_ble_eq_true rfl) rfl ?_
  unfold wX10_take at hw
  refine q_aload_nr eX10_take_0 rfl ?_
  refine q_iconst (v := nI 0) eX10_take_1 (by decide) ?_
  obtain ⟨hs1, hw⟩ := hw
  have hw := hw _ rfl
  refine q_putI (fwX10_1 _) rfl hs1 eX10_take_2 ?_
  refine q_aload_nr eX10_take_5 rfl ?_
  refine q_iload_n eX10_take_6 rfl ?_
  refine q_i2l eX10_take_7 ?_
  refine q_callV (b := 0) (t := 0) (gX10_whyTake _ _ _ _ hw) mlX10_313 kX10_whyTake vX10_whyTake rfl hs1 ⟨rfl, rfl⟩ (by decide) rfl (Nat.le_of_ble_eq_true rfl) eX10_take_8 (kI fun r3 h4 hw => ?_)
  refine x_istore_n (ls' := [_, _, _]) eX10_take_11 (by decide) rfl rfl ?_
  refine q_iload_n eX10_take_12 rfl ?_
  obtain ⟨hw1, hw2⟩ := hw
  refine q_if_eq (tgt := 21) eX10_take_13 (by decide) (fun c => ?_) (fun c => ?_)
  · have hw := hw1 c
    refine q_aload_nr eX10_take_21 rfl ?_
    obtain ⟨hs5, hw⟩ := hw
    refine q_callV (b := 0) (t := 0) (gX10_stores _ _ _ hw) mlX10_304 kX10_stores vX10_stores rfl hs5 ⟨rfl, rfl⟩ (by decide) rfl (Nat.le_of_ble_eq_true rfl) eX10_take_22 (kV fun h7 hw => ?_)
    refine q_aload_nr eX10_take_25 rfl ?_
    refine q_iload_n eX10_take_26 rfl ?_
    obtain ⟨hs8, hw⟩ := hw
    refine q_callV (b := 0) (t := 0) (gX10_goesTake _ _ _ _ hw) mlX10_316 kX10_goesTake vX10_goesTake rfl hs8 ⟨rfl, rfl⟩ (by decide) rfl (Nat.le_of_ble_eq_true rfl) eX10_take_27 (kV fun h10 hw => ?_)
    refine q_aload_nr eX10_take_30 rfl ?_
    obtain ⟨hs11, hw⟩ := hw
    refine q_callV (b := 0) (t := 0) (gX10_notes _ _ _ hw) mlX10_310 kX10_notes vX10_notes rfl hs11 ⟨rfl, rfl⟩ (by decide) rfl (Nat.le_of_ble_eq_true rfl) eX10_take_31 (kV fun h13 hw => ?_)
    refine q_aload_nr eX10_take_34 rfl ?_
    obtain ⟨hs14, hw⟩ := hw
    obtain ⟨a15, hr16, hw⟩ := hw
    refine q_getR flX10_13 rfl hs14 hr16 eX10_take_35 ?_
    refine q_bipush (v := nI 49) eX10_take_38 (by decide) ?_
    refine q_iload_n eX10_take_40 rfl ?_
    refine q_iadd eX10_take_41 ?_
    obtain ⟨n18, hs17, hw⟩ := hw
    obtain ⟨hi19, hw⟩ := hw
    refine q_iald hs17 hi19 eX10_take_42 ?_
    exact q_ret rfl eX10_take_43 ⟨_, rfl, hw⟩
  · have hw := hw2 c
    refine q_bipush (v := (-10 : Int32)) eX10_take_16 (by decide) ?_
    refine q_iload_n eX10_take_18 rfl ?_
    refine q_isub eX10_take_19 ?_
    exact q_ret rfl eX10_take_20 ⟨_, rfl, hw⟩
def wX10_fail (x0 : Nat) (x1 : Int32) (h : MH) (Q : Int32 → MH → Prop) : Prop := hS h x0 = (1, 10) ∧ ∀ h2, h2 = sI h x0 0 (nI 0) → wX10_whyFail x0 ((x1).toInt64) h2 (fun r3 h4 => (r3 = 0 → hS h4 x0 = (1, 10) ∧ wX10_stores x0 h4 (fun h7 => hS h7 x0 = (1, 10) ∧ wX10_goesFail x0 x1 h7 (fun h10 => hS h10 x0 = (1, 10) ∧ wX10_notes x0 h10 (fun h13 => hS h13 x0 = (1, 10) ∧ wX10_lostNow x0 h13 (fun r15 h16 => Q (r15) h16))))) ∧ (¬ (r3 = 0) → Q (((-10 : Int32) - r3)) h4))
set_option maxHeartbeats 4000000 in
set_option maxRecDepth 100000 in
theorem gX10_fail (x0 : Nat) (x1 : Int32) (h : MH) (Q : Int32 → MH → Prop) (hw : wX10_fail x0 x1 h Q) : Cm MX10_fail 7 0 0 [.ref (x0), .int (x1)] h (pI Q) := by
  refine cm_of [some (.ref (x0)), some (.int (x1)), none] rfl pnX10 (Nat.le_of_ble_eq_true rfl) rfl ?_
  unfold wX10_fail at hw
  refine q_aload_nr eX10_fail_0 rfl ?_
  refine q_iconst (v := nI 0) eX10_fail_1 (by decide) ?_
  obtain ⟨hs1, hw⟩ := hw
  have hw := hw _ rfl
  refine q_putI (fwX10_1 _) rfl hs1 eX10_fail_2 ?_
  refine q_aload_nr eX10_fail_5 rfl ?_
  refine q_iload_n eX10_fail_6 rfl ?_
  refine q_i2l eX10_fail_7 ?_
  refine q_callV (b := 0) (t := 0) (gX10_whyFail _ _ _ _ hw) mlX10_319 kX10_whyFail vX10_whyFail rfl hs1 ⟨rfl, rfl⟩ (by decide) rfl (Nat.le_of_ble_eq_true rfl) eX10_fail_8 (kI fun r3 h4 hw => ?_)
  refine x_istore_n (ls' := [_, _, _]) eX10_fail_11 (by decide) rfl rfl ?_
  refine q_iload_n eX10_fail_12 rfl ?_
  obtain ⟨hw1, hw2⟩ := hw
  refine q_if_eq (tgt := 21) eX10_fail_13 (by decide) (fun c => ?_) (fun c => ?_)
  · have hw := hw1 c
    refine q_aload_nr eX10_fail_21 rfl ?_
    obtain ⟨hs5, hw⟩ := hw
    refine q_callV (b := 0) (t := 0) (gX10_stores _ _ _ hw) mlX10_304 kX10_stores vX10_stores rfl hs5 ⟨rfl, rfl⟩ (by decide) rfl (Nat.le_of_ble_eq_true rfl) eX10_fail_22 (kV fun h7 hw => ?_)
    refine q_aload_nr eX10_fail_25 rfl ?_
    refine q_iload_n eX10_fail_26 rfl ?_
    obtain ⟨hs8, hw⟩ := hw
    refine q_callV (b := 0) (t := 0) (gX10_goesFail _ _ _ _ hw) mlX10_322 kX10_goesFail vX10_goesFail rfl hs8 ⟨rfl, rfl⟩ (by decide) rfl (Nat.le_of_ble_eq_true rfl) eX10_fail_27 (kV fun h10 hw => ?_)
    refine q_aload_nr eX10_fail_30 rfl ?_
    obtain ⟨hs11, hw⟩ := hw
    refine q_callV (b := 0) (t := 0) (gX10_notes _ _ _ hw) mlX10_310 kX10_notes vX10_notes rfl hs11 ⟨rfl, rfl⟩ (by decide) rfl (Nat.le_of_ble_eq_true rfl) eX10_fail_31 (kV fun h13 hw => ?_)
    refine q_aload_nr eX10_fail_34 rfl ?_
    obtain ⟨hs14, hw⟩ := hw
    refine q_callV (b := 0) (t := 0) (gX10_lostNow _ _ _ hw) mlX10_325 kX10_lostNow vX10_lostNow rfl hs14 ⟨rfl, rfl⟩ (by decide) rfl (Nat.le_of_ble_eq_true rfl) eX10_fail_35 (kI fun r15 h16 hw => ?_)
    exact q_ret rfl eX10_fail_38 ⟨_, rfl, hw⟩
  · have hw := hw2 c
    refine q_bipush (v := (-10 : Int32)) eX10_fail_16 (by decide) ?_
    refine q_iload_n eX10_fail_18 rfl ?_
    refine q_isub eX10_fail_19 ?_
    exact q_ret rfl eX10_fail_20 ⟨_, rfl, hw⟩
def wX10_mend (x0 : Nat) (x1 : Int32) (h : MH) (Q : Int32 → MH → Prop) : Prop := hS h x0 = (1, 10) ∧ ∀ h2, h2 = sI h x0 0 (nI 0) → wX10_whyMend x0 ((x1).toInt64) h2 (fun r3 h4 => (r3 = 0 → hS h4 x0 = (1, 10) ∧ wX10_stores x0 h4 (fun h7 => hS h7 x0 = (1, 10) ∧ wX10_goesMend x0 x1 h7 (fun h10 => hS h10 x0 = (1, 10) ∧ wX10_notes x0 h10 (fun h13 => hS h13 x0 = (1, 10) ∧ wX10_lostNow x0 h13 (fun r15 h16 => Q (r15) h16))))) ∧ (¬ (r3 = 0) → Q (((-10 : Int32) - r3)) h4))
set_option maxHeartbeats 4000000 in
set_option maxRecDepth 100000 in
theorem gX10_mend (x0 : Nat) (x1 : Int32) (h : MH) (Q : Int32 → MH → Prop) (hw : wX10_mend x0 x1 h Q) : Cm MX10_mend 7 0 0 [.ref (x0), .int (x1)] h (pI Q) := by
  refine cm_of [some (.ref (x0)), some (.int (x1)), none] rfl pnX10 (Nat.le_of_ble_eq_true rfl) rfl ?_
  unfold wX10_mend at hw
  refine q_aload_nr eX10_mend_0 rfl ?_
  refine q_iconst (v := nI 0) eX10_mend_1 (by decide) ?_
  obtain ⟨hs1, hw⟩ := hw
  have hw := hw _ rfl
  refine q_putI (fwX10_1 _) rfl hs1 eX10_mend_2 ?_
  refine q_aload_nr eX10_mend_5 rfl ?_
  refine q_iload_n eX10_mend_6 rfl ?_
  refine q_i2l eX10_mend_7 ?_
  refine q_callV (b := 0) (t := 0) (gX10_whyMend _ _ _ _ hw) mlX10_328 kX10_whyMend vX10_whyMend rfl hs1 ⟨rfl, rfl⟩ (by decide) rfl (Nat.le_of_ble_eq_true rfl) eX10_mend_8 (kI fun r3 h4 hw => ?_)
  refine x_istore_n (ls' := [_, _, _]) eX10_mend_11 (by decide) rfl rfl ?_
  refine q_iload_n eX10_mend_12 rfl ?_
  obtain ⟨hw1, hw2⟩ := hw
  refine q_if_eq (tgt := 21) eX10_mend_13 (by decide) (fun c => ?_) (fun c => ?_)
  · have hw := hw1 c
    refine q_aload_nr eX10_mend_21 rfl ?_
    obtain ⟨hs5, hw⟩ := hw
    refine q_callV (b := 0) (t := 0) (gX10_stores _ _ _ hw) mlX10_304 kX10_stores vX10_stores rfl hs5 ⟨rfl, rfl⟩ (by decide) rfl (Nat.le_of_ble_eq_true rfl) eX10_mend_22 (kV fun h7 hw => ?_)
    refine q_aload_nr eX10_mend_25 rfl ?_
    refine q_iload_n eX10_mend_26 rfl ?_
    obtain ⟨hs8, hw⟩ := hw
    refine q_callV (b := 0) (t := 0) (gX10_goesMend _ _ _ _ hw) mlX10_331 kX10_goesMend vX10_goesMend rfl hs8 ⟨rfl, rfl⟩ (by decide) rfl (Nat.le_of_ble_eq_true rfl) eX10_mend_27 (kV fun h10 hw => ?_)
    refine q_aload_nr eX10_mend_30 rfl ?_
    obtain ⟨hs11, hw⟩ := hw
    refine q_callV (b := 0) (t := 0) (gX10_notes _ _ _ hw) mlX10_310 kX10_notes vX10_notes rfl hs11 ⟨rfl, rfl⟩ (by decide) rfl (Nat.le_of_ble_eq_true rfl) eX10_mend_31 (kV fun h13 hw => ?_)
    refine q_aload_nr eX10_mend_34 rfl ?_
    obtain ⟨hs14, hw⟩ := hw
    refine q_callV (b := 0) (t := 0) (gX10_lostNow _ _ _ hw) mlX10_325 kX10_lostNow vX10_lostNow rfl hs14 ⟨rfl, rfl⟩ (by decide) rfl (Nat.le_of_ble_eq_true rfl) eX10_mend_35 (kI fun r15 h16 hw => ?_)
    exact q_ret rfl eX10_mend_38 ⟨_, rfl, hw⟩
  · have hw := hw2 c
    refine q_bipush (v := (-10 : Int32)) eX10_mend_16 (by decide) ?_
    refine q_iload_n eX10_mend_18 rfl ?_
    refine q_isub eX10_mend_19 ?_
    exact q_ret rfl eX10_mend_20 ⟨_, rfl, hw⟩
def wX10_rate (x0 : Nat) (x1 : Int32) (h : MH) (Q : Int32 → MH → Prop) : Prop := hS h x0 = (1, 10) ∧ ∀ h2, h2 = sI h x0 0 (nI 0) → wX10_within ((x1).toInt64) (0 : Int64) (9 : Int64) h2 (fun r3 h4 => (¬ (r3 = 0) → hS h4 x0 = (1, 10) ∧ wX10_stores x0 h4 (fun h7 => hS h7 x0 = (1, 10) ∧ wX10_goesRate x0 x1 h7 (fun h10 => hS h10 x0 = (1, 10) ∧ wX10_notes x0 h10 (fun h13 => hS h13 x0 = (1, 10) ∧ Q (hI h13 x0 23) h13)))) ∧ (r3 = 0 → Q ((-11 : Int32)) h4))
set_option maxHeartbeats 4000000 in
set_option maxRecDepth 100000 in
theorem gX10_rate (x0 : Nat) (x1 : Int32) (h : MH) (Q : Int32 → MH → Prop) (hw : wX10_rate x0 x1 h Q) : Cm MX10_rate 5 0 0 [.ref (x0), .int (x1)] h (pI Q) := by
  refine cm_of [some (.ref (x0)), some (.int (x1))] rfl pnX10 (Nat.le_of_ble_eq_true rfl) rfl ?_
  unfold wX10_rate at hw
  refine q_aload_nr eX10_rate_0 rfl ?_
  refine q_iconst (v := nI 0) eX10_rate_1 (by decide) ?_
  obtain ⟨hs1, hw⟩ := hw
  have hw := hw _ rfl
  refine q_putI (fwX10_1 _) rfl hs1 eX10_rate_2 ?_
  refine q_iload_n eX10_rate_5 rfl ?_
  refine q_i2l eX10_rate_6 ?_
  refine q_lconst (v := (0 : Int64)) eX10_rate_7 (by decide) ?_
  refine q_ldc2 coX10_334 eX10_rate_8 ?_
  refine q_callS (b := 0) (t := 0) (gX10_within _ _ _ _ _ hw) mlX10_149 kX10_within sX10_within rfl (by decide) rfl (Nat.le_of_ble_eq_true rfl) eX10_rate_11 (kI fun r3 h4 hw => ?_)
  obtain ⟨hw1, hw2⟩ := hw
  refine q_if_ne (tgt := 20) eX10_rate_14 (by decide) (fun c => ?_) (fun c => ?_)
  · have hw := hw1 c
    refine q_aload_nr eX10_rate_20 rfl ?_
    obtain ⟨hs5, hw⟩ := hw
    refine q_callV (b := 0) (t := 0) (gX10_stores _ _ _ hw) mlX10_304 kX10_stores vX10_stores rfl hs5 ⟨rfl, rfl⟩ (by decide) rfl (Nat.le_of_ble_eq_true rfl) eX10_rate_21 (kV fun h7 hw => ?_)
    refine q_aload_nr eX10_rate_24 rfl ?_
    refine q_iload_n eX10_rate_25 rfl ?_
    obtain ⟨hs8, hw⟩ := hw
    refine q_callV (b := 0) (t := 0) (gX10_goesRate _ _ _ _ hw) mlX10_336 kX10_goesRate vX10_goesRate rfl hs8 ⟨rfl, rfl⟩ (by decide) rfl (Nat.le_of_ble_eq_true rfl) eX10_rate_26 (kV fun h10 hw => ?_)
    refine q_aload_nr eX10_rate_29 rfl ?_
    obtain ⟨hs11, hw⟩ := hw
    refine q_callV (b := 0) (t := 0) (gX10_notes _ _ _ hw) mlX10_310 kX10_notes vX10_notes rfl hs11 ⟨rfl, rfl⟩ (by decide) rfl (Nat.le_of_ble_eq_true rfl) eX10_rate_30 (kV fun h13 hw => ?_)
    refine q_aload_nr eX10_rate_33 rfl ?_
    obtain ⟨hs14, hw⟩ := hw
    refine q_getI flX10_216 rfl hs14 eX10_rate_34 ?_
    exact q_ret rfl eX10_rate_37 ⟨_, rfl, hw⟩
  · have hw := hw2 c
    refine q_bipush (v := (-11 : Int32)) eX10_rate_17 (by decide) ?_
    exact q_ret rfl eX10_rate_19 ⟨_, rfl, hw⟩
def wX10_undo_46 (Q : Int32 → MH → Prop) : Nat → Nat → Int32 → MH → Prop
  | 0, _, _, _ => False
  | n + 1, x0, x2, h => (nI 126 ≤ x2 → hS h x0 = (1, 10) ∧ wX10_isAgain x0 h (fun h16 => hS h16 x0 = (1, 10) ∧ ∃ a18, hR h16 x0 1 = some a18 ∧ ∃ n21, hS h16 a18 = (2, n21) ∧ vp_in (nI 175) n21 ∧ Q (hI h16 a18 (nI 175).toNatClampNeg) h16)) ∧ (¬ (nI 126 ≤ x2) → hS h x0 = (1, 10) ∧ ∃ a24, hR h x0 24 = some a24 ∧ ∃ a26, hR h x0 1 = some a26 ∧ ∃ n29, hS h a26 = (2, n29) ∧ vp_in (nI 175) n29 ∧ vp_in (((nI 176 + (nI 126 * hI h a26 (nI 175).toNatClampNeg)) + x2)) n29 ∧ ∃ n33, hS h a24 = (2, n33) ∧ vp_in (x2) n33 ∧ ∀ h35, h35 = sI h a24 (x2).toNatClampNeg (hI h a26 (((nI 176 + (nI 126 * hI h a26 (nI 175).toNatClampNeg)) + x2)).toNatClampNeg) → wX10_undo_46 Q n x0 (x2 + nI 1) h35)
set_option maxHeartbeats 4000000 in
set_option maxRecDepth 100000 in
theorem tX10_undo_46 {Q : Int32 → MH → Prop} : ∀ (n : Nat) (h : MH) (x0 : Nat) (x2 : Int32), wX10_undo_46 Q n x0 x2 h → Wm MX10_undo 5 0 0 46 [some (.ref (x0)), none, some (.int (x2))] [] h (pI Q) := by
  intro n
  induction n with
  | zero => intro h x0 x2 hw; exact hw.elim
  | succ n ih =>
    intro h x0 x2 hw
    unfold wX10_undo_46 at hw
    refine q_iload_n eX10_undo_46 rfl ?_
    refine q_bipush (v := nI 126) eX10_undo_47 (by decide) ?_
    obtain ⟨hw1, hw2⟩ := hw
    refine q_icmp_ge (tgt := 86) eX10_undo_49 (by decide) (fun c => ?_) (fun c => ?_)
    · have hw := hw1 c
      refine q_aload_nr eX10_undo_86 rfl ?_
      obtain ⟨hs14, hw⟩ := hw
      refine q_callV (b := 0) (t := 0) (gX10_isAgain _ _ _ hw) mlX10_341 kX10_isAgain vX10_isAgain rfl hs14 ⟨rfl, rfl⟩ (by decide) rfl (Nat.le_of_ble_eq_true rfl) eX10_undo_87 (kV fun h16 hw => ?_)
      refine q_aload_nr eX10_undo_90 rfl ?_
      obtain ⟨hs17, hw⟩ := hw
      obtain ⟨a18, hr19, hw⟩ := hw
      refine q_getR flX10_13 rfl hs17 hr19 eX10_undo_91 ?_
      refine q_sipush (v := nI 175) eX10_undo_94 (by decide) ?_
      obtain ⟨n21, hs20, hw⟩ := hw
      obtain ⟨hi22, hw⟩ := hw
      refine q_iald hs20 hi22 eX10_undo_97 ?_
      exact q_ret rfl eX10_undo_98 ⟨_, rfl, hw⟩
    · have hw := hw2 c
      refine q_aload_nr eX10_undo_52 rfl ?_
      obtain ⟨hs23, hw⟩ := hw
      obtain ⟨a24, hr25, hw⟩ := hw
      refine q_getR flX10_51 rfl hs23 hr25 eX10_undo_53 ?_
      refine q_iload_n eX10_undo_56 rfl ?_
      refine q_aload_nr eX10_undo_57 rfl ?_
      obtain ⟨a26, hr27, hw⟩ := hw
      refine q_getR flX10_13 rfl hs23 hr27 eX10_undo_58 ?_
      refine q_sipush (v := nI 176) eX10_undo_61 (by decide) ?_
      refine q_bipush (v := nI 126) eX10_undo_64 (by decide) ?_
      refine q_aload_nr eX10_undo_66 rfl ?_
      refine q_getR flX10_13 rfl hs23 hr27 eX10_undo_67 ?_
      refine q_sipush (v := nI 175) eX10_undo_70 (by decide) ?_
      obtain ⟨n29, hs28, hw⟩ := hw
      obtain ⟨hi30, hw⟩ := hw
      refine q_iald hs28 hi30 eX10_undo_73 ?_
      refine q_imul eX10_undo_74 ?_
      refine q_iadd eX10_undo_75 ?_
      refine q_iload_n eX10_undo_76 rfl ?_
      refine q_iadd eX10_undo_77 ?_
      obtain ⟨hi31, hw⟩ := hw
      refine q_iald hs28 hi31 eX10_undo_78 ?_
      obtain ⟨n33, hs32, hw⟩ := hw
      obtain ⟨hi34, hw⟩ := hw
      have hw := hw _ rfl
      refine q_iast hs32 hi34 eX10_undo_79 ?_
      refine x_iinc (v := (x2 + nI 1)) (ls' := [_, _, _]) eX10_undo_80 rfl rfl rfl rfl ?_
      refine q_goto (tgt := 46) eX10_undo_83 (by decide) ?_
      refine q_le (ls' := [some _, none, some _]) ⟨rfl, rfl, trivial⟩ ?_
      exact ih _ _ _ hw
def wX10_undo (x0 : Nat) (x1 : Int32) (h : MH) (Q : Int32 → MH → Prop) : Prop := hS h x0 = (1, 10) ∧ ∀ h2, h2 = sI h x0 0 (nI 0) → wX10_within ((x1).toInt64) (1 : Int64) (10 : Int64) h2 (fun r3 h4 => (r3 = 0 → Q ((-3 : Int32)) h4) ∧ (¬ (r3 = 0) → hS h4 x0 = (1, 10) ∧ ∃ a6, hR h4 x0 1 = some a6 ∧ ∃ n9, hS h4 a6 = (2, n9) ∧ vp_in (nI 175) n9 ∧ (x1 ≤ hI h4 a6 (nI 175).toNatClampNeg → vp_in (nI 175) n9 ∧ vp_in (nI 175) n9 ∧ ∀ h13, h13 = sI h4 a6 (nI 175).toNatClampNeg ((hI h4 a6 (nI 175).toNatClampNeg - x1)) → ∃ m36, wX10_undo_46 Q m36 x0 (nI 0) h13) ∧ (¬ (x1 ≤ hI h4 a6 (nI 175).toNatClampNeg) → Q ((-3 : Int32)) h4)))
set_option maxHeartbeats 4000000 in
set_option maxRecDepth 100000 in
theorem gX10_undo (x0 : Nat) (x1 : Int32) (h : MH) (Q : Int32 → MH → Prop) (hw : wX10_undo x0 x1 h Q) : Cm MX10_undo 5 0 0 [.ref (x0), .int (x1)] h (pI Q) := by
  refine cm_of [some (.ref (x0)), some (.int (x1)), none] rfl pnX10 (Nat.le_of_ble_eq_true rfl) rfl ?_
  unfold wX10_undo at hw
  refine q_aload_nr eX10_undo_0 rfl ?_
  refine q_iconst (v := nI 0) eX10_undo_1 (by decide) ?_
  obtain ⟨hs1, hw⟩ := hw
  have hw := hw _ rfl
  refine q_putI (fwX10_1 _) rfl hs1 eX10_undo_2 ?_
  refine q_iload_n eX10_undo_5 rfl ?_
  refine q_i2l eX10_undo_6 ?_
  refine q_lconst (v := (1 : Int64)) eX10_undo_7 (by decide) ?_
  refine q_ldc2 coX10_339 eX10_undo_8 ?_
  refine q_callS (b := 0) (t := 0) (gX10_within _ _ _ _ _ hw) mlX10_149 kX10_within sX10_within rfl (by decide) rfl (Nat.le_of_ble_eq_true rfl) eX10_undo_11 (kI fun r3 h4 hw => ?_)
  obtain ⟨hw1, hw2⟩ := hw
  refine q_if_eq (tgt := 29) eX10_undo_14 (by decide) (fun c => ?_) (fun c => ?_)
  · have hw := hw1 c
    refine q_bipush (v := (-3 : Int32)) eX10_undo_29 (by decide) ?_
    exact q_ret rfl eX10_undo_31 ⟨_, rfl, hw⟩
  · have hw := hw2 c
    refine q_iload_n eX10_undo_17 rfl ?_
    refine q_aload_nr eX10_undo_18 rfl ?_
    obtain ⟨hs5, hw⟩ := hw
    obtain ⟨a6, hr7, hw⟩ := hw
    refine q_getR flX10_13 rfl hs5 hr7 eX10_undo_19 ?_
    refine q_sipush (v := nI 175) eX10_undo_22 (by decide) ?_
    obtain ⟨n9, hs8, hw⟩ := hw
    obtain ⟨hi10, hw⟩ := hw
    refine q_iald hs8 hi10 eX10_undo_25 ?_
    obtain ⟨hw1, hw2⟩ := hw
    refine q_icmp_le (tgt := 32) eX10_undo_26 (by decide) (fun c => ?_) (fun c => ?_)
    · have hw := hw1 c
      refine q_aload_nr eX10_undo_32 rfl ?_
      refine q_getR flX10_13 rfl hs5 hr7 eX10_undo_33 ?_
      refine q_sipush (v := nI 175) eX10_undo_36 (by decide) ?_
      refine q_dup2 eX10_undo_39 rfl rfl ?_
      obtain ⟨hi11, hw⟩ := hw
      refine q_iald hs8 hi11 eX10_undo_40 ?_
      refine q_iload_n eX10_undo_41 rfl ?_
      refine q_isub eX10_undo_42 ?_
      obtain ⟨hi12, hw⟩ := hw
      have hw := hw _ rfl
      refine q_iast hs8 hi12 eX10_undo_43 ?_
      refine q_iconst (v := nI 0) eX10_undo_44 (by decide) ?_
      refine x_istore_n (ls' := [_, _, _]) eX10_undo_45 (by decide) rfl rfl ?_
      refine q_le (ls' := [some _, none, some _]) ⟨rfl, rfl, trivial⟩ ?_
      obtain ⟨m36, hw⟩ := hw
      exact tX10_undo_46 m36 _ _ _ hw
    · have hw := hw2 c
      refine q_bipush (v := (-3 : Int32)) eX10_undo_29 (by decide) ?_
      exact q_ret rfl eX10_undo_31 ⟨_, rfl, hw⟩
def wX10_whyNot (x0 : Nat) (x1 : Int64) (h : MH) (Q : Int32 → MH → Prop) : Prop := wX10_within x1 (10 : Int64) (19 : Int64) h (fun r1 h2 => (r1 = 0 → wX10_within x1 (100 : Int64) (109 : Int64) h2 (fun r3 h4 => (r3 = 0 → wX10_within x1 (110 : Int64) (119 : Int64) h4 (fun r5 h6 => (r5 = 0 → wX10_within x1 (200 : Int64) (299 : Int64) h6 (fun r7 h8 => (r7 = 0 → wX10_within x1 (300 : Int64) (399 : Int64) h8 (fun r9 h10 => (r9 = 0 → Q (nI 1) h10) ∧ (¬ (r9 = 0) → hS h10 x0 = (1, 10) ∧ wX10_whyTake x0 (x1 - (300 : Int64)) h10 (fun r12 h13 => Q (r12) h13)))) ∧ (¬ (r7 = 0) → hS h8 x0 = (1, 10) ∧ wX10_whyLay x0 (x1 - (200 : Int64)) h8 (fun r15 h16 => Q (r15) h16)))) ∧ (¬ (r5 = 0) → hS h6 x0 = (1, 10) ∧ wX10_whyMend x0 (x1 - (110 : Int64)) h6 (fun r18 h19 => Q (r18) h19)))) ∧ (¬ (r3 = 0) → hS h4 x0 = (1, 10) ∧ wX10_whyFail x0 (x1 - (100 : Int64)) h4 (fun r21 h22 => Q (r21) h22)))) ∧ (¬ (r1 = 0) → Q (nI 0) h2))
set_option maxHeartbeats 4000000 in
set_option maxRecDepth 100000 in
theorem gX10_whyNot (x0 : Nat) (x1 : Int64) (h : MH) (Q : Int32 → MH → Prop) (hw : wX10_whyNot x0 x1 h Q) : Cm MX10_whyNot 3 0 0 [.ref (x0), .long (x1)] h (pI Q) := by
  refine cm_of [some (.ref (x0)), some (.long (x1)), none] rfl pnX10 (Nat.le_of_ble_eq_true rfl) rfl ?_
  unfold wX10_whyNot at hw
  refine q_lload_n eX10_whyNot_0 rfl ?_
  refine q_ldc2 coX10_339 eX10_whyNot_1 ?_
  refine q_ldc2 coX10_344 eX10_whyNot_4 ?_
  refine q_callS (b := 0) (t := 0) (gX10_within _ _ _ _ _ hw) mlX10_149 kX10_within sX10_within rfl (by decide) rfl (Nat.le_of_ble_eq_true rfl) eX10_whyNot_7 (kI fun r1 h2 hw => ?_)
  obtain ⟨hw1, hw2⟩ := hw
  refine q_if_eq (tgt := 15) eX10_whyNot_10 (by decide) (fun c => ?_) (fun c => ?_)
  · have hw := hw1 c
    refine q_lload_n eX10_whyNot_15 rfl ?_
    refine q_ldc2 coX10_346 eX10_whyNot_16 ?_
    refine q_ldc2 coX10_348 eX10_whyNot_19 ?_
    refine q_callS (b := 0) (t := 0) (gX10_within _ _ _ _ _ hw) mlX10_149 kX10_within sX10_within rfl (by decide) rfl (Nat.le_of_ble_eq_true rfl) eX10_whyNot_22 (kI fun r3 h4 hw => ?_)
    obtain ⟨hw1, hw2⟩ := hw
    refine q_if_eq (tgt := 38) eX10_whyNot_25 (by decide) (fun c => ?_) (fun c => ?_)
    · have hw := hw1 c
      refine q_lload_n eX10_whyNot_38 rfl ?_
      refine q_ldc2 coX10_350 eX10_whyNot_39 ?_
      refine q_ldc2 coX10_352 eX10_whyNot_42 ?_
      refine q_callS (b := 0) (t := 0) (gX10_within _ _ _ _ _ hw) mlX10_149 kX10_within sX10_within rfl (by decide) rfl (Nat.le_of_ble_eq_true rfl) eX10_whyNot_45 (kI fun r5 h6 hw => ?_)
      obtain ⟨hw1, hw2⟩ := hw
      refine q_if_eq (tgt := 61) eX10_whyNot_48 (by decide) (fun c => ?_) (fun c => ?_)
      · have hw := hw1 c
        refine q_lload_n eX10_whyNot_61 rfl ?_
        refine q_ldc2 coX10_354 eX10_whyNot_62 ?_
        refine q_ldc2 coX10_356 eX10_whyNot_65 ?_
        refine q_callS (b := 0) (t := 0) (gX10_within _ _ _ _ _ hw) mlX10_149 kX10_within sX10_within rfl (by decide) rfl (Nat.le_of_ble_eq_true rfl) eX10_whyNot_68 (kI fun r7 h8 hw => ?_)
        obtain ⟨hw1, hw2⟩ := hw
        refine q_if_eq (tgt := 84) eX10_whyNot_71 (by decide) (fun c => ?_) (fun c => ?_)
        · have hw := hw1 c
          refine q_lload_n eX10_whyNot_84 rfl ?_
          refine q_ldc2 coX10_358 eX10_whyNot_85 ?_
          refine q_ldc2 coX10_360 eX10_whyNot_88 ?_
          refine q_callS (b := 0) (t := 0) (gX10_within _ _ _ _ _ hw) mlX10_149 kX10_within sX10_within rfl (by decide) rfl (Nat.le_of_ble_eq_true rfl) eX10_whyNot_91 (kI fun r9 h10 hw => ?_)
          obtain ⟨hw1, hw2⟩ := hw
          refine q_if_eq (tgt := 109) eX10_whyNot_94 (by decide) (fun c => ?_) (fun c => ?_)
          · have hw := hw1 c
            refine q_iconst (v := nI 1) eX10_whyNot_109 (by decide) ?_
            exact q_ret rfl eX10_whyNot_110 ⟨_, rfl, hw⟩
          · have hw := hw2 c
            refine q_aload_nr eX10_whyNot_97 rfl ?_
            refine q_lload_n eX10_whyNot_98 rfl ?_
            refine q_ldc2 coX10_358 eX10_whyNot_99 ?_
            refine q_lsub eX10_whyNot_102 ?_
            obtain ⟨hs11, hw⟩ := hw
            refine q_callV (b := 0) (t := 0) (gX10_whyTake _ _ _ _ hw) mlX10_313 kX10_whyTake vX10_whyTake rfl hs11 ⟨rfl, rfl⟩ (by decide) rfl (Nat.le_of_ble_eq_true rfl) eX10_whyNot_103 (kI fun r12 h13 hw => ?_)
            refine q_goto (tgt := 110) eX10_whyNot_106 (by decide) ?_
            exact q_ret rfl eX10_whyNot_110 ⟨_, rfl, hw⟩
        · have hw := hw2 c
          refine q_aload_nr eX10_whyNot_74 rfl ?_
          refine q_lload_n eX10_whyNot_75 rfl ?_
          refine q_ldc2 coX10_354 eX10_whyNot_76 ?_
          refine q_lsub eX10_whyNot_79 ?_
          obtain ⟨hs14, hw⟩ := hw
          refine q_callV (b := 0) (t := 0) (gX10_whyLay _ _ _ _ hw) mlX10_300 kX10_whyLay vX10_whyLay rfl hs14 ⟨rfl, rfl⟩ (by decide) rfl (Nat.le_of_ble_eq_true rfl) eX10_whyNot_80 (kI fun r15 h16 hw => ?_)
          exact q_ret rfl eX10_whyNot_83 ⟨_, rfl, hw⟩
      · have hw := hw2 c
        refine q_aload_nr eX10_whyNot_51 rfl ?_
        refine q_lload_n eX10_whyNot_52 rfl ?_
        refine q_ldc2 coX10_350 eX10_whyNot_53 ?_
        refine q_lsub eX10_whyNot_56 ?_
        obtain ⟨hs17, hw⟩ := hw
        refine q_callV (b := 0) (t := 0) (gX10_whyMend _ _ _ _ hw) mlX10_328 kX10_whyMend vX10_whyMend rfl hs17 ⟨rfl, rfl⟩ (by decide) rfl (Nat.le_of_ble_eq_true rfl) eX10_whyNot_57 (kI fun r18 h19 hw => ?_)
        exact q_ret rfl eX10_whyNot_60 ⟨_, rfl, hw⟩
    · have hw := hw2 c
      refine q_aload_nr eX10_whyNot_28 rfl ?_
      refine q_lload_n eX10_whyNot_29 rfl ?_
      refine q_ldc2 coX10_346 eX10_whyNot_30 ?_
      refine q_lsub eX10_whyNot_33 ?_
      obtain ⟨hs20, hw⟩ := hw
      refine q_callV (b := 0) (t := 0) (gX10_whyFail _ _ _ _ hw) mlX10_319 kX10_whyFail vX10_whyFail rfl hs20 ⟨rfl, rfl⟩ (by decide) rfl (Nat.le_of_ble_eq_true rfl) eX10_whyNot_34 (kI fun r21 h22 hw => ?_)
      exact q_ret rfl eX10_whyNot_37 ⟨_, rfl, hw⟩
  · have hw := hw2 c
    refine q_iconst (v := nI 0) eX10_whyNot_13 (by decide) ?_
    exact q_ret rfl eX10_whyNot_14 ⟨_, rfl, hw⟩
def wX10_does (x0 : Nat) (x1 : Int32) (h : MH) (Q : MH → Prop) : Prop := (nI 20 ≤ x1 → (nI 110 ≤ x1 → (nI 120 ≤ x1 → (nI 300 ≤ x1 → hS h x0 = (1, 10) ∧ wX10_goesTake x0 (x1 - nI 300) h (fun h3 => Q h3)) ∧ (¬ (nI 300 ≤ x1) → hS h x0 = (1, 10) ∧ wX10_goesLay x0 (x1 - nI 200) h (fun h6 => Q h6))) ∧ (¬ (nI 120 ≤ x1) → hS h x0 = (1, 10) ∧ wX10_goesMend x0 (x1 - nI 110) h (fun h9 => Q h9))) ∧ (¬ (nI 110 ≤ x1) → hS h x0 = (1, 10) ∧ wX10_goesFail x0 (x1 - nI 100) h (fun h12 => Q h12))) ∧ (¬ (nI 20 ≤ x1) → hS h x0 = (1, 10) ∧ wX10_goesRate x0 (x1 - nI 10) h (fun h15 => Q h15))
set_option maxHeartbeats 4000000 in
set_option maxRecDepth 100000 in
theorem gX10_does (x0 : Nat) (x1 : Int32) (h : MH) (Q : MH → Prop) (hw : wX10_does x0 x1 h Q) : Cm MX10_does 7 0 0 [.ref (x0), .int (x1)] h (pV Q) := by
  refine cm_of [some (.ref (x0)), some (.int (x1))] rfl pnX10 (Nat.le_of_ble_eq_true rfl) rfl ?_
  unfold wX10_does at hw
  refine q_iload_n eX10_does_0 rfl ?_
  refine q_bipush (v := nI 20) eX10_does_1 (by decide) ?_
  obtain ⟨hw1, hw2⟩ := hw
  refine q_icmp_ge (tgt := 17) eX10_does_3 (by decide) (fun c => ?_) (fun c => ?_)
  · have hw := hw1 c
    refine q_iload_n eX10_does_17 rfl ?_
    refine q_bipush (v := nI 110) eX10_does_18 (by decide) ?_
    obtain ⟨hw1, hw2⟩ := hw
    refine q_icmp_ge (tgt := 34) eX10_does_20 (by decide) (fun c => ?_) (fun c => ?_)
    · have hw := hw1 c
      refine q_iload_n eX10_does_34 rfl ?_
      refine q_bipush (v := nI 120) eX10_does_35 (by decide) ?_
      obtain ⟨hw1, hw2⟩ := hw
      refine q_icmp_ge (tgt := 51) eX10_does_37 (by decide) (fun c => ?_) (fun c => ?_)
      · have hw := hw1 c
        refine q_iload_n eX10_does_51 rfl ?_
        refine q_sipush (v := nI 300) eX10_does_52 (by decide) ?_
        obtain ⟨hw1, hw2⟩ := hw
        refine q_icmp_ge (tgt := 70) eX10_does_55 (by decide) (fun c => ?_) (fun c => ?_)
        · have hw := hw1 c
          refine q_aload_nr eX10_does_70 rfl ?_
          refine q_iload_n eX10_does_71 rfl ?_
          refine q_sipush (v := nI 300) eX10_does_72 (by decide) ?_
          refine q_isub eX10_does_75 ?_
          obtain ⟨hs1, hw⟩ := hw
          refine q_callV (b := 0) (t := 0) (gX10_goesTake _ _ _ _ hw) mlX10_316 kX10_goesTake vX10_goesTake rfl hs1 ⟨rfl, rfl⟩ (by decide) rfl (Nat.le_of_ble_eq_true rfl) eX10_does_76 (kV fun h3 hw => ?_)
          exact q_retV rfl eX10_does_79 ⟨rfl, hw⟩
        · have hw := hw2 c
          refine q_aload_nr eX10_does_58 rfl ?_
          refine q_iload_n eX10_does_59 rfl ?_
          refine q_sipush (v := nI 200) eX10_does_60 (by decide) ?_
          refine q_isub eX10_does_63 ?_
          obtain ⟨hs4, hw⟩ := hw
          refine q_callV (b := 0) (t := 0) (gX10_goesLay _ _ _ _ hw) mlX10_307 kX10_goesLay vX10_goesLay rfl hs4 ⟨rfl, rfl⟩ (by decide) rfl (Nat.le_of_ble_eq_true rfl) eX10_does_64 (kV fun h6 hw => ?_)
          refine q_goto (tgt := 79) eX10_does_67 (by decide) ?_
          exact q_retV rfl eX10_does_79 ⟨rfl, hw⟩
      · have hw := hw2 c
        refine q_aload_nr eX10_does_40 rfl ?_
        refine q_iload_n eX10_does_41 rfl ?_
        refine q_bipush (v := nI 110) eX10_does_42 (by decide) ?_
        refine q_isub eX10_does_44 ?_
        obtain ⟨hs7, hw⟩ := hw
        refine q_callV (b := 0) (t := 0) (gX10_goesMend _ _ _ _ hw) mlX10_331 kX10_goesMend vX10_goesMend rfl hs7 ⟨rfl, rfl⟩ (by decide) rfl (Nat.le_of_ble_eq_true rfl) eX10_does_45 (kV fun h9 hw => ?_)
        refine q_goto (tgt := 79) eX10_does_48 (by decide) ?_
        exact q_retV rfl eX10_does_79 ⟨rfl, hw⟩
    · have hw := hw2 c
      refine q_aload_nr eX10_does_23 rfl ?_
      refine q_iload_n eX10_does_24 rfl ?_
      refine q_bipush (v := nI 100) eX10_does_25 (by decide) ?_
      refine q_isub eX10_does_27 ?_
      obtain ⟨hs10, hw⟩ := hw
      refine q_callV (b := 0) (t := 0) (gX10_goesFail _ _ _ _ hw) mlX10_322 kX10_goesFail vX10_goesFail rfl hs10 ⟨rfl, rfl⟩ (by decide) rfl (Nat.le_of_ble_eq_true rfl) eX10_does_28 (kV fun h12 hw => ?_)
      refine q_goto (tgt := 79) eX10_does_31 (by decide) ?_
      exact q_retV rfl eX10_does_79 ⟨rfl, hw⟩
  · have hw := hw2 c
    refine q_aload_nr eX10_does_6 rfl ?_
    refine q_iload_n eX10_does_7 rfl ?_
    refine q_bipush (v := nI 10) eX10_does_8 (by decide) ?_
    refine q_isub eX10_does_10 ?_
    obtain ⟨hs13, hw⟩ := hw
    refine q_callV (b := 0) (t := 0) (gX10_goesRate _ _ _ _ hw) mlX10_336 kX10_goesRate vX10_goesRate rfl hs13 ⟨rfl, rfl⟩ (by decide) rfl (Nat.le_of_ble_eq_true rfl) eX10_does_11 (kV fun h15 hw => ?_)
    refine q_goto (tgt := 79) eX10_does_14 (by decide) ?_
    exact q_retV rfl eX10_does_79 ⟨rfl, hw⟩
def wX10_tells_7 (Q : Int32 → MH → Prop) : Nat → Nat → Int32 → Int32 → MH → Prop
  | 0, _, _, _, _ => False
  | n + 1, x0, x1, x2, h => hS h x0 = (1, 10) ∧ ∃ a4, hR h x0 35 = some a4 ∧ ∃ n7, hS h a4 = (2, n7) ∧ vp_in (x1) n7 ∧ (hI h a4 (x1).toNatClampNeg ≤ x2 → vp_in (x1) n7 ∧ Q (hI h a4 (x1).toNatClampNeg) h) ∧ (¬ (hI h a4 (x1).toNatClampNeg ≤ x2) → ∃ a10, hR h x0 36 = some a10 ∧ ∃ n13, hS h a10 = (3, n13) ∧ vp_in (((nI 40 * x1) + x2)) n13 ∧ wX10_whyNot x0 (hL h a10 (((nI 40 * x1) + x2)).toNatClampNeg) h (fun r15 h16 => hS h16 x0 = (1, 10) ∧ ∀ h18, h18 = sI h16 x0 25 (r15) → (hI h18 x0 25 = 0 → ∃ a19, hR h18 x0 36 = some a19 ∧ ∃ n22, hS h18 a19 = (3, n22) ∧ vp_in (((nI 40 * x1) + x2)) n22 ∧ wX10_does x0 ((hL h18 a19 (((nI 40 * x1) + x2)).toNatClampNeg).toInt32) h18 (fun h25 => wX10_tells_7 Q n x0 x1 (x2 + nI 1) h25)) ∧ (¬ (hI h18 x0 25 = 0) → Q (x2) h18)))
set_option maxHeartbeats 4000000 in
set_option maxRecDepth 100000 in
theorem tX10_tells_7 {Q : Int32 → MH → Prop} : ∀ (n : Nat) (h : MH) (x0 : Nat) (x1 : Int32) (x2 : Int32), wX10_tells_7 Q n x0 x1 x2 h → Wm MX10_tells 8 0 0 7 [some (.ref (x0)), some (.int (x1)), some (.int (x2))] [] h (pI Q) := by
  intro n
  induction n with
  | zero => intro h x0 x1 x2 hw; exact hw.elim
  | succ n ih =>
    intro h x0 x1 x2 hw
    unfold wX10_tells_7 at hw
    refine q_iload_n eX10_tells_7 rfl ?_
    refine q_aload_nr eX10_tells_8 rfl ?_
    obtain ⟨hs3, hw⟩ := hw
    obtain ⟨a4, hr5, hw⟩ := hw
    refine q_getR flX10_73 rfl hs3 hr5 eX10_tells_9 ?_
    refine q_iload_n eX10_tells_12 rfl ?_
    obtain ⟨n7, hs6, hw⟩ := hw
    obtain ⟨hi8, hw⟩ := hw
    refine q_iald hs6 hi8 eX10_tells_13 ?_
    obtain ⟨hw1, hw2⟩ := hw
    refine q_icmp_ge (tgt := 67) eX10_tells_14 (by decide) (fun c => ?_) (fun c => ?_)
    · have hw := hw1 c
      refine q_aload_nr eX10_tells_67 rfl ?_
      refine q_getR flX10_73 rfl hs3 hr5 eX10_tells_68 ?_
      refine q_iload_n eX10_tells_71 rfl ?_
      obtain ⟨hi9, hw⟩ := hw
      refine q_iald hs6 hi9 eX10_tells_72 ?_
      exact q_ret rfl eX10_tells_73 ⟨_, rfl, hw⟩
    · have hw := hw2 c
      refine q_aload_nr eX10_tells_17 rfl ?_
      refine q_aload_nr eX10_tells_18 rfl ?_
      refine q_aload_nr eX10_tells_19 rfl ?_
      obtain ⟨a10, hr11, hw⟩ := hw
      refine q_getR flX10_76 rfl hs3 hr11 eX10_tells_20 ?_
      refine q_bipush (v := nI 40) eX10_tells_23 (by decide) ?_
      refine q_iload_n eX10_tells_25 rfl ?_
      refine q_imul eX10_tells_26 ?_
      refine q_iload_n eX10_tells_27 rfl ?_
      refine q_iadd eX10_tells_28 ?_
      obtain ⟨n13, hs12, hw⟩ := hw
      obtain ⟨hi14, hw⟩ := hw
      refine q_lald hs12 hi14 eX10_tells_29 ?_
      refine q_callV (b := 0) (t := 0) (gX10_whyNot _ _ _ _ hw) mlX10_365 kX10_whyNot vX10_whyNot rfl hs3 ⟨rfl, rfl⟩ (by decide) rfl (Nat.le_of_ble_eq_true rfl) eX10_tells_30 (kI fun r15 h16 hw => ?_)
      obtain ⟨hs17, hw⟩ := hw
      have hw := hw _ rfl
      refine q_putI (fwX10_362 _) rfl hs17 eX10_tells_33 ?_
      refine q_aload_nr eX10_tells_36 rfl ?_
      refine q_getI flX10_362 rfl hs17 eX10_tells_37 ?_
      obtain ⟨hw1, hw2⟩ := hw
      refine q_if_eq (tgt := 45) eX10_tells_40 (by decide) (fun c => ?_) (fun c => ?_)
      · have hw := hw1 c
        refine q_aload_nr eX10_tells_45 rfl ?_
        refine q_aload_nr eX10_tells_46 rfl ?_
        obtain ⟨a19, hr20, hw⟩ := hw
        refine q_getR flX10_76 rfl hs17 hr20 eX10_tells_47 ?_
        refine q_bipush (v := nI 40) eX10_tells_50 (by decide) ?_
        refine q_iload_n eX10_tells_52 rfl ?_
        refine q_imul eX10_tells_53 ?_
        refine q_iload_n eX10_tells_54 rfl ?_
        refine q_iadd eX10_tells_55 ?_
        obtain ⟨n22, hs21, hw⟩ := hw
        obtain ⟨hi23, hw⟩ := hw
        refine q_lald hs21 hi23 eX10_tells_56 ?_
        refine q_l2i eX10_tells_57 ?_
        refine q_callV (b := 0) (t := 0) (gX10_does _ _ _ _ hw) mlX10_368 kX10_does vX10_does rfl hs17 ⟨rfl, rfl⟩ (by decide) rfl (Nat.le_of_ble_eq_true rfl) eX10_tells_58 (kV fun h25 hw => ?_)
        refine x_iinc (v := (x2 + nI 1)) (ls' := [_, _, _]) eX10_tells_61 rfl rfl rfl rfl ?_
        refine q_goto (tgt := 7) eX10_tells_64 (by decide) ?_
        refine q_le (ls' := [some _, some _, some _]) ⟨rfl, rfl, rfl, trivial⟩ ?_
        exact ih _ _ _ _ hw
      · have hw := hw2 c
        refine q_iload_n eX10_tells_43 rfl ?_
        exact q_ret rfl eX10_tells_44 ⟨_, rfl, hw⟩
def wX10_tells (x0 : Nat) (x1 : Int32) (h : MH) (Q : Int32 → MH → Prop) : Prop := hS h x0 = (1, 10) ∧ ∀ h2, h2 = sI h x0 25 (nI 0) → ∃ m26, wX10_tells_7 Q m26 x0 x1 (nI 0) h2
set_option maxHeartbeats 4000000 in
set_option maxRecDepth 100000 in
theorem gX10_tells (x0 : Nat) (x1 : Int32) (h : MH) (Q : Int32 → MH → Prop) (hw : wX10_tells x0 x1 h Q) : Cm MX10_tells 8 0 0 [.ref (x0), .int (x1)] h (pI Q) := by
  refine cm_of [some (.ref (x0)), some (.int (x1)), none] rfl pnX10 (Nat.le_of_ble_eq_true rfl) rfl ?_
  unfold wX10_tells at hw
  refine q_aload_nr eX10_tells_0 rfl ?_
  refine q_iconst (v := nI 0) eX10_tells_1 (by decide) ?_
  obtain ⟨hs1, hw⟩ := hw
  have hw := hw _ rfl
  refine q_putI (fwX10_362 _) rfl hs1 eX10_tells_2 ?_
  refine q_iconst (v := nI 0) eX10_tells_5 (by decide) ?_
  refine x_istore_n (ls' := [_, _, _]) eX10_tells_6 (by decide) rfl rfl ?_
  refine q_le (ls' := [some _, some _, some _]) ⟨rfl, rfl, rfl, trivial⟩ ?_
  obtain ⟨m26, hw⟩ := hw
  exact tX10_tells_7 m26 _ _ _ _ hw
def wX10_noTray (x0 : Nat) (x1 : Int32) (h : MH) (Q : Int32 → MH → Prop) : Prop := wX10_within ((x1).toInt64) (0 : Int64) (3 : Int64) h (fun r1 h2 => (¬ (r1 = 0) → hS h2 x0 = (1, 10) ∧ ∃ a4, hR h2 x0 34 = some a4 ∧ ∃ n7, hS h2 a4 = (2, n7) ∧ vp_in (x1) n7 ∧ Q ((if hI h2 a4 (x1).toNatClampNeg = (-1 : Int32) then (-6 : Int32) else nI 0)) h2) ∧ (r1 = 0 → Q ((-2 : Int32)) h2))
set_option maxHeartbeats 4000000 in
set_option maxRecDepth 100000 in
theorem gX10_noTray (x0 : Nat) (x1 : Int32) (h : MH) (Q : Int32 → MH → Prop) (hw : wX10_noTray x0 x1 h Q) : Cm MX10_noTray 1 0 0 [.ref (x0), .int (x1)] h (pI Q) := by
  refine cm_of [some (.ref (x0)), some (.int (x1))] rfl pnX10 (Nat.le_of_ble_eq_true rfl) rfl ?_
  unfold wX10_noTray at hw
  refine q_iload_n eX10_noTray_0 rfl ?_
  refine q_i2l eX10_noTray_1 ?_
  refine q_lconst (v := (0 : Int64)) eX10_noTray_2 (by decide) ?_
  refine q_ldc2 coX10_371 eX10_noTray_3 ?_
  refine q_callS (b := 0) (t := 0) (gX10_within _ _ _ _ _ hw) mlX10_149 kX10_within sX10_within rfl (by decide) rfl (Nat.le_of_ble_eq_true rfl) eX10_noTray_6 (kI fun r1 h2 hw => ?_)
  obtain ⟨hw1, hw2⟩ := hw
  refine q_if_ne (tgt := 17) eX10_noTray_9 (by decide) (fun c => ?_) (fun c => ?_)
  · have hw := hw1 c
    refine q_aload_nr eX10_noTray_17 rfl ?_
    obtain ⟨hs3, hw⟩ := hw
    obtain ⟨a4, hr5, hw⟩ := hw
    refine q_getR flX10_70 rfl hs3 hr5 eX10_noTray_18 ?_
    refine q_iload_n eX10_noTray_21 rfl ?_
    obtain ⟨n7, hs6, hw⟩ := hw
    obtain ⟨hi8, hw⟩ := hw
    refine q_iald hs6 hi8 eX10_noTray_22 ?_
    refine q_iconst (v := (-1 : Int32)) eX10_noTray_23 (by decide) ?_
    have hj10 : Wm MX10_noTray 1 0 0 33 [some (.ref (x0)), some (.int (x1))] [.int ((if hI h2 a4 (x1).toNatClampNeg = (-1 : Int32) then (-6 : Int32) else nI 0))] h2 (pI Q) := by
      exact q_ret rfl eX10_noTray_33 ⟨_, rfl, hw⟩
    refine q_icmp_ne (tgt := 32) eX10_noTray_24 (by decide) (fun c => ?_) (fun c => ?_)
    · refine q_iconst (v := nI 0) eX10_noTray_32 (by decide) ?_
      rw [if_neg c] at hj10
      exact hj10
    · refine q_bipush (v := (-6 : Int32)) eX10_noTray_27 (by decide) ?_
      refine q_goto (tgt := 33) eX10_noTray_29 (by decide) ?_
      rw [if_pos c] at hj10
      exact hj10
  · have hw := hw2 c
    refine q_bipush (v := (-2 : Int32)) eX10_noTray_12 (by decide) ?_
    refine q_goto (tgt := 33) eX10_noTray_14 (by decide) ?_
    exact q_ret rfl eX10_noTray_33 ⟨_, rfl, hw⟩
def wX10_judge (x0 : Nat) (x1 : Int32) (x2 : Int32) (h : MH) (Q : Int32 → MH → Prop) : Prop := hS h x0 = (1, 10) ∧ ∀ h2, h2 = sI h x0 0 (nI 0) → wX10_within ((x2).toInt64) (0 : Int64) (3 : Int64) h2 (fun r3 h4 => (¬ (r3 = 0) → hS h4 x0 = (1, 10) ∧ wX10_noTray x0 x1 h4 (fun r6 h7 => (r6 = 0 → hS h7 x0 = (1, 10) ∧ wX10_stores x0 h7 (fun h10 => hS h10 x0 = (1, 10) ∧ wX10_tells x0 x1 h10 (fun r12 h13 => hS h13 x0 = (1, 10) ∧ wX10_lostNow x0 h13 (fun r15 h16 => hS h16 x0 = (1, 10) ∧ ∃ a18, hR h16 x0 1 = some a18 ∧ ∃ n21, hS h16 a18 = (2, n21) ∧ vp_in (nI 113) n21 ∧ wX10_isAgain x0 h16 (fun h24 => (¬ (x2 = 0) → (¬ (x2 = nI 1) → Q ((if x2 = nI 2 then r15 else hI h16 a18 (nI 113).toNatClampNeg)) h24) ∧ (x2 = nI 1 → hS h24 x0 = (1, 10) ∧ Q (hI h24 x0 25) h24)) ∧ (x2 = 0 → hS h24 x0 = (1, 10) ∧ Q ((if hI h24 x0 25 = 0 then (-1 : Int32) else r12)) h24)))))) ∧ (¬ (r6 = 0) → Q (r6) h7))) ∧ (r3 = 0 → Q ((-2 : Int32)) h4))
set_option maxHeartbeats 4000000 in
set_option maxRecDepth 100000 in
theorem gX10_judge (x0 : Nat) (x1 : Int32) (x2 : Int32) (h : MH) (Q : Int32 → MH → Prop) (hw : wX10_judge x0 x1 x2 h Q) : Cm MX10_judge 9 0 0 [.ref (x0), .int (x1), .int (x2)] h (pI Q) := by
  refine cm_of [some (.ref (x0)), some (.int (x1)), some (.int (x2)), none, none, none, none] rfl pnX10 (Nat.le_of_ble_eq_true rfl) rfl ?_
  unfold wX10_judge at hw
  refine q_aload_nr eX10_judge_0 rfl ?_
  refine q_iconst (v := nI 0) eX10_judge_1 (by decide) ?_
  obtain ⟨hs1, hw⟩ := hw
  have hw := hw _ rfl
  refine q_putI (fwX10_1 _) rfl hs1 eX10_judge_2 ?_
  refine q_iload_n eX10_judge_5 rfl ?_
  refine q_i2l eX10_judge_6 ?_
  refine q_lconst (v := (0 : Int64)) eX10_judge_7 (by decide) ?_
  refine q_ldc2 coX10_371 eX10_judge_8 ?_
  refine q_callS (b := 0) (t := 0) (gX10_within _ _ _ _ _ hw) mlX10_149 kX10_within sX10_within rfl (by decide) rfl (Nat.le_of_ble_eq_true rfl) eX10_judge_11 (kI fun r3 h4 hw => ?_)
  obtain ⟨hw1, hw2⟩ := hw
  refine q_if_ne (tgt := 20) eX10_judge_14 (by decide) (fun c => ?_) (fun c => ?_)
  · have hw := hw1 c
    refine q_aload_nr eX10_judge_20 rfl ?_
    refine q_iload_n eX10_judge_21 rfl ?_
    obtain ⟨hs5, hw⟩ := hw
    refine q_callV (b := 0) (t := 0) (gX10_noTray _ _ _ _ hw) mlX10_373 kX10_noTray vX10_noTray rfl hs5 ⟨rfl, rfl⟩ (by decide) rfl (Nat.le_of_ble_eq_true rfl) eX10_judge_22 (kI fun r6 h7 hw => ?_)
    refine x_istore_n (ls' := [_, _, _, _, _, _, _]) eX10_judge_25 (by decide) rfl rfl ?_
    refine q_iload_n eX10_judge_26 rfl ?_
    obtain ⟨hw1, hw2⟩ := hw
    refine q_if_eq (tgt := 32) eX10_judge_27 (by decide) (fun c => ?_) (fun c => ?_)
    · have hw := hw1 c
      refine q_aload_nr eX10_judge_32 rfl ?_
      obtain ⟨hs8, hw⟩ := hw
      refine q_callV (b := 0) (t := 0) (gX10_stores _ _ _ hw) mlX10_304 kX10_stores vX10_stores rfl hs8 ⟨rfl, rfl⟩ (by decide) rfl (Nat.le_of_ble_eq_true rfl) eX10_judge_33 (kV fun h10 hw => ?_)
      refine q_aload_nr eX10_judge_36 rfl ?_
      refine q_iload_n eX10_judge_37 rfl ?_
      obtain ⟨hs11, hw⟩ := hw
      refine q_callV (b := 0) (t := 0) (gX10_tells _ _ _ _ hw) mlX10_376 kX10_tells vX10_tells rfl hs11 ⟨rfl, rfl⟩ (by decide) rfl (Nat.le_of_ble_eq_true rfl) eX10_judge_38 (kI fun r12 h13 hw => ?_)
      refine x_istore (ls' := [_, _, _, _, _, _, _]) eX10_judge_41 (by decide) rfl rfl ?_
      refine q_aload_nr eX10_judge_43 rfl ?_
      obtain ⟨hs14, hw⟩ := hw
      refine q_callV (b := 0) (t := 0) (gX10_lostNow _ _ _ hw) mlX10_325 kX10_lostNow vX10_lostNow rfl hs14 ⟨rfl, rfl⟩ (by decide) rfl (Nat.le_of_ble_eq_true rfl) eX10_judge_44 (kI fun r15 h16 hw => ?_)
      refine x_istore (ls' := [_, _, _, _, _, _, _]) eX10_judge_47 (by decide) rfl rfl ?_
      refine q_aload_nr eX10_judge_49 rfl ?_
      obtain ⟨hs17, hw⟩ := hw
      obtain ⟨a18, hr19, hw⟩ := hw
      refine q_getR flX10_13 rfl hs17 hr19 eX10_judge_50 ?_
      refine q_bipush (v := nI 113) eX10_judge_53 (by decide) ?_
      obtain ⟨n21, hs20, hw⟩ := hw
      obtain ⟨hi22, hw⟩ := hw
      refine q_iald hs20 hi22 eX10_judge_55 ?_
      refine x_istore (ls' := [_, _, _, _, _, _, _]) eX10_judge_56 (by decide) rfl rfl ?_
      refine q_aload_nr eX10_judge_58 rfl ?_
      refine q_callV (b := 0) (t := 0) (gX10_isAgain _ _ _ hw) mlX10_341 kX10_isAgain vX10_isAgain rfl hs17 ⟨rfl, rfl⟩ (by decide) rfl (Nat.le_of_ble_eq_true rfl) eX10_judge_59 (kV fun h24 hw => ?_)
      refine q_iload_n eX10_judge_62 rfl ?_
      obtain ⟨hw1, hw2⟩ := hw
      refine q_if_ne (tgt := 82) eX10_judge_63 (by decide) (fun c => ?_) (fun c => ?_)
      · have hw := hw1 c
        refine q_iload_n eX10_judge_82 rfl ?_
        refine q_iconst (v := nI 1) eX10_judge_83 (by decide) ?_
        obtain ⟨hw1, hw2⟩ := hw
        refine q_icmp_ne (tgt := 94) eX10_judge_84 (by decide) (fun c => ?_) (fun c => ?_)
        · have hw := hw1 c
          refine q_iload_n eX10_judge_94 rfl ?_
          refine q_iconst (v := nI 2) eX10_judge_95 (by decide) ?_
          have hj26 : Wm MX10_judge 9 0 0 106 [some (.ref (x0)), some (.int (x1)), some (.int (x2)), some (.int (r6)), some (.int (r12)), some (.int (r15)), some (.int (hI h16 a18 (nI 113).toNatClampNeg))] [.int ((if x2 = nI 2 then r15 else hI h16 a18 (nI 113).toNatClampNeg))] h24 (pI Q) := by
            exact q_ret rfl eX10_judge_106 ⟨_, rfl, hw⟩
          refine q_icmp_ne (tgt := 104) eX10_judge_96 (by decide) (fun c => ?_) (fun c => ?_)
          · refine q_iload eX10_judge_104 rfl ?_
            rw [if_neg c] at hj26
            exact hj26
          · refine q_iload eX10_judge_99 rfl ?_
            refine q_goto (tgt := 106) eX10_judge_101 (by decide) ?_
            rw [if_pos c] at hj26
            exact hj26
        · have hw := hw2 c
          refine q_aload_nr eX10_judge_87 rfl ?_
          obtain ⟨hs27, hw⟩ := hw
          refine q_getI flX10_362 rfl hs27 eX10_judge_88 ?_
          refine q_goto (tgt := 106) eX10_judge_91 (by decide) ?_
          exact q_ret rfl eX10_judge_106 ⟨_, rfl, hw⟩
      · have hw := hw2 c
        refine q_aload_nr eX10_judge_66 rfl ?_
        obtain ⟨hs28, hw⟩ := hw
        refine q_getI flX10_362 rfl hs28 eX10_judge_67 ?_
        have hj30 : Wm MX10_judge 9 0 0 106 [some (.ref (x0)), some (.int (x1)), some (.int (x2)), some (.int (r6)), some (.int (r12)), some (.int (r15)), some (.int (hI h16 a18 (nI 113).toNatClampNeg))] [.int ((if hI h24 x0 25 = 0 then (-1 : Int32) else r12))] h24 (pI Q) := by
          exact q_ret rfl eX10_judge_106 ⟨_, rfl, hw⟩
        refine q_if_ne (tgt := 77) eX10_judge_70 (by decide) (fun c => ?_) (fun c => ?_)
        · refine q_iload eX10_judge_77 rfl ?_
          refine q_goto (tgt := 106) eX10_judge_79 (by decide) ?_
          rw [if_neg c] at hj30
          exact hj30
        · refine q_iconst (v := (-1 : Int32)) eX10_judge_73 (by decide) ?_
          refine q_goto (tgt := 106) eX10_judge_74 (by decide) ?_
          rw [if_pos c] at hj30
          exact hj30
    · have hw := hw2 c
      refine q_iload_n eX10_judge_30 rfl ?_
      exact q_ret rfl eX10_judge_31 ⟨_, rfl, hw⟩
  · have hw := hw2 c
    refine q_bipush (v := (-2 : Int32)) eX10_judge_17 (by decide) ?_
    exact q_ret rfl eX10_judge_19 ⟨_, rfl, hw⟩
def wX10_perform (x0 : Nat) (x1 : Int32) (h : MH) (Q : Int32 → MH → Prop) : Prop := hS h x0 = (1, 10) ∧ ∀ h2, h2 = sI h x0 0 (nI 0) → wX10_noTray x0 x1 h2 (fun r3 h4 => (r3 = 0 → hS h4 x0 = (1, 10) ∧ wX10_stores x0 h4 (fun h7 => hS h7 x0 = (1, 10) ∧ wX10_tells x0 x1 h7 (fun r9 h10 => (r9 ≤ 0 → Q (r9) h10) ∧ (¬ (r9 ≤ 0) → hS h10 x0 = (1, 10) ∧ wX10_notes x0 h10 (fun h13 => Q (r9) h13))))) ∧ (¬ (r3 = 0) → Q (r3) h4))
set_option maxHeartbeats 4000000 in
set_option maxRecDepth 100000 in
theorem gX10_perform (x0 : Nat) (x1 : Int32) (h : MH) (Q : Int32 → MH → Prop) (hw : wX10_perform x0 x1 h Q) : Cm MX10_perform 9 0 0 [.ref (x0), .int (x1)] h (pI Q) := by
  refine cm_of [some (.ref (x0)), some (.int (x1)), none, none] rfl pnX10 (Nat.le_of_ble_eq_true rfl) rfl ?_
  unfold wX10_perform at hw
  refine q_aload_nr eX10_perform_0 rfl ?_
  refine q_iconst (v := nI 0) eX10_perform_1 (by decide) ?_
  obtain ⟨hs1, hw⟩ := hw
  have hw := hw _ rfl
  refine q_putI (fwX10_1 _) rfl hs1 eX10_perform_2 ?_
  refine q_aload_nr eX10_perform_5 rfl ?_
  refine q_iload_n eX10_perform_6 rfl ?_
  refine q_callV (b := 0) (t := 0) (gX10_noTray _ _ _ _ hw) mlX10_373 kX10_noTray vX10_noTray rfl hs1 ⟨rfl, rfl⟩ (by decide) rfl (Nat.le_of_ble_eq_true rfl) eX10_perform_7 (kI fun r3 h4 hw => ?_)
  refine x_istore_n (ls' := [_, _, _, _]) eX10_perform_10 (by decide) rfl rfl ?_
  refine q_iload_n eX10_perform_11 rfl ?_
  obtain ⟨hw1, hw2⟩ := hw
  refine q_if_eq (tgt := 17) eX10_perform_12 (by decide) (fun c => ?_) (fun c => ?_)
  · have hw := hw1 c
    refine q_aload_nr eX10_perform_17 rfl ?_
    obtain ⟨hs5, hw⟩ := hw
    refine q_callV (b := 0) (t := 0) (gX10_stores _ _ _ hw) mlX10_304 kX10_stores vX10_stores rfl hs5 ⟨rfl, rfl⟩ (by decide) rfl (Nat.le_of_ble_eq_true rfl) eX10_perform_18 (kV fun h7 hw => ?_)
    refine q_aload_nr eX10_perform_21 rfl ?_
    refine q_iload_n eX10_perform_22 rfl ?_
    obtain ⟨hs8, hw⟩ := hw
    refine q_callV (b := 0) (t := 0) (gX10_tells _ _ _ _ hw) mlX10_376 kX10_tells vX10_tells rfl hs8 ⟨rfl, rfl⟩ (by decide) rfl (Nat.le_of_ble_eq_true rfl) eX10_perform_23 (kI fun r9 h10 hw => ?_)
    refine x_istore_n (ls' := [_, _, _, _]) eX10_perform_26 (by decide) rfl rfl ?_
    refine q_iload_n eX10_perform_27 rfl ?_
    obtain ⟨hw1, hw2⟩ := hw
    refine q_if_le (tgt := 35) eX10_perform_28 (by decide) (fun c => ?_) (fun c => ?_)
    · have hw := hw1 c
      refine q_iload_n eX10_perform_35 rfl ?_
      exact q_ret rfl eX10_perform_36 ⟨_, rfl, hw⟩
    · have hw := hw2 c
      refine q_aload_nr eX10_perform_31 rfl ?_
      obtain ⟨hs11, hw⟩ := hw
      refine q_callV (b := 0) (t := 0) (gX10_notes _ _ _ hw) mlX10_310 kX10_notes vX10_notes rfl hs11 ⟨rfl, rfl⟩ (by decide) rfl (Nat.le_of_ble_eq_true rfl) eX10_perform_32 (kV fun h13 hw => ?_)
      refine q_iload_n eX10_perform_35 rfl ?_
      exact q_ret rfl eX10_perform_36 ⟨_, rfl, hw⟩
  · have hw := hw2 c
    refine q_iload_n eX10_perform_15 rfl ?_
    exact q_ret rfl eX10_perform_16 ⟨_, rfl, hw⟩
def wX10_draw (x0 : Nat) (x1 : Int32) (h : MH) (Q : Int32 → MH → Prop) : Prop := hS h x0 = (1, 10) ∧ ∀ h2, h2 = sI h x0 26 ((((1103515245 : Int32) * hI h x0 26) + nI 12345)) → ¬ x1 = 0 ∧ Q ((((hI h2 x0 26).toUInt32 >>> ((nI 16).toUInt32 &&& Int32.toUInt32 31)).toInt32 - ((hI h2 x0 26).toUInt32 >>> ((nI 16).toUInt32 &&& Int32.toUInt32 31)).toInt32 / x1 * x1)) h2
set_option maxHeartbeats 4000000 in
set_option maxRecDepth 100000 in
theorem gX10_draw (x0 : Nat) (x1 : Int32) (h : MH) (Q : Int32 → MH → Prop) (hw : wX10_draw x0 x1 h Q) : Cm MX10_draw 0 0 0 [.ref (x0), .int (x1)] h (pI Q) := by
  refine cm_of [some (.ref (x0)), some (.int (x1))] rfl pnX10 (Nat.le_of_ble_eq_true rfl) rfl ?_
  unfold wX10_draw at hw
  refine q_aload_nr eX10_draw_0 rfl ?_
  refine q_ldcw coX10_379 eX10_draw_1 ?_
  refine q_aload_nr eX10_draw_4 rfl ?_
  obtain ⟨hs1, hw⟩ := hw
  refine q_getI flX10_380 rfl hs1 eX10_draw_5 ?_
  refine q_imul eX10_draw_8 ?_
  refine q_sipush (v := nI 12345) eX10_draw_9 (by decide) ?_
  refine q_iadd eX10_draw_12 ?_
  have hw := hw _ rfl
  refine q_putI (fwX10_380 _) rfl hs1 eX10_draw_13 ?_
  refine q_aload_nr eX10_draw_16 rfl ?_
  refine q_getI flX10_380 rfl hs1 eX10_draw_17 ?_
  refine q_bipush (v := nI 16) eX10_draw_20 (by decide) ?_
  refine q_iushr eX10_draw_22 ?_
  refine q_iload_n eX10_draw_23 rfl ?_
  obtain ⟨hz3, hw⟩ := hw
  refine q_irem eX10_draw_24 hz3 ?_
  exact q_ret rfl eX10_draw_25 ⟨_, rfl, hw⟩
def wX10_drawn_45 (Q : Int32 → MH → Prop) (x0 : Nat) (s0 : Int32) (h : MH) : Prop := hS h x0 = (1, 10) ∧ wX10_draw x0 (nI 10) h (fun r6 h7 => Q ((s0 + r6)) h7)
set_option maxHeartbeats 4000000 in
set_option maxRecDepth 100000 in
theorem tX10_drawn_45 {Q : Int32 → MH → Prop} (h : MH) (x0 : Nat) (s0 : Int32) (hw : wX10_drawn_45 Q x0 s0 h) : Wm MX10_drawn 1 0 0 45 [some (.ref (x0)), none] [.int (s0)] h (pI Q) := by
  unfold wX10_drawn_45 at hw
  refine q_aload_nr eX10_drawn_45 rfl ?_
  refine q_bipush (v := nI 10) eX10_drawn_46 (by decide) ?_
  obtain ⟨hs5, hw⟩ := hw
  refine q_callV (b := 0) (t := 0) (gX10_draw _ _ _ _ hw) mlX10_383 kX10_draw vX10_draw rfl hs5 ⟨rfl, rfl⟩ (by decide) rfl (Nat.le_of_ble_eq_true rfl) eX10_drawn_48 (kI fun r6 h7 hw => ?_)
  refine q_iadd eX10_drawn_51 ?_
  exact q_ret rfl eX10_drawn_52 ⟨_, rfl, hw⟩
def wX10_drawn_25 (Q : Int32 → MH → Prop) (x0 : Nat) (s0 : Int32) (h : MH) : Prop := hS h x0 = (1, 10) ∧ wX10_draw x0 (nI 12) h (fun r11 h12 => Q ((s0 + r11)) h12)
set_option maxHeartbeats 4000000 in
set_option maxRecDepth 100000 in
theorem tX10_drawn_25 {Q : Int32 → MH → Prop} (h : MH) (x0 : Nat) (s0 : Int32) (hw : wX10_drawn_25 Q x0 s0 h) : Wm MX10_drawn 1 0 0 25 [some (.ref (x0)), none] [.int (s0)] h (pI Q) := by
  unfold wX10_drawn_25 at hw
  refine q_aload_nr eX10_drawn_25 rfl ?_
  refine q_bipush (v := nI 12) eX10_drawn_26 (by decide) ?_
  obtain ⟨hs10, hw⟩ := hw
  refine q_callV (b := 0) (t := 0) (gX10_draw _ _ _ _ hw) mlX10_383 kX10_draw vX10_draw rfl hs10 ⟨rfl, rfl⟩ (by decide) rfl (Nat.le_of_ble_eq_true rfl) eX10_drawn_28 (kI fun r11 h12 hw => ?_)
  refine q_iadd eX10_drawn_31 ?_
  exact q_ret rfl eX10_drawn_32 ⟨_, rfl, hw⟩
def wX10_drawn (x0 : Nat) (h : MH) (Q : Int32 → MH → Prop) : Prop := hS h x0 = (1, 10) ∧ wX10_draw x0 (nI 5) h (fun r2 h3 => (nI 3 ≤ r2 → wX10_drawn_45 Q x0 (if r2 = nI 3 then nI 100 else nI 110) h3) ∧ (¬ (nI 3 ≤ r2) → wX10_drawn_25 Q x0 (if nI 2 ≤ r2 then nI 300 else nI 200) h3))
set_option maxHeartbeats 4000000 in
set_option maxRecDepth 100000 in
theorem gX10_drawn (x0 : Nat) (h : MH) (Q : Int32 → MH → Prop) (hw : wX10_drawn x0 h Q) : Cm MX10_drawn 1 0 0 [.ref (x0)] h (pI Q) := by
  refine cm_of [some (.ref (x0)), none] rfl pnX10 (Nat.le_of_ble_eq_true rfl) rfl ?_
  unfold wX10_drawn at hw
  refine q_aload_nr eX10_drawn_0 rfl ?_
  refine q_iconst (v := nI 5) eX10_drawn_1 (by decide) ?_
  obtain ⟨hs1, hw⟩ := hw
  refine q_callV (b := 0) (t := 0) (gX10_draw _ _ _ _ hw) mlX10_383 kX10_draw vX10_draw rfl hs1 ⟨rfl, rfl⟩ (by decide) rfl (Nat.le_of_ble_eq_true rfl) eX10_drawn_2 (kI fun r2 h3 hw => ?_)
  refine x_istore_n (ls' := [_, _]) eX10_drawn_5 (by decide) rfl rfl ?_
  refine q_iload_n eX10_drawn_6 rfl ?_
  refine q_iconst (v := nI 3) eX10_drawn_7 (by decide) ?_
  obtain ⟨hw1, hw2⟩ := hw
  refine q_icmp_ge (tgt := 33) eX10_drawn_8 (by decide) (fun c => ?_) (fun c => ?_)
  · have hw := hw1 c
    refine q_iload_n eX10_drawn_33 rfl ?_
    refine q_iconst (v := nI 3) eX10_drawn_34 (by decide) ?_
    have hj8 : Wm MX10_drawn 1 0 0 45 [some (.ref (x0)), some (.int (r2))] [.int ((if r2 = nI 3 then nI 100 else nI 110))] h3 (pI Q) := by
      refine q_le (ls' := [some _, none]) ⟨rfl, trivial⟩ ?_
      exact tX10_drawn_45 _ _ _ hw
    refine q_icmp_ne (tgt := 43) eX10_drawn_35 (by decide) (fun c => ?_) (fun c => ?_)
    · refine q_bipush (v := nI 110) eX10_drawn_43 (by decide) ?_
      rw [if_neg c] at hj8
      exact hj8
    · refine q_bipush (v := nI 100) eX10_drawn_38 (by decide) ?_
      refine q_goto (tgt := 45) eX10_drawn_40 (by decide) ?_
      rw [if_pos c] at hj8
      exact hj8
  · have hw := hw2 c
    refine q_iload_n eX10_drawn_11 rfl ?_
    refine q_iconst (v := nI 2) eX10_drawn_12 (by decide) ?_
    have hj13 : Wm MX10_drawn 1 0 0 25 [some (.ref (x0)), some (.int (r2))] [.int ((if nI 2 ≤ r2 then nI 300 else nI 200))] h3 (pI Q) := by
      refine q_le (ls' := [some _, none]) ⟨rfl, trivial⟩ ?_
      exact tX10_drawn_25 _ _ _ hw
    refine q_icmp_ge (tgt := 22) eX10_drawn_13 (by decide) (fun c => ?_) (fun c => ?_)
    · refine q_sipush (v := nI 300) eX10_drawn_22 (by decide) ?_
      rw [if_pos c] at hj13
      exact hj13
    · refine q_sipush (v := nI 200) eX10_drawn_16 (by decide) ?_
      refine q_goto (tgt := 25) eX10_drawn_19 (by decide) ?_
      rw [if_neg c] at hj13
      exact hj13
def wX10_year_34 (Q : Int32 → MH → Prop) : Nat → Nat → Int32 → Int32 → Int32 → MH → Prop
  | 0, _, _, _, _, _ => False
  | n + 1, x0, x2, x3, x4, h => (x2 ≤ x4 → (x3 ≤ 0 → Q (x3) h) ∧ (¬ (x3 ≤ 0) → hS h x0 = (1, 10) ∧ wX10_notes x0 h (fun h12 => Q (x3) h12))) ∧ (¬ (x2 ≤ x4) → hS h x0 = (1, 10) ∧ wX10_drawn x0 h (fun r14 h15 => hS h15 x0 = (1, 10) ∧ wX10_whyNot x0 ((r14).toInt64) h15 (fun r17 h18 => (r17 = 0 → hS h18 x0 = (1, 10) ∧ wX10_does x0 r14 h18 (fun h21 => wX10_year_34 Q n x0 x2 (x3 + nI 1) (x4 + nI 1) h21)) ∧ (¬ (r17 = 0) → wX10_year_34 Q n x0 x2 x3 (x4 + nI 1) h18))))
set_option maxHeartbeats 4000000 in
set_option maxRecDepth 100000 in
theorem tX10_year_34 {Q : Int32 → MH → Prop} : ∀ (n : Nat) (h : MH) (x0 : Nat) (x2 : Int32) (x3 : Int32) (x4 : Int32), wX10_year_34 Q n x0 x2 x3 x4 h → Wm MX10_year 8 0 0 34 [some (.ref (x0)), none, some (.int (x2)), some (.int (x3)), some (.int (x4)), none] [] h (pI Q) := by
  intro n
  induction n with
  | zero => intro h x0 x2 x3 x4 hw; exact hw.elim
  | succ n ih =>
    intro h x0 x2 x3 x4 hw
    unfold wX10_year_34 at hw
    refine q_iload eX10_year_34 rfl ?_
    refine q_iload_n eX10_year_36 rfl ?_
    obtain ⟨hw1, hw2⟩ := hw
    refine q_icmp_ge (tgt := 74) eX10_year_37 (by decide) (fun c => ?_) (fun c => ?_)
    · have hw := hw1 c
      refine q_iload_n eX10_year_74 rfl ?_
      obtain ⟨hw1, hw2⟩ := hw
      refine q_if_le (tgt := 82) eX10_year_75 (by decide) (fun c => ?_) (fun c => ?_)
      · have hw := hw1 c
        refine q_iload_n eX10_year_82 rfl ?_
        exact q_ret rfl eX10_year_83 ⟨_, rfl, hw⟩
      · have hw := hw2 c
        refine q_aload_nr eX10_year_78 rfl ?_
        obtain ⟨hs10, hw⟩ := hw
        refine q_callV (b := 0) (t := 0) (gX10_notes _ _ _ hw) mlX10_310 kX10_notes vX10_notes rfl hs10 ⟨rfl, rfl⟩ (by decide) rfl (Nat.le_of_ble_eq_true rfl) eX10_year_79 (kV fun h12 hw => ?_)
        refine q_iload_n eX10_year_82 rfl ?_
        exact q_ret rfl eX10_year_83 ⟨_, rfl, hw⟩
    · have hw := hw2 c
      refine q_aload_nr eX10_year_40 rfl ?_
      obtain ⟨hs13, hw⟩ := hw
      refine q_callV (b := 0) (t := 0) (gX10_drawn _ _ _ hw) mlX10_388 kX10_drawn vX10_drawn rfl hs13 ⟨rfl, rfl⟩ (by decide) rfl (Nat.le_of_ble_eq_true rfl) eX10_year_41 (kI fun r14 h15 hw => ?_)
      refine x_istore (ls' := [_, _, _, _, _, _]) eX10_year_44 (by decide) rfl rfl ?_
      refine q_aload_nr eX10_year_46 rfl ?_
      refine q_iload eX10_year_47 rfl ?_
      refine q_i2l eX10_year_49 ?_
      obtain ⟨hs16, hw⟩ := hw
      refine q_callV (b := 0) (t := 0) (gX10_whyNot _ _ _ _ hw) mlX10_365 kX10_whyNot vX10_whyNot rfl hs16 ⟨rfl, rfl⟩ (by decide) rfl (Nat.le_of_ble_eq_true rfl) eX10_year_50 (kI fun r17 h18 hw => ?_)
      obtain ⟨hw1, hw2⟩ := hw
      refine q_if_eq (tgt := 59) eX10_year_53 (by decide) (fun c => ?_) (fun c => ?_)
      · have hw := hw1 c
        refine q_aload_nr eX10_year_59 rfl ?_
        refine q_iload eX10_year_60 rfl ?_
        obtain ⟨hs19, hw⟩ := hw
        refine q_callV (b := 0) (t := 0) (gX10_does _ _ _ _ hw) mlX10_368 kX10_does vX10_does rfl hs19 ⟨rfl, rfl⟩ (by decide) rfl (Nat.le_of_ble_eq_true rfl) eX10_year_62 (kV fun h21 hw => ?_)
        refine x_iinc (v := (x3 + nI 1)) (ls' := [_, _, _, _, _, _]) eX10_year_65 rfl rfl rfl rfl ?_
        refine x_iinc (v := (x4 + nI 1)) (ls' := [_, _, _, _, _, _]) eX10_year_68 rfl rfl rfl rfl ?_
        refine q_goto (tgt := 34) eX10_year_71 (by decide) ?_
        refine q_le (ls' := [some _, none, some _, some _, some _, none]) ⟨rfl, rfl, rfl, rfl, trivial⟩ ?_
        exact ih _ _ _ _ _ hw
      · have hw := hw2 c
        refine q_goto (tgt := 68) eX10_year_56 (by decide) ?_
        refine x_iinc (v := (x4 + nI 1)) (ls' := [_, _, _, _, _, _]) eX10_year_68 rfl rfl rfl rfl ?_
        refine q_goto (tgt := 34) eX10_year_71 (by decide) ?_
        refine q_le (ls' := [some _, none, some _, some _, some _, none]) ⟨rfl, rfl, rfl, rfl, trivial⟩ ?_
        exact ih _ _ _ _ _ hw
def wX10_year (x0 : Nat) (x1 : Int32) (x2 : Int32) (h : MH) (Q : Int32 → MH → Prop) : Prop := hS h x0 = (1, 10) ∧ ∀ h2, h2 = sI h x0 0 (nI 0) → wX10_within ((x2).toInt64) (1 : Int64) (40 : Int64) h2 (fun r3 h4 => (¬ (r3 = 0) → hS h4 x0 = (1, 10) ∧ wX10_stores x0 h4 (fun h7 => hS h7 x0 = (1, 10) ∧ ∀ h9, h9 = sI h7 x0 26 (x1) → ∃ m22, wX10_year_34 Q m22 x0 x2 (nI 0) (nI 0) h9)) ∧ (r3 = 0 → Q ((-3 : Int32)) h4))
set_option maxHeartbeats 4000000 in
set_option maxRecDepth 100000 in
theorem gX10_year (x0 : Nat) (x1 : Int32) (x2 : Int32) (h : MH) (Q : Int32 → MH → Prop) (hw : wX10_year x0 x1 x2 h Q) : Cm MX10_year 8 0 0 [.ref (x0), .int (x1), .int (x2)] h (pI Q) := by
  refine cm_of [some (.ref (x0)), some (.int (x1)), some (.int (x2)), none, none, none] rfl pnX10 (Nat.le_of_ble_eq_true rfl) rfl ?_
  unfold wX10_year at hw
  refine q_aload_nr eX10_year_0 rfl ?_
  refine q_iconst (v := nI 0) eX10_year_1 (by decide) ?_
  obtain ⟨hs1, hw⟩ := hw
  have hw := hw _ rfl
  refine q_putI (fwX10_1 _) rfl hs1 eX10_year_2 ?_
  refine q_iload_n eX10_year_5 rfl ?_
  refine q_i2l eX10_year_6 ?_
  refine q_lconst (v := (1 : Int64)) eX10_year_7 (by decide) ?_
  refine q_ldc2 coX10_386 eX10_year_8 ?_
  refine q_callS (b := 0) (t := 0) (gX10_within _ _ _ _ _ hw) mlX10_149 kX10_within sX10_within rfl (by decide) rfl (Nat.le_of_ble_eq_true rfl) eX10_year_11 (kI fun r3 h4 hw => ?_)
  obtain ⟨hw1, hw2⟩ := hw
  refine q_if_ne (tgt := 20) eX10_year_14 (by decide) (fun c => ?_) (fun c => ?_)
  · have hw := hw1 c
    refine q_aload_nr eX10_year_20 rfl ?_
    obtain ⟨hs5, hw⟩ := hw
    refine q_callV (b := 0) (t := 0) (gX10_stores _ _ _ hw) mlX10_304 kX10_stores vX10_stores rfl hs5 ⟨rfl, rfl⟩ (by decide) rfl (Nat.le_of_ble_eq_true rfl) eX10_year_21 (kV fun h7 hw => ?_)
    refine q_aload_nr eX10_year_24 rfl ?_
    refine q_iload_n eX10_year_25 rfl ?_
    obtain ⟨hs8, hw⟩ := hw
    have hw := hw _ rfl
    refine q_putI (fwX10_380 _) rfl hs8 eX10_year_26 ?_
    refine q_iconst (v := nI 0) eX10_year_29 (by decide) ?_
    refine x_istore_n (ls' := [_, _, _, _, _, _]) eX10_year_30 (by decide) rfl rfl ?_
    refine q_iconst (v := nI 0) eX10_year_31 (by decide) ?_
    refine x_istore (ls' := [_, _, _, _, _, _]) eX10_year_32 (by decide) rfl rfl ?_
    refine q_le (ls' := [some _, none, some _, some _, some _, none]) ⟨rfl, rfl, rfl, rfl, trivial⟩ ?_
    obtain ⟨m22, hw⟩ := hw
    exact tX10_year_34 m22 _ _ _ _ _ hw
  · have hw := hw2 c
    refine q_bipush (v := (-3 : Int32)) eX10_year_17 (by decide) ?_
    exact q_ret rfl eX10_year_19 ⟨_, rfl, hw⟩
def wX10_lackNow_57 (Q : Int32 → MH → Prop) (K6 : Nat → Int32 → Int32 → Int32 → MH → Prop) (x0 : Nat) (x2 : Int32) (x3 : Int32) (s0 : Int32) (s1 : Int32) (h : MH) : Prop := hS h x0 = (1, 10) ∧ ∃ a9, hR h x0 29 = some a9 ∧ ∃ n12, hS h a9 = (2, n12) ∧ vp_in (x3) n12 ∧ ∀ h14, h14 = sI h a9 (x3).toNatClampNeg (x2) → K6 x0 (s1 + s0) (x2 * nI 3) (x3 + nI 1) h14
set_option maxHeartbeats 4000000 in
set_option maxRecDepth 100000 in
theorem tX10_lackNow_57 {Q : Int32 → MH → Prop} {K6 : Nat → Int32 → Int32 → Int32 → MH → Prop} (hK6 : ∀ (h : MH) (x0 : Nat) (x1 : Int32) (x2 : Int32) (x3 : Int32), K6 x0 x1 x2 x3 h → Wm MX10_lackNow 3 0 0 6 [some (.ref (x0)), some (.int (x1)), some (.int (x2)), some (.int (x3)), none] [] h (pI Q)) (h : MH) (x0 : Nat) (x2 : Int32) (x3 : Int32) (s0 : Int32) (s1 : Int32) (hw : wX10_lackNow_57 Q K6 x0 x2 x3 s0 s1 h) : Wm MX10_lackNow 3 0 0 57 [some (.ref (x0)), none, some (.int (x2)), some (.int (x3)), none] [.int (s0), .int (s1)] h (pI Q) := by
  unfold wX10_lackNow_57 at hw
  refine q_iadd eX10_lackNow_57 ?_
  refine x_istore_n (ls' := [_, _, _, _, _]) eX10_lackNow_58 (by decide) rfl rfl ?_
  refine q_aload_nr eX10_lackNow_59 rfl ?_
  obtain ⟨hs8, hw⟩ := hw
  obtain ⟨a9, hr10, hw⟩ := hw
  refine q_getR flX10_61 rfl hs8 hr10 eX10_lackNow_60 ?_
  refine q_iload_n eX10_lackNow_63 rfl ?_
  refine q_iload_n eX10_lackNow_64 rfl ?_
  obtain ⟨n12, hs11, hw⟩ := hw
  obtain ⟨hi13, hw⟩ := hw
  have hw := hw _ rfl
  refine q_iast hs11 hi13 eX10_lackNow_65 ?_
  refine q_iload_n eX10_lackNow_66 rfl ?_
  refine q_iconst (v := nI 3) eX10_lackNow_67 (by decide) ?_
  refine q_imul eX10_lackNow_68 ?_
  refine x_istore_n (ls' := [_, _, _, _, _]) eX10_lackNow_69 (by decide) rfl rfl ?_
  refine x_iinc (v := (x3 + nI 1)) (ls' := [_, _, _, _, _]) eX10_lackNow_70 rfl rfl rfl rfl ?_
  refine q_goto (tgt := 6) eX10_lackNow_73 (by decide) ?_
  refine q_le (ls' := [some _, some _, some _, some _, none]) ⟨rfl, rfl, rfl, rfl, trivial⟩ ?_
  exact hK6 _ _ _ _ _ hw
def wX10_lackNow_41 (Q : Int32 → MH → Prop) (K6 : Nat → Int32 → Int32 → Int32 → MH → Prop) (x0 : Nat) (x1 : Int32) (x2 : Int32) (x3 : Int32) (s0 : Int32) (h : MH) : Prop := wX10_lackNow_57 Q K6 x0 x2 x3 (if s0 ≤ 0 then nI 0 else (s0 * x2)) x1 h
set_option maxHeartbeats 4000000 in
set_option maxRecDepth 100000 in
theorem tX10_lackNow_41 {Q : Int32 → MH → Prop} {K6 : Nat → Int32 → Int32 → Int32 → MH → Prop} (hK6 : ∀ (h : MH) (x0 : Nat) (x1 : Int32) (x2 : Int32) (x3 : Int32), K6 x0 x1 x2 x3 h → Wm MX10_lackNow 3 0 0 6 [some (.ref (x0)), some (.int (x1)), some (.int (x2)), some (.int (x3)), none] [] h (pI Q)) (h : MH) (x0 : Nat) (x1 : Int32) (x2 : Int32) (x3 : Int32) (s0 : Int32) (hw : wX10_lackNow_41 Q K6 x0 x1 x2 x3 s0 h) : Wm MX10_lackNow 3 0 0 41 [some (.ref (x0)), some (.int (x1)), some (.int (x2)), some (.int (x3)), none] [.int (s0)] h (pI Q) := by
  unfold wX10_lackNow_41 at hw
  refine x_istore (ls' := [_, _, _, _, _]) eX10_lackNow_41 (by decide) rfl rfl ?_
  refine q_iload_n eX10_lackNow_43 rfl ?_
  refine q_iload eX10_lackNow_44 rfl ?_
  have hj15 : Wm MX10_lackNow 3 0 0 57 [some (.ref (x0)), some (.int (x1)), some (.int (x2)), some (.int (x3)), some (.int (s0))] [.int ((if s0 ≤ 0 then nI 0 else (s0 * x2))), .int (x1)] h (pI Q) := by
    refine q_le (ls' := [some _, none, some _, some _, none]) ⟨rfl, rfl, rfl, trivial⟩ ?_
    exact tX10_lackNow_57 hK6 _ _ _ _ _ _ hw
  refine q_if_le (tgt := 56) eX10_lackNow_46 (by decide) (fun c => ?_) (fun c => ?_)
  · refine q_iconst (v := nI 0) eX10_lackNow_56 (by decide) ?_
    rw [if_pos c] at hj15
    exact hj15
  · refine q_iload eX10_lackNow_49 rfl ?_
    refine q_iload_n eX10_lackNow_51 rfl ?_
    refine q_imul eX10_lackNow_52 ?_
    refine q_goto (tgt := 57) eX10_lackNow_53 (by decide) ?_
    rw [if_neg c] at hj15
    exact hj15
def wX10_lackNow_6 (Q : Int32 → MH → Prop) : Nat → Nat → Int32 → Int32 → Int32 → MH → Prop
  | 0, _, _, _, _, _ => False
  | n + 1, x0, x1, x2, x3, h => (nI 10 ≤ x3 → Q (x1) h) ∧ (¬ (nI 10 ≤ x3) → hS h x0 = (1, 10) ∧ ∃ a2, hR h x0 1 = some a2 ∧ ∃ n5, hS h a2 = (2, n5) ∧ vp_in (nI 2) n5 ∧ (hI h a2 (nI 2).toNatClampNeg ≤ x3 → wX10_lackNow_41 Q (wX10_lackNow_6 Q n) x0 x1 x2 x3 (nI 0) h) ∧ (¬ (hI h a2 (nI 2).toNatClampNeg ≤ x3) → vp_in ((nI 39 + x3)) n5 ∧ wX10_usedFor x0 x3 h (fun r17 h18 => wX10_lackNow_41 Q (wX10_lackNow_6 Q n) x0 x1 x2 x3 (hI h a2 ((nI 39 + x3)).toNatClampNeg - r17) h18)))
set_option maxHeartbeats 4000000 in
set_option maxRecDepth 100000 in
theorem tX10_lackNow_6 {Q : Int32 → MH → Prop} : ∀ (n : Nat) (h : MH) (x0 : Nat) (x1 : Int32) (x2 : Int32) (x3 : Int32), wX10_lackNow_6 Q n x0 x1 x2 x3 h → Wm MX10_lackNow 3 0 0 6 [some (.ref (x0)), some (.int (x1)), some (.int (x2)), some (.int (x3)), none] [] h (pI Q) := by
  intro n
  induction n with
  | zero => intro h x0 x1 x2 x3 hw; exact hw.elim
  | succ n ih =>
    intro h x0 x1 x2 x3 hw
    unfold wX10_lackNow_6 at hw
    refine q_iload_n eX10_lackNow_6 rfl ?_
    refine q_bipush (v := nI 10) eX10_lackNow_7 (by decide) ?_
    obtain ⟨hw1, hw2⟩ := hw
    refine q_icmp_ge (tgt := 76) eX10_lackNow_9 (by decide) (fun c => ?_) (fun c => ?_)
    · have hw := hw1 c
      refine q_iload_n eX10_lackNow_76 rfl ?_
      exact q_ret rfl eX10_lackNow_77 ⟨_, rfl, hw⟩
    · have hw := hw2 c
      refine q_iload_n eX10_lackNow_12 rfl ?_
      refine q_aload_nr eX10_lackNow_13 rfl ?_
      obtain ⟨hs1, hw⟩ := hw
      obtain ⟨a2, hr3, hw⟩ := hw
      refine q_getR flX10_13 rfl hs1 hr3 eX10_lackNow_14 ?_
      refine q_iconst (v := nI 2) eX10_lackNow_17 (by decide) ?_
      obtain ⟨n5, hs4, hw⟩ := hw
      obtain ⟨hi6, hw⟩ := hw
      refine q_iald hs4 hi6 eX10_lackNow_18 ?_
      obtain ⟨hw1, hw2⟩ := hw
      refine q_icmp_ge (tgt := 40) eX10_lackNow_19 (by decide) (fun c => ?_) (fun c => ?_)
      · have hw := hw1 c
        refine q_iconst (v := nI 0) eX10_lackNow_40 (by decide) ?_
        refine q_le (ls' := [some _, some _, some _, some _, none]) ⟨rfl, rfl, rfl, rfl, trivial⟩ ?_
        exact tX10_lackNow_41 ih _ _ _ _ _ _ hw
      · have hw := hw2 c
        refine q_aload_nr eX10_lackNow_22 rfl ?_
        refine q_getR flX10_13 rfl hs1 hr3 eX10_lackNow_23 ?_
        refine q_bipush (v := nI 39) eX10_lackNow_26 (by decide) ?_
        refine q_iload_n eX10_lackNow_28 rfl ?_
        refine q_iadd eX10_lackNow_29 ?_
        obtain ⟨hi16, hw⟩ := hw
        refine q_iald hs4 hi16 eX10_lackNow_30 ?_
        refine q_aload_nr eX10_lackNow_31 rfl ?_
        refine q_iload_n eX10_lackNow_32 rfl ?_
        refine q_callV (b := 0) (t := 0) (gX10_usedFor _ _ _ _ hw) mlX10_291 kX10_usedFor vX10_usedFor rfl hs1 ⟨rfl, rfl⟩ (by decide) rfl (Nat.le_of_ble_eq_true rfl) eX10_lackNow_33 (kI fun r17 h18 hw => ?_)
        refine q_isub eX10_lackNow_36 ?_
        refine q_goto (tgt := 41) eX10_lackNow_37 (by decide) ?_
        refine q_le (ls' := [some _, some _, some _, some _, none]) ⟨rfl, rfl, rfl, rfl, trivial⟩ ?_
        exact tX10_lackNow_41 ih _ _ _ _ _ _ hw
def wX10_lackNow (x0 : Nat) (h : MH) (Q : Int32 → MH → Prop) : Prop := ∃ m19, wX10_lackNow_6 Q m19 x0 (nI 0) (nI 1) (nI 0) h
set_option maxHeartbeats 4000000 in
set_option maxRecDepth 100000 in
theorem gX10_lackNow (x0 : Nat) (h : MH) (Q : Int32 → MH → Prop) (hw : wX10_lackNow x0 h Q) : Cm MX10_lackNow 3 0 0 [.ref (x0)] h (pI Q) := by
  refine cm_of [some (.ref (x0)), none, none, none, none] rfl pnX10 (Nat.le_of_ble_eq_true rfl) rfl ?_
  unfold wX10_lackNow at hw
  refine q_iconst (v := nI 0) eX10_lackNow_0 (by decide) ?_
  refine x_istore_n (ls' := [_, _, _, _, _]) eX10_lackNow_1 (by decide) rfl rfl ?_
  refine q_iconst (v := nI 1) eX10_lackNow_2 (by decide) ?_
  refine x_istore_n (ls' := [_, _, _, _, _]) eX10_lackNow_3 (by decide) rfl rfl ?_
  refine q_iconst (v := nI 0) eX10_lackNow_4 (by decide) ?_
  refine x_istore_n (ls' := [_, _, _, _, _]) eX10_lackNow_5 (by decide) rfl rfl ?_
  refine q_le (ls' := [some _, some _, some _, some _, none]) ⟨rfl, rfl, rfl, rfl, trivial⟩ ?_
  obtain ⟨m19, hw⟩ := hw
  exact tX10_lackNow_6 m19 _ _ _ _ _ hw
def wX10_lackOf (x0 : Nat) (x1 : Int32) (x2 : Int32) (h : MH) (Q : Int32 → MH → Prop) : Prop := hS h x0 = (1, 10) ∧ ∃ a2, hR h x0 29 = some a2 ∧ ∃ n5, hS h a2 = (2, n5) ∧ vp_in (x2) n5 ∧ ¬ hI h a2 (x2).toNatClampNeg = 0 ∧ ¬ nI 3 = 0 ∧ Q (((x1 / hI h a2 (x2).toNatClampNeg) - (x1 / hI h a2 (x2).toNatClampNeg) / nI 3 * nI 3)) h
set_option maxHeartbeats 4000000 in
set_option maxRecDepth 100000 in
theorem gX10_lackOf (x0 : Nat) (x1 : Int32) (x2 : Int32) (h : MH) (Q : Int32 → MH → Prop) (hw : wX10_lackOf x0 x1 x2 h Q) : Cm MX10_lackOf 0 0 0 [.ref (x0), .int (x1), .int (x2)] h (pI Q) := by
  refine cm_of [some (.ref (x0)), some (.int (x1)), some (.int (x2))] rfl pnX10 (Nat.le_of_ble_eq_true rfl) rfl ?_
  unfold wX10_lackOf at hw
  refine q_iload_n eX10_lackOf_0 rfl ?_
  refine q_aload_nr eX10_lackOf_1 rfl ?_
  obtain ⟨hs1, hw⟩ := hw
  obtain ⟨a2, hr3, hw⟩ := hw
  refine q_getR flX10_61 rfl hs1 hr3 eX10_lackOf_2 ?_
  refine q_iload_n eX10_lackOf_5 rfl ?_
  obtain ⟨n5, hs4, hw⟩ := hw
  obtain ⟨hi6, hw⟩ := hw
  refine q_iald hs4 hi6 eX10_lackOf_6 ?_
  obtain ⟨hz7, hw⟩ := hw
  refine q_idiv eX10_lackOf_7 hz7 ?_
  refine q_iconst (v := nI 3) eX10_lackOf_8 (by decide) ?_
  obtain ⟨hz8, hw⟩ := hw
  refine q_irem eX10_lackOf_9 hz8 ?_
  exact q_ret rfl eX10_lackOf_10 ⟨_, rfl, hw⟩
def wX10_lackWith_49 (Q : Int32 → MH → Prop) (K5 : Nat → Int32 → Int32 → Int32 → Int32 → MH → Prop) (x0 : Nat) (x1 : Int32) (x2 : Int32) (x4 : Int32) (s0 : Int32) (s1 : Int32) (h : MH) : Prop := hS h x0 = (1, 10) ∧ ∃ a14, hR h x0 29 = some a14 ∧ ∃ n17, hS h a14 = (2, n17) ∧ vp_in (x4) n17 ∧ ∀ v19, v19 = (s1 - (s0 * hI h a14 (x4).toNatClampNeg)) → K5 x0 x1 x2 v19 (x4 + nI 1) h
set_option maxHeartbeats 4000000 in
set_option maxRecDepth 100000 in
theorem tX10_lackWith_49 {Q : Int32 → MH → Prop} {K5 : Nat → Int32 → Int32 → Int32 → Int32 → MH → Prop} (hK5 : ∀ (h : MH) (x0 : Nat) (x1 : Int32) (x2 : Int32) (x3 : Int32) (x4 : Int32), K5 x0 x1 x2 x3 x4 h → Wm MX10_lackWith 2 0 0 5 [some (.ref (x0)), some (.int (x1)), some (.int (x2)), some (.int (x3)), some (.int (x4)), none, none] [] h (pI Q)) (h : MH) (x0 : Nat) (x1 : Int32) (x2 : Int32) (x4 : Int32) (s0 : Int32) (s1 : Int32) (hw : wX10_lackWith_49 Q K5 x0 x1 x2 x4 s0 s1 h) : Wm MX10_lackWith 2 0 0 49 [some (.ref (x0)), some (.int (x1)), some (.int (x2)), none, some (.int (x4)), none, none] [.int (s0), .int (s1)] h (pI Q) := by
  unfold wX10_lackWith_49 at hw
  refine q_aload_nr eX10_lackWith_49 rfl ?_
  obtain ⟨hs13, hw⟩ := hw
  obtain ⟨a14, hr15, hw⟩ := hw
  refine q_getR flX10_61 rfl hs13 hr15 eX10_lackWith_50 ?_
  refine q_iload eX10_lackWith_53 rfl ?_
  obtain ⟨n17, hs16, hw⟩ := hw
  obtain ⟨hi18, hw⟩ := hw
  refine q_iald hs16 hi18 eX10_lackWith_55 ?_
  refine q_imul eX10_lackWith_56 ?_
  refine q_isub eX10_lackWith_57 ?_
  have hw := hw _ rfl
  refine x_istore_n (ls' := [_, _, _, _, _, _, _]) eX10_lackWith_58 (by decide) rfl rfl ?_
  refine x_iinc (v := (x4 + nI 1)) (ls' := [_, _, _, _, _, _, _]) eX10_lackWith_59 rfl rfl rfl rfl ?_
  refine q_goto (tgt := 5) eX10_lackWith_62 (by decide) ?_
  refine q_le (ls' := [some _, some _, some _, some _, some _, none, none]) ⟨rfl, rfl, rfl, rfl, rfl, trivial⟩ ?_
  exact hK5 _ _ _ _ _ _ hw
def wX10_lackWith_5 (Q : Int32 → MH → Prop) : Nat → Nat → Int32 → Int32 → Int32 → Int32 → MH → Prop
  | 0, _, _, _, _, _, _ => False
  | n + 1, x0, x1, x2, x3, x4, h => hS h x0 = (1, 10) ∧ ∃ a2, hR h x0 1 = some a2 ∧ ∃ n5, hS h a2 = (2, n5) ∧ vp_in (nI 2) n5 ∧ (hI h a2 (nI 2).toNatClampNeg ≤ x4 → Q (x3) h) ∧ (¬ (hI h a2 (nI 2).toNatClampNeg ≤ x4) → wX10_lackOf x0 x1 x4 h (fun r7 h8 => hS h8 x0 = (1, 10) ∧ wX10_useOf x0 x2 x4 h8 (fun r10 h11 => wX10_lackWith_49 Q (wX10_lackWith_5 Q n) x0 x1 x2 x4 (if r10 ≤ r7 then r10 else r7) x3 h11)))
set_option maxHeartbeats 4000000 in
set_option maxRecDepth 100000 in
theorem tX10_lackWith_5 {Q : Int32 → MH → Prop} : ∀ (n : Nat) (h : MH) (x0 : Nat) (x1 : Int32) (x2 : Int32) (x3 : Int32) (x4 : Int32), wX10_lackWith_5 Q n x0 x1 x2 x3 x4 h → Wm MX10_lackWith 2 0 0 5 [some (.ref (x0)), some (.int (x1)), some (.int (x2)), some (.int (x3)), some (.int (x4)), none, none] [] h (pI Q) := by
  intro n
  induction n with
  | zero => intro h x0 x1 x2 x3 x4 hw; exact hw.elim
  | succ n ih =>
    intro h x0 x1 x2 x3 x4 hw
    unfold wX10_lackWith_5 at hw
    refine q_iload eX10_lackWith_5 rfl ?_
    refine q_aload_nr eX10_lackWith_7 rfl ?_
    obtain ⟨hs1, hw⟩ := hw
    obtain ⟨a2, hr3, hw⟩ := hw
    refine q_getR flX10_13 rfl hs1 hr3 eX10_lackWith_8 ?_
    refine q_iconst (v := nI 2) eX10_lackWith_11 (by decide) ?_
    obtain ⟨n5, hs4, hw⟩ := hw
    obtain ⟨hi6, hw⟩ := hw
    refine q_iald hs4 hi6 eX10_lackWith_12 ?_
    obtain ⟨hw1, hw2⟩ := hw
    refine q_icmp_ge (tgt := 65) eX10_lackWith_13 (by decide) (fun c => ?_) (fun c => ?_)
    · have hw := hw1 c
      refine q_iload_n eX10_lackWith_65 rfl ?_
      exact q_ret rfl eX10_lackWith_66 ⟨_, rfl, hw⟩
    · have hw := hw2 c
      refine q_aload_nr eX10_lackWith_16 rfl ?_
      refine q_iload_n eX10_lackWith_17 rfl ?_
      refine q_iload eX10_lackWith_18 rfl ?_
      refine q_callV (b := 0) (t := 0) (gX10_lackOf _ _ _ _ _ hw) mlX10_391 kX10_lackOf vX10_lackOf rfl hs1 ⟨rfl, rfl⟩ (by decide) rfl (Nat.le_of_ble_eq_true rfl) eX10_lackWith_20 (kI fun r7 h8 hw => ?_)
      refine x_istore (ls' := [_, _, _, _, _, _, _]) eX10_lackWith_23 (by decide) rfl rfl ?_
      refine q_aload_nr eX10_lackWith_25 rfl ?_
      refine q_iload_n eX10_lackWith_26 rfl ?_
      refine q_iload eX10_lackWith_27 rfl ?_
      obtain ⟨hs9, hw⟩ := hw
      refine q_callV (b := 0) (t := 0) (gX10_useOf _ _ _ _ _ hw) mlX10_254 kX10_useOf vX10_useOf rfl hs9 ⟨rfl, rfl⟩ (by decide) rfl (Nat.le_of_ble_eq_true rfl) eX10_lackWith_29 (kI fun r10 h11 hw => ?_)
      refine x_istore (ls' := [_, _, _, _, _, _, _]) eX10_lackWith_32 (by decide) rfl rfl ?_
      refine q_iload_n eX10_lackWith_34 rfl ?_
      refine q_iload eX10_lackWith_35 rfl ?_
      refine q_iload eX10_lackWith_37 rfl ?_
      have hj20 : Wm MX10_lackWith 2 0 0 49 [some (.ref (x0)), some (.int (x1)), some (.int (x2)), some (.int (x3)), some (.int (x4)), some (.int (r7)), some (.int (r10))] [.int ((if r10 ≤ r7 then r10 else r7)), .int (x3)] h11 (pI Q) := by
        refine q_le (ls' := [some _, some _, some _, none, some _, none, none]) ⟨rfl, rfl, rfl, rfl, trivial⟩ ?_
        exact tX10_lackWith_49 ih _ _ _ _ _ _ _ hw
      refine q_icmp_ge (tgt := 47) eX10_lackWith_39 (by decide) (fun c => ?_) (fun c => ?_)
      · refine q_iload eX10_lackWith_47 rfl ?_
        rw [if_pos c] at hj20
        exact hj20
      · refine q_iload eX10_lackWith_42 rfl ?_
        refine q_goto (tgt := 49) eX10_lackWith_44 (by decide) ?_
        rw [if_neg c] at hj20
        exact hj20
def wX10_lackWith (x0 : Nat) (x1 : Int32) (x2 : Int32) (h : MH) (Q : Int32 → MH → Prop) : Prop := ∃ m21, wX10_lackWith_5 Q m21 x0 x1 x2 x1 (nI 0) h
set_option maxHeartbeats 4000000 in
set_option maxRecDepth 100000 in
theorem gX10_lackWith (x0 : Nat) (x1 : Int32) (x2 : Int32) (h : MH) (Q : Int32 → MH → Prop) (hw : wX10_lackWith x0 x1 x2 h Q) : Cm MX10_lackWith 2 0 0 [.ref (x0), .int (x1), .int (x2)] h (pI Q) := by
  refine cm_of [some (.ref (x0)), some (.int (x1)), some (.int (x2)), none, none, none, none] rfl pnX10 (Nat.le_of_ble_eq_true rfl) rfl ?_
  unfold wX10_lackWith at hw
  refine q_iload_n eX10_lackWith_0 rfl ?_
  refine x_istore_n (ls' := [_, _, _, _, _, _, _]) eX10_lackWith_1 (by decide) rfl rfl ?_
  refine q_iconst (v := nI 0) eX10_lackWith_2 (by decide) ?_
  refine x_istore (ls' := [_, _, _, _, _, _, _]) eX10_lackWith_3 (by decide) rfl rfl ?_
  refine q_le (ls' := [some _, some _, some _, some _, some _, none, none]) ⟨rfl, rfl, rfl, rfl, rfl, trivial⟩ ?_
  obtain ⟨m21, hw⟩ := hw
  exact tX10_lackWith_5 m21 _ _ _ _ _ _ hw
def wX10_firstLack_2 (Q : Int32 → MH → Prop) : Nat → Nat → Int32 → Int32 → MH → Prop
  | 0, _, _, _, _ => False
  | n + 1, x0, x1, x2, h => hS h x0 = (1, 10) ∧ wX10_lackOf x0 x1 x2 h (fun r2 h3 => (¬ (r2 = 0) → Q (x2) h3) ∧ (r2 = 0 → wX10_firstLack_2 Q n x0 x1 (x2 + nI 1) h3))
set_option maxHeartbeats 4000000 in
set_option maxRecDepth 100000 in
theorem tX10_firstLack_2 {Q : Int32 → MH → Prop} : ∀ (n : Nat) (h : MH) (x0 : Nat) (x1 : Int32) (x2 : Int32), wX10_firstLack_2 Q n x0 x1 x2 h → Wm MX10_firstLack 1 0 0 2 [some (.ref (x0)), some (.int (x1)), some (.int (x2))] [] h (pI Q) := by
  intro n
  induction n with
  | zero => intro h x0 x1 x2 hw; exact hw.elim
  | succ n ih =>
    intro h x0 x1 x2 hw
    unfold wX10_firstLack_2 at hw
    refine q_aload_nr eX10_firstLack_2 rfl ?_
    refine q_iload_n eX10_firstLack_3 rfl ?_
    refine q_iload_n eX10_firstLack_4 rfl ?_
    obtain ⟨hs1, hw⟩ := hw
    refine q_callV (b := 0) (t := 0) (gX10_lackOf _ _ _ _ _ hw) mlX10_391 kX10_lackOf vX10_lackOf rfl hs1 ⟨rfl, rfl⟩ (by decide) rfl (Nat.le_of_ble_eq_true rfl) eX10_firstLack_5 (kI fun r2 h3 hw => ?_)
    obtain ⟨hw1, hw2⟩ := hw
    refine q_if_ne (tgt := 17) eX10_firstLack_8 (by decide) (fun c => ?_) (fun c => ?_)
    · have hw := hw1 c
      refine q_iload_n eX10_firstLack_17 rfl ?_
      exact q_ret rfl eX10_firstLack_18 ⟨_, rfl, hw⟩
    · have hw := hw2 c
      refine x_iinc (v := (x2 + nI 1)) (ls' := [_, _, _]) eX10_firstLack_11 rfl rfl rfl rfl ?_
      refine q_goto (tgt := 2) eX10_firstLack_14 (by decide) ?_
      refine q_le (ls' := [some _, some _, some _]) ⟨rfl, rfl, rfl, trivial⟩ ?_
      exact ih _ _ _ _ hw
def wX10_firstLack (x0 : Nat) (x1 : Int32) (h : MH) (Q : Int32 → MH → Prop) : Prop := ∃ m4, wX10_firstLack_2 Q m4 x0 x1 (nI 0) h
set_option maxHeartbeats 4000000 in
set_option maxRecDepth 100000 in
theorem gX10_firstLack (x0 : Nat) (x1 : Int32) (h : MH) (Q : Int32 → MH → Prop) (hw : wX10_firstLack x0 x1 h Q) : Cm MX10_firstLack 1 0 0 [.ref (x0), .int (x1)] h (pI Q) := by
  refine cm_of [some (.ref (x0)), some (.int (x1)), none] rfl pnX10 (Nat.le_of_ble_eq_true rfl) rfl ?_
  unfold wX10_firstLack at hw
  refine q_iconst (v := nI 0) eX10_firstLack_0 (by decide) ?_
  refine x_istore_n (ls' := [_, _, _]) eX10_firstLack_1 (by decide) rfl rfl ?_
  refine q_le (ls' := [some _, some _, some _]) ⟨rfl, rfl, rfl, trivial⟩ ?_
  obtain ⟨m4, hw⟩ := hw
  exact tX10_firstLack_2 m4 _ _ _ _ hw
def wX10_priceOf (x0 : Nat) (x1 : Int32) (x2 : Int32) (h : MH) (Q : Int32 → MH → Prop) : Prop := (¬ (x2 = 0) → Q (nI 1) h) ∧ (x2 = 0 → hS h x0 = (1, 10) ∧ ∃ a2, hR h x0 21 = some a2 ∧ ∃ n5, hS h a2 = (2, n5) ∧ vp_in (x1) n5 ∧ Q (hI h a2 (x1).toNatClampNeg) h)
set_option maxHeartbeats 4000000 in
set_option maxRecDepth 100000 in
theorem gX10_priceOf (x0 : Nat) (x1 : Int32) (x2 : Int32) (h : MH) (Q : Int32 → MH → Prop) (hw : wX10_priceOf x0 x1 x2 h Q) : Cm MX10_priceOf 0 0 0 [.ref (x0), .int (x1), .int (x2)] h (pI Q) := by
  refine cm_of [some (.ref (x0)), some (.int (x1)), some (.int (x2))] rfl pnX10 (Nat.le_of_ble_eq_true rfl) rfl ?_
  unfold wX10_priceOf at hw
  refine q_iload_n eX10_priceOf_0 rfl ?_
  obtain ⟨hw1, hw2⟩ := hw
  refine q_if_ne (tgt := 13) eX10_priceOf_1 (by decide) (fun c => ?_) (fun c => ?_)
  · have hw := hw1 c
    refine q_iconst (v := nI 1) eX10_priceOf_13 (by decide) ?_
    exact q_ret rfl eX10_priceOf_14 ⟨_, rfl, hw⟩
  · have hw := hw2 c
    refine q_aload_nr eX10_priceOf_4 rfl ?_
    obtain ⟨hs1, hw⟩ := hw
    obtain ⟨a2, hr3, hw⟩ := hw
    refine q_getR flX10_45 rfl hs1 hr3 eX10_priceOf_5 ?_
    refine q_iload_n eX10_priceOf_8 rfl ?_
    obtain ⟨n5, hs4, hw⟩ := hw
    obtain ⟨hi6, hw⟩ := hw
    refine q_iald hs4 hi6 eX10_priceOf_9 ?_
    refine q_goto (tgt := 14) eX10_priceOf_10 (by decide) ?_
    exact q_ret rfl eX10_priceOf_14 ⟨_, rfl, hw⟩
def wX10_leastFor_115 (Q : Int32 → MH → Prop) (PX10_leastFor : Nat → Int32 → Int32 → MH → (Int32 → MH → Prop) → Prop) (x0 : Nat) (x1 : Int32) (x3 : Int32) (h : MH) : Prop := hS h x0 = (1, 10) ∧ ∃ a9, hR h x0 27 = some a9 ∧ ∃ n12, hS h a9 = (2, n12) ∧ vp_in (x1) n12 ∧ ∀ h14, h14 = sI h a9 (x1).toNatClampNeg (x3) → Q (x3) h14
set_option maxHeartbeats 4000000 in
set_option maxRecDepth 100000 in
theorem tX10_leastFor_115 {Q : Int32 → MH → Prop} {PX10_leastFor : Nat → Int32 → Int32 → MH → (Int32 → MH → Prop) → Prop} {d d2 : Nat} (hd : 3 ≤ d) (hd2 : d2 < d) (hPX10_leastFor : ∀ (y0 : Nat) (y1 : Int32) (y2 : Int32) (h : MH) (Q : Int32 → MH → Prop), PX10_leastFor y0 y1 y2 h Q → Cm MX10_leastFor d2 0 0 [.ref (y0), .int (y1), .int (y2)] h (pI Q)) (h : MH) (x0 : Nat) (x1 : Int32) (x3 : Int32) (hw : wX10_leastFor_115 Q PX10_leastFor x0 x1 x3 h) : Wm MX10_leastFor d 0 0 115 [some (.ref (x0)), some (.int (x1)), none, some (.int (x3)), none, none] [] h (pI Q) := by
  unfold wX10_leastFor_115 at hw
  refine q_aload_nr eX10_leastFor_115 rfl ?_
  obtain ⟨hs8, hw⟩ := hw
  obtain ⟨a9, hr10, hw⟩ := hw
  refine q_getR flX10_55 rfl hs8 hr10 eX10_leastFor_116 ?_
  refine q_iload_n eX10_leastFor_119 rfl ?_
  refine q_iload_n eX10_leastFor_120 rfl ?_
  obtain ⟨n12, hs11, hw⟩ := hw
  obtain ⟨hi13, hw⟩ := hw
  have hw := hw _ rfl
  refine q_iast hs11 hi13 eX10_leastFor_121 ?_
  refine q_iload_n eX10_leastFor_122 rfl ?_
  exact q_ret rfl eX10_leastFor_123 ⟨_, rfl, hw⟩
def wX10_leastFor_32 (Q : Int32 → MH → Prop) (PX10_leastFor : Nat → Int32 → Int32 → MH → (Int32 → MH → Prop) → Prop) : Nat → Nat → Int32 → Int32 → Int32 → Int32 → MH → Prop
  | 0, _, _, _, _, _, _ => False
  | n + 1, x0, x1, x2, x3, x4, h => hS h x0 = (1, 10) ∧ (hI h x0 23 ≤ x4 → wX10_leastFor_115 Q PX10_leastFor x0 x1 x3 h) ∧ (¬ (hI h x0 23 ≤ x4) → (x1 ≤ 0 → wX10_leastFor_115 Q PX10_leastFor x0 x1 x3 h) ∧ (¬ (x1 ≤ 0) → wX10_firstLack x0 x1 h (fun r15 h16 => hS h16 x0 = (1, 10) ∧ wX10_useOf x0 x4 r15 h16 (fun r18 h19 => (¬ (r18 = 0) → hS h19 x0 = (1, 10) ∧ wX10_lackWith x0 x1 x4 h19 (fun r21 h22 => hS h22 x0 = (1, 10) ∧ PX10_leastFor x0 r21 x2 h22 (fun r24 h25 => ((268435456 : Int32) ≤ r24 → wX10_leastFor_32 Q PX10_leastFor n x0 x1 x2 x3 (x4 + nI 1) h25) ∧ (¬ ((268435456 : Int32) ≤ r24) → hS h25 x0 = (1, 10) ∧ wX10_priceOf x0 x4 x2 h25 (fun r27 h28 => (x3 ≤ (r24 + r27) → wX10_leastFor_32 Q PX10_leastFor n x0 x1 x2 x3 (x4 + nI 1) h28) ∧ (¬ (x3 ≤ (r24 + r27)) → hS h28 x0 = (1, 10) ∧ wX10_priceOf x0 x4 x2 h28 (fun r30 h31 => wX10_leastFor_32 Q PX10_leastFor n x0 x1 x2 (r24 + r30) (x4 + nI 1) h31))))))) ∧ (r18 = 0 → wX10_leastFor_32 Q PX10_leastFor n x0 x1 x2 x3 (x4 + nI 1) h19)))))
set_option maxHeartbeats 4000000 in
set_option maxRecDepth 100000 in
theorem tX10_leastFor_32 {Q : Int32 → MH → Prop} {PX10_leastFor : Nat → Int32 → Int32 → MH → (Int32 → MH → Prop) → Prop} {d d2 : Nat} (hd : 3 ≤ d) (hd2 : d2 < d) (hPX10_leastFor : ∀ (y0 : Nat) (y1 : Int32) (y2 : Int32) (h : MH) (Q : Int32 → MH → Prop), PX10_leastFor y0 y1 y2 h Q → Cm MX10_leastFor d2 0 0 [.ref (y0), .int (y1), .int (y2)] h (pI Q)) : ∀ (n : Nat) (h : MH) (x0 : Nat) (x1 : Int32) (x2 : Int32) (x3 : Int32) (x4 : Int32), wX10_leastFor_32 Q PX10_leastFor n x0 x1 x2 x3 x4 h → Wm MX10_leastFor d 0 0 32 [some (.ref (x0)), some (.int (x1)), some (.int (x2)), some (.int (x3)), some (.int (x4)), none] [] h (pI Q) := by
  intro n
  induction n with
  | zero => intro h x0 x1 x2 x3 x4 hw; exact hw.elim
  | succ n ih =>
    intro h x0 x1 x2 x3 x4 hw
    unfold wX10_leastFor_32 at hw
    refine q_iload eX10_leastFor_32 rfl ?_
    refine q_aload_nr eX10_leastFor_34 rfl ?_
    obtain ⟨hs7, hw⟩ := hw
    refine q_getI flX10_216 rfl hs7 eX10_leastFor_35 ?_
    obtain ⟨hw1, hw2⟩ := hw
    refine q_icmp_ge (tgt := 115) eX10_leastFor_38 (by decide) (fun c => ?_) (fun c => ?_)
    · have hw := hw1 c
      refine q_le (ls' := [some _, some _, none, some _, none, none]) ⟨rfl, rfl, rfl, trivial⟩ ?_
      exact tX10_leastFor_115 hd hd2 hPX10_leastFor _ _ _ _ hw
    · have hw := hw2 c
      refine q_iload_n eX10_leastFor_41 rfl ?_
      obtain ⟨hw1, hw2⟩ := hw
      refine q_if_le (tgt := 115) eX10_leastFor_42 (by decide) (fun c => ?_) (fun c => ?_)
      · have hw := hw1 c
        refine q_le (ls' := [some _, some _, none, some _, none, none]) ⟨rfl, rfl, rfl, trivial⟩ ?_
        exact tX10_leastFor_115 hd hd2 hPX10_leastFor _ _ _ _ hw
      · have hw := hw2 c
        refine q_aload_nr eX10_leastFor_45 rfl ?_
        refine q_iload eX10_leastFor_46 rfl ?_
        refine q_aload_nr eX10_leastFor_48 rfl ?_
        refine q_iload_n eX10_leastFor_49 rfl ?_
        refine q_callV (b := 0) (t := 0) (gX10_firstLack _ _ _ _ hw) mlX10_395 kX10_firstLack vX10_firstLack rfl hs7 ⟨rfl, rfl⟩ (by omega) rfl (Nat.le_of_ble_eq_true rfl) eX10_leastFor_50 (kI fun r15 h16 hw => ?_)
        obtain ⟨hs17, hw⟩ := hw
        refine q_callV (b := 0) (t := 0) (gX10_useOf _ _ _ _ _ hw) mlX10_254 kX10_useOf vX10_useOf rfl hs17 ⟨rfl, rfl⟩ (by omega) rfl (Nat.le_of_ble_eq_true rfl) eX10_leastFor_53 (kI fun r18 h19 hw => ?_)
        obtain ⟨hw1, hw2⟩ := hw
        refine q_if_ne (tgt := 62) eX10_leastFor_56 (by decide) (fun c => ?_) (fun c => ?_)
        · have hw := hw1 c
          refine q_aload_nr eX10_leastFor_62 rfl ?_
          refine q_aload_nr eX10_leastFor_63 rfl ?_
          refine q_iload_n eX10_leastFor_64 rfl ?_
          refine q_iload eX10_leastFor_65 rfl ?_
          obtain ⟨hs20, hw⟩ := hw
          refine q_callV (b := 0) (t := 0) (gX10_lackWith _ _ _ _ _ hw) mlX10_398 kX10_lackWith vX10_lackWith rfl hs20 ⟨rfl, rfl⟩ (by omega) rfl (Nat.le_of_ble_eq_true rfl) eX10_leastFor_67 (kI fun r21 h22 hw => ?_)
          refine q_iload_n eX10_leastFor_70 rfl ?_
          obtain ⟨hs23, hw⟩ := hw
          refine q_callV (b := 0) (t := 0) (hPX10_leastFor _ _ _ _ _ hw) mlX10_401 kX10_leastFor vX10_leastFor rfl hs23 ⟨rfl, rfl⟩ (by omega) rfl (Nat.le_of_ble_eq_true rfl) eX10_leastFor_71 (kI fun r24 h25 hw => ?_)
          refine x_istore (ls' := [_, _, _, _, _, _]) eX10_leastFor_74 (by decide) rfl rfl ?_
          refine q_iload eX10_leastFor_76 rfl ?_
          refine q_ldcw coX10_394 eX10_leastFor_78 ?_
          obtain ⟨hw1, hw2⟩ := hw
          refine q_icmp_ge (tgt := 109) eX10_leastFor_81 (by decide) (fun c => ?_) (fun c => ?_)
          · have hw := hw1 c
            refine x_iinc (v := (x4 + nI 1)) (ls' := [_, _, _, _, _, _]) eX10_leastFor_109 rfl rfl rfl rfl ?_
            refine q_goto (tgt := 32) eX10_leastFor_112 (by decide) ?_
            refine q_le (ls' := [some _, some _, some _, some _, some _, none]) ⟨rfl, rfl, rfl, rfl, rfl, trivial⟩ ?_
            exact ih _ _ _ _ _ _ hw
          · have hw := hw2 c
            refine q_iload eX10_leastFor_84 rfl ?_
            refine q_aload_nr eX10_leastFor_86 rfl ?_
            refine q_iload eX10_leastFor_87 rfl ?_
            refine q_iload_n eX10_leastFor_89 rfl ?_
            obtain ⟨hs26, hw⟩ := hw
            refine q_callV (b := 0) (t := 0) (gX10_priceOf _ _ _ _ _ hw) mlX10_404 kX10_priceOf vX10_priceOf rfl hs26 ⟨rfl, rfl⟩ (by omega) rfl (Nat.le_of_ble_eq_true rfl) eX10_leastFor_90 (kI fun r27 h28 hw => ?_)
            refine q_iadd eX10_leastFor_93 ?_
            refine q_iload_n eX10_leastFor_94 rfl ?_
            obtain ⟨hw1, hw2⟩ := hw
            refine q_icmp_ge (tgt := 109) eX10_leastFor_95 (by decide) (fun c => ?_) (fun c => ?_)
            · have hw := hw1 c
              refine x_iinc (v := (x4 + nI 1)) (ls' := [_, _, _, _, _, _]) eX10_leastFor_109 rfl rfl rfl rfl ?_
              refine q_goto (tgt := 32) eX10_leastFor_112 (by decide) ?_
              refine q_le (ls' := [some _, some _, some _, some _, some _, none]) ⟨rfl, rfl, rfl, rfl, rfl, trivial⟩ ?_
              exact ih _ _ _ _ _ _ hw
            · have hw := hw2 c
              refine q_iload eX10_leastFor_98 rfl ?_
              refine q_aload_nr eX10_leastFor_100 rfl ?_
              refine q_iload eX10_leastFor_101 rfl ?_
              refine q_iload_n eX10_leastFor_103 rfl ?_
              obtain ⟨hs29, hw⟩ := hw
              refine q_callV (b := 0) (t := 0) (gX10_priceOf _ _ _ _ _ hw) mlX10_404 kX10_priceOf vX10_priceOf rfl hs29 ⟨rfl, rfl⟩ (by omega) rfl (Nat.le_of_ble_eq_true rfl) eX10_leastFor_104 (kI fun r30 h31 hw => ?_)
              refine q_iadd eX10_leastFor_107 ?_
              refine x_istore_n (ls' := [_, _, _, _, _, _]) eX10_leastFor_108 (by decide) rfl rfl ?_
              refine x_iinc (v := (x4 + nI 1)) (ls' := [_, _, _, _, _, _]) eX10_leastFor_109 rfl rfl rfl rfl ?_
              refine q_goto (tgt := 32) eX10_leastFor_112 (by decide) ?_
              refine q_le (ls' := [some _, some _, some _, some _, some _, none]) ⟨rfl, rfl, rfl, rfl, rfl, trivial⟩ ?_
              exact ih _ _ _ _ _ _ hw
        · have hw := hw2 c
          refine q_goto (tgt := 109) eX10_leastFor_59 (by decide) ?_
          refine x_iinc (v := (x4 + nI 1)) (ls' := [_, _, _, _, _, _]) eX10_leastFor_109 rfl rfl rfl rfl ?_
          refine q_goto (tgt := 32) eX10_leastFor_112 (by decide) ?_
          refine q_le (ls' := [some _, some _, some _, some _, some _, none]) ⟨rfl, rfl, rfl, rfl, rfl, trivial⟩ ?_
          exact ih _ _ _ _ _ _ hw
def wX10_leastFor (PX10_leastFor : Nat → Int32 → Int32 → MH → (Int32 → MH → Prop) → Prop) (x0 : Nat) (x1 : Int32) (x2 : Int32) (h : MH) (Q : Int32 → MH → Prop) : Prop := hS h x0 = (1, 10) ∧ ∃ a2, hR h x0 27 = some a2 ∧ ∃ n5, hS h a2 = (2, n5) ∧ vp_in (x1) n5 ∧ (hI h a2 (x1).toNatClampNeg = (-1 : Int32) → (¬ (x1 = 0) → ∃ m32, wX10_leastFor_32 Q PX10_leastFor m32 x0 x1 x2 (268435456 : Int32) (nI 0) h) ∧ (x1 = 0 → ∃ m33, wX10_leastFor_32 Q PX10_leastFor m33 x0 x1 x2 (nI 0) (nI 0) h)) ∧ (¬ (hI h a2 (x1).toNatClampNeg = (-1 : Int32)) → vp_in (x1) n5 ∧ Q (hI h a2 (x1).toNatClampNeg) h)
set_option maxHeartbeats 4000000 in
set_option maxRecDepth 100000 in
theorem gX10_leastFor {PX10_leastFor : Nat → Int32 → Int32 → MH → (Int32 → MH → Prop) → Prop} {d d2 : Nat} (hd : 3 ≤ d) (hd2 : d2 < d) (hPX10_leastFor : ∀ (y0 : Nat) (y1 : Int32) (y2 : Int32) (h : MH) (Q : Int32 → MH → Prop), PX10_leastFor y0 y1 y2 h Q → Cm MX10_leastFor d2 0 0 [.ref (y0), .int (y1), .int (y2)] h (pI Q)) (x0 : Nat) (x1 : Int32) (x2 : Int32) (h : MH) (Q : Int32 → MH → Prop) (hw : wX10_leastFor PX10_leastFor x0 x1 x2 h Q) : Cm MX10_leastFor d 0 0 [.ref (x0), .int (x1), .int (x2)] h (pI Q) := by
  refine cm_of [some (.ref (x0)), some (.int (x1)), some (.int (x2)), none, none, none] rfl pnX10 (Nat.le_of_ble_eq_true rfl) rfl ?_
  unfold wX10_leastFor at hw
  refine q_aload_nr eX10_leastFor_0 rfl ?_
  obtain ⟨hs1, hw⟩ := hw
  obtain ⟨a2, hr3, hw⟩ := hw
  refine q_getR flX10_55 rfl hs1 hr3 eX10_leastFor_1 ?_
  refine q_iload_n eX10_leastFor_4 rfl ?_
  obtain ⟨n5, hs4, hw⟩ := hw
  obtain ⟨hi6, hw⟩ := hw
  refine q_iald hs4 hi6 eX10_leastFor_5 ?_
  refine q_iconst (v := (-1 : Int32)) eX10_leastFor_6 (by decide) ?_
  obtain ⟨hw1, hw2⟩ := hw
  refine q_icmp_eq (tgt := 17) eX10_leastFor_7 (by decide) (fun c => ?_) (fun c => ?_)
  · have hw := hw1 c
    refine q_iload_n eX10_leastFor_17 rfl ?_
    obtain ⟨hw1, hw2⟩ := hw
    refine q_if_ne (tgt := 25) eX10_leastFor_18 (by decide) (fun c => ?_) (fun c => ?_)
    · have hw := hw1 c
      refine q_ldcw coX10_394 eX10_leastFor_25 ?_
      refine x_istore_n (ls' := [_, _, _, _, _, _]) eX10_leastFor_28 (by decide) rfl rfl ?_
      refine q_iconst (v := nI 0) eX10_leastFor_29 (by decide) ?_
      refine x_istore (ls' := [_, _, _, _, _, _]) eX10_leastFor_30 (by decide) rfl rfl ?_
      refine q_le (ls' := [some _, some _, some _, some _, some _, none]) ⟨rfl, rfl, rfl, rfl, rfl, trivial⟩ ?_
      obtain ⟨m32, hw⟩ := hw
      exact tX10_leastFor_32 hd hd2 hPX10_leastFor m32 _ _ _ _ _ _ hw
    · have hw := hw2 c
      refine q_iconst (v := nI 0) eX10_leastFor_21 (by decide) ?_
      refine q_goto (tgt := 28) eX10_leastFor_22 (by decide) ?_
      refine x_istore_n (ls' := [_, _, _, _, _, _]) eX10_leastFor_28 (by decide) rfl rfl ?_
      refine q_iconst (v := nI 0) eX10_leastFor_29 (by decide) ?_
      refine x_istore (ls' := [_, _, _, _, _, _]) eX10_leastFor_30 (by decide) rfl rfl ?_
      refine q_le (ls' := [some _, some _, some _, some _, some _, none]) ⟨rfl, rfl, rfl, rfl, rfl, trivial⟩ ?_
      obtain ⟨m33, hw⟩ := hw
      exact tX10_leastFor_32 hd hd2 hPX10_leastFor m33 _ _ _ _ _ _ hw
  · have hw := hw2 c
    refine q_aload_nr eX10_leastFor_10 rfl ?_
    refine q_getR flX10_55 rfl hs1 hr3 eX10_leastFor_11 ?_
    refine q_iload_n eX10_leastFor_14 rfl ?_
    obtain ⟨hi34, hw⟩ := hw
    refine q_iald hs4 hi34 eX10_leastFor_15 ?_
    exact q_ret rfl eX10_leastFor_16 ⟨_, rfl, hw⟩
def wX10_laysYet_67 (Q : Int32 → MH → Prop) (K61 : Nat → Int32 → Int32 → MH → Prop) : Nat → Nat → Int32 → Int32 → Int32 → MH → Prop
  | 0, _, _, _, _, _ => False
  | n + 1, x0, x1, x2, x3, h => hS h x0 = (1, 10) ∧ wX10_firstLack x0 x2 h (fun r8 h9 => hS h9 x0 = (1, 10) ∧ wX10_useOf x0 x3 r8 h9 (fun r11 h12 => (r11 = 0 → wX10_laysYet_67 Q K61 n x0 x1 x2 (x3 + nI 1) h12) ∧ (¬ (r11 = 0) → hS h12 x0 = (1, 10) ∧ wX10_lackWith x0 x2 x3 h12 (fun r14 h15 => hS h15 x0 = (1, 10) ∧ Cm MX10_leastFor 300 0 0 [.ref (x0), .int (r14), .int (x1)] h15 (pI fun r17 h18 => hS h18 x0 = (1, 10) ∧ wX10_priceOf x0 x3 x1 h18 (fun r20 h21 => hS h21 x0 = (1, 10) ∧ ∃ a23, hR h21 x0 27 = some a23 ∧ ∃ n26, hS h21 a23 = (2, n26) ∧ vp_in (x2) n26 ∧ ((r17 + r20) = hI h21 a23 (x2).toNatClampNeg → ∃ a28, hR h21 x0 28 = some a28 ∧ ∃ n31, hS h21 a28 = (2, n31) ∧ vp_in (x3) n31 ∧ vp_in (x3) n31 ∧ ∀ h34, h34 = sI h21 a28 (x3).toNatClampNeg ((hI h21 a28 (x3).toNatClampNeg + nI 1)) → wX10_lackWith x0 x2 x3 h34 (fun r35 h36 => K61 x0 x1 r35 h36)) ∧ (¬ ((r17 + r20) = hI h21 a23 (x2).toNatClampNeg) → wX10_laysYet_67 Q K61 n x0 x1 x2 (x3 + nI 1) h21)))))))
set_option maxHeartbeats 4000000 in
set_option maxRecDepth 100000 in
theorem tX10_laysYet_67 {Q : Int32 → MH → Prop} {K61 : Nat → Int32 → Int32 → MH → Prop} (hK61 : ∀ (h : MH) (x0 : Nat) (x1 : Int32) (x2 : Int32), K61 x0 x1 x2 h → Wm MX10_laysYet 301 0 0 61 [some (.ref (x0)), some (.int (x1)), some (.int (x2)), none] [] h (pI Q)) : ∀ (n : Nat) (h : MH) (x0 : Nat) (x1 : Int32) (x2 : Int32) (x3 : Int32), wX10_laysYet_67 Q K61 n x0 x1 x2 x3 h → Wm MX10_laysYet 301 0 0 67 [some (.ref (x0)), some (.int (x1)), some (.int (x2)), some (.int (x3))] [] h (pI Q) := by
  intro n
  induction n with
  | zero => intro h x0 x1 x2 x3 hw; exact hw.elim
  | succ n ih =>
    intro h x0 x1 x2 x3 hw
    unfold wX10_laysYet_67 at hw
    refine q_aload_nr eX10_laysYet_67 rfl ?_
    refine q_iload_n eX10_laysYet_68 rfl ?_
    refine q_aload_nr eX10_laysYet_69 rfl ?_
    refine q_iload_n eX10_laysYet_70 rfl ?_
    obtain ⟨hs7, hw⟩ := hw
    refine q_callV (b := 0) (t := 0) (gX10_firstLack _ _ _ _ hw) mlX10_395 kX10_firstLack vX10_firstLack rfl hs7 ⟨rfl, rfl⟩ (by decide) rfl (Nat.le_of_ble_eq_true rfl) eX10_laysYet_71 (kI fun r8 h9 hw => ?_)
    obtain ⟨hs10, hw⟩ := hw
    refine q_callV (b := 0) (t := 0) (gX10_useOf _ _ _ _ _ hw) mlX10_254 kX10_useOf vX10_useOf rfl hs10 ⟨rfl, rfl⟩ (by decide) rfl (Nat.le_of_ble_eq_true rfl) eX10_laysYet_74 (kI fun r11 h12 hw => ?_)
    obtain ⟨hw1, hw2⟩ := hw
    refine q_if_eq (tgt := 107) eX10_laysYet_77 (by decide) (fun c => ?_) (fun c => ?_)
    · have hw := hw1 c
      refine x_iinc (v := (x3 + nI 1)) (ls' := [_, _, _, _]) eX10_laysYet_107 rfl rfl rfl rfl ?_
      refine q_goto (tgt := 67) eX10_laysYet_110 (by decide) ?_
      refine q_le (ls' := [some _, some _, some _, some _]) ⟨rfl, rfl, rfl, rfl, trivial⟩ ?_
      exact ih _ _ _ _ _ hw
    · have hw := hw2 c
      refine q_aload_nr eX10_laysYet_80 rfl ?_
      refine q_aload_nr eX10_laysYet_81 rfl ?_
      refine q_iload_n eX10_laysYet_82 rfl ?_
      refine q_iload_n eX10_laysYet_83 rfl ?_
      obtain ⟨hs13, hw⟩ := hw
      refine q_callV (b := 0) (t := 0) (gX10_lackWith _ _ _ _ _ hw) mlX10_398 kX10_lackWith vX10_lackWith rfl hs13 ⟨rfl, rfl⟩ (by decide) rfl (Nat.le_of_ble_eq_true rfl) eX10_laysYet_84 (kI fun r14 h15 hw => ?_)
      refine q_iload_n eX10_laysYet_87 rfl ?_
      obtain ⟨hs16, hw⟩ := hw
      refine q_callV (b := 0) (t := 0) hw mlX10_401 kX10_leastFor vX10_leastFor rfl hs16 ⟨rfl, rfl⟩ (by decide) rfl (Nat.le_of_ble_eq_true rfl) eX10_laysYet_88 (kI fun r17 h18 hw => ?_)
      refine q_aload_nr eX10_laysYet_91 rfl ?_
      refine q_iload_n eX10_laysYet_92 rfl ?_
      refine q_iload_n eX10_laysYet_93 rfl ?_
      obtain ⟨hs19, hw⟩ := hw
      refine q_callV (b := 0) (t := 0) (gX10_priceOf _ _ _ _ _ hw) mlX10_404 kX10_priceOf vX10_priceOf rfl hs19 ⟨rfl, rfl⟩ (by decide) rfl (Nat.le_of_ble_eq_true rfl) eX10_laysYet_94 (kI fun r20 h21 hw => ?_)
      refine q_iadd eX10_laysYet_97 ?_
      refine q_aload_nr eX10_laysYet_98 rfl ?_
      obtain ⟨hs22, hw⟩ := hw
      obtain ⟨a23, hr24, hw⟩ := hw
      refine q_getR flX10_55 rfl hs22 hr24 eX10_laysYet_99 ?_
      refine q_iload_n eX10_laysYet_102 rfl ?_
      obtain ⟨n26, hs25, hw⟩ := hw
      obtain ⟨hi27, hw⟩ := hw
      refine q_iald hs25 hi27 eX10_laysYet_103 ?_
      obtain ⟨hw1, hw2⟩ := hw
      refine q_icmp_eq (tgt := 113) eX10_laysYet_104 (by decide) (fun c => ?_) (fun c => ?_)
      · have hw := hw1 c
        refine q_aload_nr eX10_laysYet_113 rfl ?_
        obtain ⟨a28, hr29, hw⟩ := hw
        refine q_getR flX10_58 rfl hs22 hr29 eX10_laysYet_114 ?_
        refine q_iload_n eX10_laysYet_117 rfl ?_
        refine q_dup2 eX10_laysYet_118 rfl rfl ?_
        obtain ⟨n31, hs30, hw⟩ := hw
        obtain ⟨hi32, hw⟩ := hw
        refine q_iald hs30 hi32 eX10_laysYet_119 ?_
        refine q_iconst (v := nI 1) eX10_laysYet_120 (by decide) ?_
        refine q_iadd eX10_laysYet_121 ?_
        obtain ⟨hi33, hw⟩ := hw
        have hw := hw _ rfl
        refine q_iast hs30 hi33 eX10_laysYet_122 ?_
        refine q_aload_nr eX10_laysYet_123 rfl ?_
        refine q_iload_n eX10_laysYet_124 rfl ?_
        refine q_iload_n eX10_laysYet_125 rfl ?_
        refine q_callV (b := 0) (t := 0) (gX10_lackWith _ _ _ _ _ hw) mlX10_398 kX10_lackWith vX10_lackWith rfl hs22 ⟨rfl, rfl⟩ (by decide) rfl (Nat.le_of_ble_eq_true rfl) eX10_laysYet_126 (kI fun r35 h36 hw => ?_)
        refine x_istore_n (ls' := [_, _, _, _]) eX10_laysYet_129 (by decide) rfl rfl ?_
        refine q_goto (tgt := 61) eX10_laysYet_130 (by decide) ?_
        refine q_le (ls' := [some _, some _, some _, none]) ⟨rfl, rfl, rfl, trivial⟩ ?_
        exact hK61 _ _ _ _ hw
      · have hw := hw2 c
        refine x_iinc (v := (x3 + nI 1)) (ls' := [_, _, _, _]) eX10_laysYet_107 rfl rfl rfl rfl ?_
        refine q_goto (tgt := 67) eX10_laysYet_110 (by decide) ?_
        refine q_le (ls' := [some _, some _, some _, some _]) ⟨rfl, rfl, rfl, rfl, trivial⟩ ?_
        exact ih _ _ _ _ _ hw
def wX10_laysYet_61 (Q : Int32 → MH → Prop) : Nat → Nat → Int32 → Int32 → MH → Prop
  | 0, _, _, _, _ => False
  | n + 1, x0, x1, x2, h => (x2 ≤ 0 → Q (nI 1) h) ∧ (¬ (x2 ≤ 0) → ∃ m37, wX10_laysYet_67 Q (wX10_laysYet_61 Q n) m37 x0 x1 x2 (nI 0) h)
set_option maxHeartbeats 4000000 in
set_option maxRecDepth 100000 in
theorem tX10_laysYet_61 {Q : Int32 → MH → Prop} : ∀ (n : Nat) (h : MH) (x0 : Nat) (x1 : Int32) (x2 : Int32), wX10_laysYet_61 Q n x0 x1 x2 h → Wm MX10_laysYet 301 0 0 61 [some (.ref (x0)), some (.int (x1)), some (.int (x2)), none] [] h (pI Q) := by
  intro n
  induction n with
  | zero => intro h x0 x1 x2 hw; exact hw.elim
  | succ n ih =>
    intro h x0 x1 x2 hw
    unfold wX10_laysYet_61 at hw
    refine q_iload_n eX10_laysYet_61 rfl ?_
    obtain ⟨hw1, hw2⟩ := hw
    refine q_if_le (tgt := 133) eX10_laysYet_62 (by decide) (fun c => ?_) (fun c => ?_)
    · have hw := hw1 c
      refine q_iconst (v := nI 1) eX10_laysYet_133 (by decide) ?_
      exact q_retZ rfl (by decide) eX10_laysYet_134 ⟨_, rfl, hw⟩
    · have hw := hw2 c
      refine q_iconst (v := nI 0) eX10_laysYet_65 (by decide) ?_
      refine x_istore_n (ls' := [_, _, _, _]) eX10_laysYet_66 (by decide) rfl rfl ?_
      refine q_le (ls' := [some _, some _, some _, some _]) ⟨rfl, rfl, rfl, rfl, trivial⟩ ?_
      obtain ⟨m37, hw⟩ := hw
      exact tX10_laysYet_67 ih m37 _ _ _ _ _ hw
def wX10_laysYet_23 (Q : Int32 → MH → Prop) : Nat → Nat → Int32 → Int32 → MH → Prop
  | 0, _, _, _, _ => False
  | n + 1, x0, x1, x2, h => (nI 64 ≤ x2 → hS h x0 = (1, 10) ∧ wX10_lackNow x0 h (fun r2 h3 => hS h3 x0 = (1, 10) ∧ Cm MX10_leastFor 300 0 0 [.ref (x0), .int (r2), .int (x1)] h3 (pI fun r5 h6 => (¬ (r5 = (268435456 : Int32)) → ∃ m38, wX10_laysYet_61 Q m38 x0 x1 r2 h6) ∧ (r5 = (268435456 : Int32) → Q (nI 0) h6)))) ∧ (¬ (nI 64 ≤ x2) → hS h x0 = (1, 10) ∧ ∃ a40, hR h x0 28 = some a40 ∧ ∃ n43, hS h a40 = (2, n43) ∧ vp_in (x2) n43 ∧ ∀ h45, h45 = sI h a40 (x2).toNatClampNeg (nI 0) → wX10_laysYet_23 Q n x0 x1 (x2 + nI 1) h45)
set_option maxHeartbeats 4000000 in
set_option maxRecDepth 100000 in
theorem tX10_laysYet_23 {Q : Int32 → MH → Prop} : ∀ (n : Nat) (h : MH) (x0 : Nat) (x1 : Int32) (x2 : Int32), wX10_laysYet_23 Q n x0 x1 x2 h → Wm MX10_laysYet 301 0 0 23 [some (.ref (x0)), some (.int (x1)), some (.int (x2)), none] [] h (pI Q) := by
  intro n
  induction n with
  | zero => intro h x0 x1 x2 hw; exact hw.elim
  | succ n ih =>
    intro h x0 x1 x2 hw
    unfold wX10_laysYet_23 at hw
    refine q_iload_n eX10_laysYet_23 rfl ?_
    refine q_bipush (v := nI 64) eX10_laysYet_24 (by decide) ?_
    obtain ⟨hw1, hw2⟩ := hw
    refine q_icmp_ge (tgt := 42) eX10_laysYet_26 (by decide) (fun c => ?_) (fun c => ?_)
    · have hw := hw1 c
      refine q_aload_nr eX10_laysYet_42 rfl ?_
      obtain ⟨hs1, hw⟩ := hw
      refine q_callV (b := 0) (t := 0) (gX10_lackNow _ _ _ hw) mlX10_407 kX10_lackNow vX10_lackNow rfl hs1 ⟨rfl, rfl⟩ (by decide) rfl (Nat.le_of_ble_eq_true rfl) eX10_laysYet_43 (kI fun r2 h3 hw => ?_)
      refine x_istore_n (ls' := [_, _, _, _]) eX10_laysYet_46 (by decide) rfl rfl ?_
      refine q_aload_nr eX10_laysYet_47 rfl ?_
      refine q_iload_n eX10_laysYet_48 rfl ?_
      refine q_iload_n eX10_laysYet_49 rfl ?_
      obtain ⟨hs4, hw⟩ := hw
      refine q_callV (b := 0) (t := 0) hw mlX10_401 kX10_leastFor vX10_leastFor rfl hs4 ⟨rfl, rfl⟩ (by decide) rfl (Nat.le_of_ble_eq_true rfl) eX10_laysYet_50 (kI fun r5 h6 hw => ?_)
      refine q_ldcw coX10_394 eX10_laysYet_53 ?_
      obtain ⟨hw1, hw2⟩ := hw
      refine q_icmp_ne (tgt := 61) eX10_laysYet_56 (by decide) (fun c => ?_) (fun c => ?_)
      · have hw := hw1 c
        refine q_le (ls' := [some _, some _, some _, none]) ⟨rfl, rfl, rfl, trivial⟩ ?_
        obtain ⟨m38, hw⟩ := hw
        exact tX10_laysYet_61 m38 _ _ _ _ hw
      · have hw := hw2 c
        refine q_iconst (v := nI 0) eX10_laysYet_59 (by decide) ?_
        exact q_retZ rfl (by decide) eX10_laysYet_60 ⟨_, rfl, hw⟩
    · have hw := hw2 c
      refine q_aload_nr eX10_laysYet_29 rfl ?_
      obtain ⟨hs39, hw⟩ := hw
      obtain ⟨a40, hr41, hw⟩ := hw
      refine q_getR flX10_58 rfl hs39 hr41 eX10_laysYet_30 ?_
      refine q_iload_n eX10_laysYet_33 rfl ?_
      refine q_iconst (v := nI 0) eX10_laysYet_34 (by decide) ?_
      obtain ⟨n43, hs42, hw⟩ := hw
      obtain ⟨hi44, hw⟩ := hw
      have hw := hw _ rfl
      refine q_iast hs42 hi44 eX10_laysYet_35 ?_
      refine x_iinc (v := (x2 + nI 1)) (ls' := [_, _, _, _]) eX10_laysYet_36 rfl rfl rfl rfl ?_
      refine q_goto (tgt := 23) eX10_laysYet_39 (by decide) ?_
      refine q_le (ls' := [some _, some _, some _, none]) ⟨rfl, rfl, rfl, trivial⟩ ?_
      exact ih _ _ _ _ hw
def wX10_laysYet_2 (Q : Int32 → MH → Prop) : Nat → Nat → Int32 → Int32 → MH → Prop
  | 0, _, _, _, _ => False
  | n + 1, x0, x1, x2, h => ((59049 : Int32) ≤ x2 → ∃ m46, wX10_laysYet_23 Q m46 x0 x1 (nI 0) h) ∧ (¬ ((59049 : Int32) ≤ x2) → hS h x0 = (1, 10) ∧ ∃ a48, hR h x0 27 = some a48 ∧ ∃ n51, hS h a48 = (2, n51) ∧ vp_in (x2) n51 ∧ ∀ h53, h53 = sI h a48 (x2).toNatClampNeg ((-1 : Int32)) → wX10_laysYet_2 Q n x0 x1 (x2 + nI 1) h53)
set_option maxHeartbeats 4000000 in
set_option maxRecDepth 100000 in
theorem tX10_laysYet_2 {Q : Int32 → MH → Prop} : ∀ (n : Nat) (h : MH) (x0 : Nat) (x1 : Int32) (x2 : Int32), wX10_laysYet_2 Q n x0 x1 x2 h → Wm MX10_laysYet 301 0 0 2 [some (.ref (x0)), some (.int (x1)), some (.int (x2)), none] [] h (pI Q) := by
  intro n
  induction n with
  | zero => intro h x0 x1 x2 hw; exact hw.elim
  | succ n ih =>
    intro h x0 x1 x2 hw
    unfold wX10_laysYet_2 at hw
    refine q_iload_n eX10_laysYet_2 rfl ?_
    refine q_ldc coX10_54 eX10_laysYet_3 ?_
    obtain ⟨hw1, hw2⟩ := hw
    refine q_icmp_ge (tgt := 21) eX10_laysYet_5 (by decide) (fun c => ?_) (fun c => ?_)
    · have hw := hw1 c
      refine q_iconst (v := nI 0) eX10_laysYet_21 (by decide) ?_
      refine x_istore_n (ls' := [_, _, _, _]) eX10_laysYet_22 (by decide) rfl rfl ?_
      refine q_le (ls' := [some _, some _, some _, none]) ⟨rfl, rfl, rfl, trivial⟩ ?_
      obtain ⟨m46, hw⟩ := hw
      exact tX10_laysYet_23 m46 _ _ _ _ hw
    · have hw := hw2 c
      refine q_aload_nr eX10_laysYet_8 rfl ?_
      obtain ⟨hs47, hw⟩ := hw
      obtain ⟨a48, hr49, hw⟩ := hw
      refine q_getR flX10_55 rfl hs47 hr49 eX10_laysYet_9 ?_
      refine q_iload_n eX10_laysYet_12 rfl ?_
      refine q_iconst (v := (-1 : Int32)) eX10_laysYet_13 (by decide) ?_
      obtain ⟨n51, hs50, hw⟩ := hw
      obtain ⟨hi52, hw⟩ := hw
      have hw := hw _ rfl
      refine q_iast hs50 hi52 eX10_laysYet_14 ?_
      refine x_iinc (v := (x2 + nI 1)) (ls' := [_, _, _, _]) eX10_laysYet_15 rfl rfl rfl rfl ?_
      refine q_goto (tgt := 2) eX10_laysYet_18 (by decide) ?_
      refine q_le (ls' := [some _, some _, some _, none]) ⟨rfl, rfl, rfl, trivial⟩ ?_
      exact ih _ _ _ _ hw
def wX10_laysYet (x0 : Nat) (x1 : Int32) (h : MH) (Q : Int32 → MH → Prop) : Prop := ∃ m54, wX10_laysYet_2 Q m54 x0 x1 (nI 0) h
set_option maxHeartbeats 4000000 in
set_option maxRecDepth 100000 in
theorem gX10_laysYet (x0 : Nat) (x1 : Int32) (h : MH) (Q : Int32 → MH → Prop) (hw : wX10_laysYet x0 x1 h Q) : Cm MX10_laysYet 301 0 0 [.ref (x0), .int (x1)] h (pI Q) := by
  refine cm_of [some (.ref (x0)), some (.int (x1)), none, none] rfl pnX10 (Nat.le_of_ble_eq_true rfl) rfl ?_
  unfold wX10_laysYet at hw
  refine q_iconst (v := nI 0) eX10_laysYet_0 (by decide) ?_
  refine x_istore_n (ls' := [_, _, _, _]) eX10_laysYet_1 (by decide) rfl rfl ?_
  refine q_le (ls' := [some _, some _, some _, none]) ⟨rfl, rfl, rfl, trivial⟩ ?_
  obtain ⟨m54, hw⟩ := hw
  exact tX10_laysYet_2 m54 _ _ _ _ hw
def wX10_isAim (x0 : Int32) (h : MH) (Q : Int32 → MH → Prop) : Prop := wX10_within ((x0).toInt64) (0 : Int64) (1 : Int64) h (fun r1 h2 => (r1 = 0 ∨ r1 = 1) ∧ Q (r1) h2)
set_option maxHeartbeats 4000000 in
set_option maxRecDepth 100000 in
theorem gX10_isAim (x0 : Int32) (h : MH) (Q : Int32 → MH → Prop) (hw : wX10_isAim x0 h Q) : Cm MX10_isAim 1 0 0 [.int (x0)] h (pI Q) := by
  refine cm_of [some (.int (x0))] rfl pnX10 (Nat.le_of_ble_eq_true rfl) rfl ?_
  unfold wX10_isAim at hw
  refine q_iload_n eX10_isAim_0 rfl ?_
  refine q_i2l eX10_isAim_1 ?_
  refine q_lconst (v := (0 : Int64)) eX10_isAim_2 (by decide) ?_
  refine q_lconst (v := (1 : Int64)) eX10_isAim_3 (by decide) ?_
  refine q_callS (b := 0) (t := 0) (gX10_within _ _ _ _ _ hw) mlX10_149 kX10_within sX10_within rfl (by decide) rfl (Nat.le_of_ble_eq_true rfl) eX10_isAim_4 (kI fun r1 h2 hw => ?_)
  obtain ⟨hz3, hw⟩ := hw
  exact q_retZ rfl hz3 eX10_isAim_7 ⟨_, rfl, hw⟩
def wX10_isCover (x0 : Nat) (h : MH) (Q : Int32 → MH → Prop) : Prop := hS h x0 = (1, 10) ∧ ∀ h2, h2 = sI h x0 0 (nI 0) → wX10_lackNow x0 h2 (fun r3 h4 => Q ((if r3 = 0 then nI 1 else nI 0)) h4)
set_option maxHeartbeats 4000000 in
set_option maxRecDepth 100000 in
theorem gX10_isCover (x0 : Nat) (h : MH) (Q : Int32 → MH → Prop) (hw : wX10_isCover x0 h Q) : Cm MX10_isCover 4 0 0 [.ref (x0)] h (pI Q) := by
  refine cm_of [some (.ref (x0))] rfl pnX10 (Nat.le_of_ble_eq_true rfl) rfl ?_
  unfold wX10_isCover at hw
  refine q_aload_nr eX10_isCover_0 rfl ?_
  refine q_iconst (v := nI 0) eX10_isCover_1 (by decide) ?_
  obtain ⟨hs1, hw⟩ := hw
  have hw := hw _ rfl
  refine q_putI (fwX10_1 _) rfl hs1 eX10_isCover_2 ?_
  refine q_aload_nr eX10_isCover_5 rfl ?_
  refine q_callV (b := 0) (t := 0) (gX10_lackNow _ _ _ hw) mlX10_407 kX10_lackNow vX10_lackNow rfl hs1 ⟨rfl, rfl⟩ (by decide) rfl (Nat.le_of_ble_eq_true rfl) eX10_isCover_6 (kI fun r3 h4 hw => ?_)
  have hj6 : Wm MX10_isCover 4 0 0 17 [some (.ref (x0))] [.int ((if r3 = 0 then nI 1 else nI 0))] h4 (pI Q) := by
    exact q_ret rfl eX10_isCover_17 ⟨_, rfl, hw⟩
  refine q_if_ne (tgt := 16) eX10_isCover_9 (by decide) (fun c => ?_) (fun c => ?_)
  · refine q_iconst (v := nI 0) eX10_isCover_16 (by decide) ?_
    rw [if_neg c] at hj6
    exact hj6
  · refine q_iconst (v := nI 1) eX10_isCover_12 (by decide) ?_
    refine q_goto (tgt := 17) eX10_isCover_13 (by decide) ?_
    rw [if_pos c] at hj6
    exact hj6
