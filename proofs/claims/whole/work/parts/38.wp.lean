/-! ===== methods: what each needs and does (by program) ===== -/
def wX10_cost_9 (Q : Int32 → MH → Prop) : Nat → Nat → Int32 → Int32 → MH → Prop
  | 0, _, _, _, _ => False
  | n + 1, x0, x1, x2, h => hS h x0 = (1, 10) ∧ (hI h x0 23 ≤ x2 → Q (x1) h) ∧ (¬ (hI h x0 23 ≤ x2) → ∃ a4, hR h x0 1 = some a4 ∧ ∃ n7, hS h a4 = (2, n7) ∧ vp_in ((nI 49 + x2)) n7 ∧ ∃ a9, hR h x0 21 = some a9 ∧ ∃ n12, hS h a9 = (2, n12) ∧ vp_in (x2) n12 ∧ ∀ v14, v14 = (x1 + (hI h a4 ((nI 49 + x2)).toNatClampNeg * hI h a9 (x2).toNatClampNeg)) → wX10_cost_9 Q n x0 v14 (x2 + nI 1) h)
set_option maxHeartbeats 4000000 in
set_option maxRecDepth 100000 in
theorem tX10_cost_9 {Q : Int32 → MH → Prop} : ∀ (n : Nat) (h : MH) (x0 : Nat) (x1 : Int32) (x2 : Int32), wX10_cost_9 Q n x0 x1 x2 h → Wm MX10_cost 0 0 0 9 [some (.ref (x0)), some (.int (x1)), some (.int (x2))] [] h (pI Q) := by
  intro n
  induction n with
  | zero => intro h x0 x1 x2 hw; exact hw.elim
  | succ n ih =>
    intro h x0 x1 x2 hw
    unfold wX10_cost_9 at hw
    refine q_iload_n eX10_cost_9 rfl ?_
    refine q_aload_nr eX10_cost_10 rfl ?_
    obtain ⟨hs3, hw⟩ := hw
    refine q_getI flX10_216 rfl hs3 eX10_cost_11 ?_
    obtain ⟨hw1, hw2⟩ := hw
    refine q_icmp_ge (tgt := 42) eX10_cost_14 (by decide) (fun c => ?_) (fun c => ?_)
    · have hw := hw1 c
      refine q_iload_n eX10_cost_42 rfl ?_
      exact q_ret rfl eX10_cost_43 ⟨_, rfl, hw⟩
    · have hw := hw2 c
      refine q_iload_n eX10_cost_17 rfl ?_
      refine q_aload_nr eX10_cost_18 rfl ?_
      obtain ⟨a4, hr5, hw⟩ := hw
      refine q_getR flX10_13 rfl hs3 hr5 eX10_cost_19 ?_
      refine q_bipush (v := nI 49) eX10_cost_22 (by decide) ?_
      refine q_iload_n eX10_cost_24 rfl ?_
      refine q_iadd eX10_cost_25 ?_
      obtain ⟨n7, hs6, hw⟩ := hw
      obtain ⟨hi8, hw⟩ := hw
      refine q_iald hs6 hi8 eX10_cost_26 ?_
      refine q_aload_nr eX10_cost_27 rfl ?_
      obtain ⟨a9, hr10, hw⟩ := hw
      refine q_getR flX10_45 rfl hs3 hr10 eX10_cost_28 ?_
      refine q_iload_n eX10_cost_31 rfl ?_
      obtain ⟨n12, hs11, hw⟩ := hw
      obtain ⟨hi13, hw⟩ := hw
      refine q_iald hs11 hi13 eX10_cost_32 ?_
      refine q_imul eX10_cost_33 ?_
      refine q_iadd eX10_cost_34 ?_
      have hw := hw _ rfl
      refine x_istore_n (ls' := [_, _, _]) eX10_cost_35 (by decide) rfl rfl ?_
      refine x_iinc (v := (x2 + nI 1)) (ls' := [_, _, _]) eX10_cost_36 rfl rfl rfl rfl ?_
      refine q_goto (tgt := 9) eX10_cost_39 (by decide) ?_
      refine q_le (ls' := [some _, some _, some _]) ⟨rfl, rfl, rfl, trivial⟩ ?_
      exact ih _ _ _ _ hw
def wX10_cost (x0 : Nat) (h : MH) (Q : Int32 → MH → Prop) : Prop := hS h x0 = (1, 10) ∧ ∀ h2, h2 = sI h x0 0 (nI 0) → ∃ m15, wX10_cost_9 Q m15 x0 (nI 0) (nI 0) h2
set_option maxHeartbeats 4000000 in
set_option maxRecDepth 100000 in
theorem gX10_cost (x0 : Nat) (h : MH) (Q : Int32 → MH → Prop) (hw : wX10_cost x0 h Q) : Cm MX10_cost 0 0 0 [.ref (x0)] h (pI Q) := by
  refine cm_of [some (.ref (x0)), none, none] rfl pnX10 (Nat.le_of_ble_eq_true rfl) rfl ?_
  unfold wX10_cost at hw
  refine q_aload_nr eX10_cost_0 rfl ?_
  refine q_iconst (v := nI 0) eX10_cost_1 (by decide) ?_
  obtain ⟨hs1, hw⟩ := hw
  have hw := hw _ rfl
  refine q_putI (fwX10_1 _) rfl hs1 eX10_cost_2 ?_
  refine q_iconst (v := nI 0) eX10_cost_5 (by decide) ?_
  refine x_istore_n (ls' := [_, _, _]) eX10_cost_6 (by decide) rfl rfl ?_
  refine q_iconst (v := nI 0) eX10_cost_7 (by decide) ?_
  refine x_istore_n (ls' := [_, _, _]) eX10_cost_8 (by decide) rfl rfl ?_
  refine q_le (ls' := [some _, some _, some _]) ⟨rfl, rfl, rfl, trivial⟩ ?_
  obtain ⟨m15, hw⟩ := hw
  exact tX10_cost_9 m15 _ _ _ _ hw
def wX10_yet_40 (Q : Int32 → MH → Prop) : Nat → Nat → Int32 → Int32 → Int32 → MH → Prop
  | 0, _, _, _, _, _ => False
  | n + 1, x0, x2, x3, x4, h => hS h x0 = (1, 10) ∧ (hI h x0 23 ≤ x4 → Q (x3) h) ∧ (¬ (hI h x0 23 ≤ x4) → ∃ a11, hR h x0 28 = some a11 ∧ ∃ n14, hS h a11 = (2, n14) ∧ vp_in (x4) n14 ∧ wX10_priceOf x0 x4 x2 h (fun r16 h17 => ∀ v18, v18 = (x3 + (hI h a11 (x4).toNatClampNeg * r16)) → wX10_yet_40 Q n x0 x2 v18 (x4 + nI 1) h17))
set_option maxHeartbeats 4000000 in
set_option maxRecDepth 100000 in
theorem tX10_yet_40 {Q : Int32 → MH → Prop} : ∀ (n : Nat) (h : MH) (x0 : Nat) (x2 : Int32) (x3 : Int32) (x4 : Int32), wX10_yet_40 Q n x0 x2 x3 x4 h → Wm MX10_yet 302 0 0 40 [some (.ref (x0)), none, some (.int (x2)), some (.int (x3)), some (.int (x4))] [] h (pI Q) := by
  intro n
  induction n with
  | zero => intro h x0 x2 x3 x4 hw; exact hw.elim
  | succ n ih =>
    intro h x0 x2 x3 x4 hw
    unfold wX10_yet_40 at hw
    refine q_iload eX10_yet_40 rfl ?_
    refine q_aload_nr eX10_yet_42 rfl ?_
    obtain ⟨hs10, hw⟩ := hw
    refine q_getI flX10_216 rfl hs10 eX10_yet_43 ?_
    obtain ⟨hw1, hw2⟩ := hw
    refine q_icmp_ge (tgt := 73) eX10_yet_46 (by decide) (fun c => ?_) (fun c => ?_)
    · have hw := hw1 c
      refine q_iload_n eX10_yet_73 rfl ?_
      exact q_ret rfl eX10_yet_74 ⟨_, rfl, hw⟩
    · have hw := hw2 c
      refine q_iload_n eX10_yet_49 rfl ?_
      refine q_aload_nr eX10_yet_50 rfl ?_
      obtain ⟨a11, hr12, hw⟩ := hw
      refine q_getR flX10_58 rfl hs10 hr12 eX10_yet_51 ?_
      refine q_iload eX10_yet_54 rfl ?_
      obtain ⟨n14, hs13, hw⟩ := hw
      obtain ⟨hi15, hw⟩ := hw
      refine q_iald hs13 hi15 eX10_yet_56 ?_
      refine q_aload_nr eX10_yet_57 rfl ?_
      refine q_iload eX10_yet_58 rfl ?_
      refine q_iload_n eX10_yet_60 rfl ?_
      refine q_callV (b := 0) (t := 0) (gX10_priceOf _ _ _ _ _ hw) mlX10_404 kX10_priceOf vX10_priceOf rfl hs10 ⟨rfl, rfl⟩ (by decide) rfl (Nat.le_of_ble_eq_true rfl) eX10_yet_61 (kI fun r16 h17 hw => ?_)
      refine q_imul eX10_yet_64 ?_
      refine q_iadd eX10_yet_65 ?_
      have hw := hw _ rfl
      refine x_istore_n (ls' := [_, _, _, _, _]) eX10_yet_66 (by decide) rfl rfl ?_
      refine x_iinc (v := (x4 + nI 1)) (ls' := [_, _, _, _, _]) eX10_yet_67 rfl rfl rfl rfl ?_
      refine q_goto (tgt := 40) eX10_yet_70 (by decide) ?_
      refine q_le (ls' := [some _, none, some _, some _, some _]) ⟨rfl, rfl, rfl, rfl, trivial⟩ ?_
      exact ih _ _ _ _ _ hw
def wX10_yet (x0 : Nat) (x1 : Int32) (x2 : Int32) (h : MH) (Q : Int32 → MH → Prop) : Prop := hS h x0 = (1, 10) ∧ ∀ h2, h2 = sI h x0 0 (nI 0) → wX10_isAim x1 h2 (fun r3 h4 => (r3 = 0 → Q ((-2 : Int32)) h4) ∧ (¬ (r3 = 0) → wX10_within ((x2).toInt64) (0 : Int64) (1 : Int64) h4 (fun r5 h6 => (¬ (r5 = 0) → hS h6 x0 = (1, 10) ∧ wX10_laysYet x0 x1 h6 (fun r8 h9 => (¬ (r8 = 0) → ∃ m19, wX10_yet_40 Q m19 x0 x2 (nI 0) (nI 0) h9) ∧ (r8 = 0 → Q ((-1 : Int32)) h9))) ∧ (r5 = 0 → Q ((-2 : Int32)) h6))))
set_option maxHeartbeats 4000000 in
set_option maxRecDepth 100000 in
theorem gX10_yet (x0 : Nat) (x1 : Int32) (x2 : Int32) (h : MH) (Q : Int32 → MH → Prop) (hw : wX10_yet x0 x1 x2 h Q) : Cm MX10_yet 302 0 0 [.ref (x0), .int (x1), .int (x2)] h (pI Q) := by
  refine cm_of [some (.ref (x0)), some (.int (x1)), some (.int (x2)), none, none] rfl pnX10 (Nat.le_of_ble_eq_true rfl) rfl ?_
  unfold wX10_yet at hw
  refine q_aload_nr eX10_yet_0 rfl ?_
  refine q_iconst (v := nI 0) eX10_yet_1 (by decide) ?_
  obtain ⟨hs1, hw⟩ := hw
  have hw := hw _ rfl
  refine q_putI (fwX10_1 _) rfl hs1 eX10_yet_2 ?_
  refine q_iload_n eX10_yet_5 rfl ?_
  refine q_callS (b := 0) (t := 0) (gX10_isAim _ _ _ hw) mlX10_410 kX10_isAim sX10_isAim rfl (by decide) rfl (Nat.le_of_ble_eq_true rfl) eX10_yet_6 (kI fun r3 h4 hw => ?_)
  obtain ⟨hw1, hw2⟩ := hw
  refine q_if_eq (tgt := 22) eX10_yet_9 (by decide) (fun c => ?_) (fun c => ?_)
  · have hw := hw1 c
    refine q_bipush (v := (-2 : Int32)) eX10_yet_22 (by decide) ?_
    exact q_ret rfl eX10_yet_24 ⟨_, rfl, hw⟩
  · have hw := hw2 c
    refine q_iload_n eX10_yet_12 rfl ?_
    refine q_i2l eX10_yet_13 ?_
    refine q_lconst (v := (0 : Int64)) eX10_yet_14 (by decide) ?_
    refine q_lconst (v := (1 : Int64)) eX10_yet_15 (by decide) ?_
    refine q_callS (b := 0) (t := 0) (gX10_within _ _ _ _ _ hw) mlX10_149 kX10_within sX10_within rfl (by decide) rfl (Nat.le_of_ble_eq_true rfl) eX10_yet_16 (kI fun r5 h6 hw => ?_)
    obtain ⟨hw1, hw2⟩ := hw
    refine q_if_ne (tgt := 25) eX10_yet_19 (by decide) (fun c => ?_) (fun c => ?_)
    · have hw := hw1 c
      refine q_aload_nr eX10_yet_25 rfl ?_
      refine q_iload_n eX10_yet_26 rfl ?_
      obtain ⟨hs7, hw⟩ := hw
      refine q_callV (b := 0) (t := 0) (gX10_laysYet _ _ _ _ hw) mlX10_413 kX10_laysYet vX10_laysYet rfl hs7 ⟨rfl, rfl⟩ (by decide) rfl (Nat.le_of_ble_eq_true rfl) eX10_yet_27 (kI fun r8 h9 hw => ?_)
      obtain ⟨hw1, hw2⟩ := hw
      refine q_if_ne (tgt := 35) eX10_yet_30 (by decide) (fun c => ?_) (fun c => ?_)
      · have hw := hw1 c
        refine q_iconst (v := nI 0) eX10_yet_35 (by decide) ?_
        refine x_istore_n (ls' := [_, _, _, _, _]) eX10_yet_36 (by decide) rfl rfl ?_
        refine q_iconst (v := nI 0) eX10_yet_37 (by decide) ?_
        refine x_istore (ls' := [_, _, _, _, _]) eX10_yet_38 (by decide) rfl rfl ?_
        refine q_le (ls' := [some _, none, some _, some _, some _]) ⟨rfl, rfl, rfl, rfl, trivial⟩ ?_
        obtain ⟨m19, hw⟩ := hw
        exact tX10_yet_40 m19 _ _ _ _ _ hw
      · have hw := hw2 c
        refine q_iconst (v := (-1 : Int32)) eX10_yet_33 (by decide) ?_
        exact q_ret rfl eX10_yet_34 ⟨_, rfl, hw⟩
    · have hw := hw2 c
      refine q_bipush (v := (-2 : Int32)) eX10_yet_22 (by decide) ?_
      exact q_ret rfl eX10_yet_24 ⟨_, rfl, hw⟩
def wX10_among (x0 : Nat) (x1 : Int32) (x2 : Int32) (h : MH) (Q : Int32 → MH → Prop) : Prop := hS h x0 = (1, 10) ∧ ∀ h2, h2 = sI h x0 0 (nI 0) → wX10_isAim x1 h2 (fun r3 h4 => (r3 = 0 → Q ((-2 : Int32)) h4) ∧ (¬ (r3 = 0) → hS h4 x0 = (1, 10) ∧ wX10_isRing x0 ((x2).toInt64) h4 (fun r6 h7 => (¬ (r6 = 0) → hS h7 x0 = (1, 10) ∧ wX10_laysYet x0 x1 h7 (fun r9 h10 => (r9 = 0 → Q ((-1 : Int32)) h10) ∧ (¬ (r9 = 0) → hS h10 x0 = (1, 10) ∧ ∃ a12, hR h10 x0 28 = some a12 ∧ ∃ n15, hS h10 a12 = (2, n15) ∧ vp_in (x2) n15 ∧ Q (hI h10 a12 (x2).toNatClampNeg) h10))) ∧ (r6 = 0 → Q ((-2 : Int32)) h7))))
set_option maxHeartbeats 4000000 in
set_option maxRecDepth 100000 in
theorem gX10_among (x0 : Nat) (x1 : Int32) (x2 : Int32) (h : MH) (Q : Int32 → MH → Prop) (hw : wX10_among x0 x1 x2 h Q) : Cm MX10_among 302 0 0 [.ref (x0), .int (x1), .int (x2)] h (pI Q) := by
  refine cm_of [some (.ref (x0)), some (.int (x1)), some (.int (x2))] rfl pnX10 (Nat.le_of_ble_eq_true rfl) rfl ?_
  unfold wX10_among at hw
  refine q_aload_nr eX10_among_0 rfl ?_
  refine q_iconst (v := nI 0) eX10_among_1 (by decide) ?_
  obtain ⟨hs1, hw⟩ := hw
  have hw := hw _ rfl
  refine q_putI (fwX10_1 _) rfl hs1 eX10_among_2 ?_
  refine q_iload_n eX10_among_5 rfl ?_
  refine q_callS (b := 0) (t := 0) (gX10_isAim _ _ _ hw) mlX10_410 kX10_isAim sX10_isAim rfl (by decide) rfl (Nat.le_of_ble_eq_true rfl) eX10_among_6 (kI fun r3 h4 hw => ?_)
  obtain ⟨hw1, hw2⟩ := hw
  refine q_if_eq (tgt := 21) eX10_among_9 (by decide) (fun c => ?_) (fun c => ?_)
  · have hw := hw1 c
    refine q_bipush (v := (-2 : Int32)) eX10_among_21 (by decide) ?_
    exact q_ret rfl eX10_among_23 ⟨_, rfl, hw⟩
  · have hw := hw2 c
    refine q_aload_nr eX10_among_12 rfl ?_
    refine q_iload_n eX10_among_13 rfl ?_
    refine q_i2l eX10_among_14 ?_
    obtain ⟨hs5, hw⟩ := hw
    refine q_callV (b := 0) (t := 0) (gX10_isRing _ _ _ _ hw) mlX10_294 kX10_isRing vX10_isRing rfl hs5 ⟨rfl, rfl⟩ (by decide) rfl (Nat.le_of_ble_eq_true rfl) eX10_among_15 (kI fun r6 h7 hw => ?_)
    obtain ⟨hw1, hw2⟩ := hw
    refine q_if_ne (tgt := 24) eX10_among_18 (by decide) (fun c => ?_) (fun c => ?_)
    · have hw := hw1 c
      refine q_aload_nr eX10_among_24 rfl ?_
      refine q_iload_n eX10_among_25 rfl ?_
      obtain ⟨hs8, hw⟩ := hw
      refine q_callV (b := 0) (t := 0) (gX10_laysYet _ _ _ _ hw) mlX10_413 kX10_laysYet vX10_laysYet rfl hs8 ⟨rfl, rfl⟩ (by decide) rfl (Nat.le_of_ble_eq_true rfl) eX10_among_26 (kI fun r9 h10 hw => ?_)
      obtain ⟨hw1, hw2⟩ := hw
      refine q_if_eq (tgt := 41) eX10_among_29 (by decide) (fun c => ?_) (fun c => ?_)
      · have hw := hw1 c
        refine q_iconst (v := (-1 : Int32)) eX10_among_41 (by decide) ?_
        exact q_ret rfl eX10_among_42 ⟨_, rfl, hw⟩
      · have hw := hw2 c
        refine q_aload_nr eX10_among_32 rfl ?_
        obtain ⟨hs11, hw⟩ := hw
        obtain ⟨a12, hr13, hw⟩ := hw
        refine q_getR flX10_58 rfl hs11 hr13 eX10_among_33 ?_
        refine q_iload_n eX10_among_36 rfl ?_
        obtain ⟨n15, hs14, hw⟩ := hw
        obtain ⟨hi16, hw⟩ := hw
        refine q_iald hs14 hi16 eX10_among_37 ?_
        refine q_goto (tgt := 42) eX10_among_38 (by decide) ?_
        exact q_ret rfl eX10_among_42 ⟨_, rfl, hw⟩
    · have hw := hw2 c
      refine q_bipush (v := (-2 : Int32)) eX10_among_21 (by decide) ?_
      exact q_ret rfl eX10_among_23 ⟨_, rfl, hw⟩
def wX10_common (PX10_common : Int64 → Int64 → MH → (Int64 → MH → Prop) → Prop) (x0 : Int64) (x2 : Int64) (h : MH) (Q : Int64 → MH → Prop) : Prop := (¬ ((lg_cmp (x2) ((0 : Int64))) = 0) → ¬ x2 = 0 ∧ PX10_common x2 (x0 - x0 / x2 * x2) h (fun r2 h3 => Q (r2) h3)) ∧ ((lg_cmp (x2) ((0 : Int64))) = 0 → Q (x0) h)
set_option maxHeartbeats 4000000 in
set_option maxRecDepth 100000 in
theorem gX10_common {PX10_common : Int64 → Int64 → MH → (Int64 → MH → Prop) → Prop} {d d2 : Nat} (hd : 2 ≤ d) (hd2 : d2 < d) (hPX10_common : ∀ (y0 : Int64) (y1 : Int64) (h : MH) (Q : Int64 → MH → Prop), PX10_common y0 y1 h Q → Cm MX10_common d2 0 0 [.long (y0), .long (y1)] h (pL Q)) (x0 : Int64) (x2 : Int64) (h : MH) (Q : Int64 → MH → Prop) (hw : wX10_common PX10_common x0 x2 h Q) : Cm MX10_common d 0 0 [.long (x0), .long (x2)] h (pL Q) := by
  refine cm_of [some (.long (x0)), none, some (.long (x2)), none] rfl pnX10 (Nat.le_of_ble_eq_true rfl) rfl ?_
  unfold wX10_common at hw
  refine q_lload_n eX10_common_0 rfl ?_
  refine q_lconst (v := (0 : Int64)) eX10_common_1 (by decide) ?_
  refine q_lcmp eX10_common_2 ?_
  obtain ⟨hw1, hw2⟩ := hw
  refine q_if_ne (tgt := 10) eX10_common_3 (by decide) (fun c => ?_) (fun c => ?_)
  · have hw := hw1 c
    refine q_lload_n eX10_common_10 rfl ?_
    refine q_lload_n eX10_common_11 rfl ?_
    refine q_lload_n eX10_common_12 rfl ?_
    obtain ⟨hz1, hw⟩ := hw
    refine q_lrem eX10_common_13 hz1 ?_
    refine q_callS (b := 0) (t := 0) (hPX10_common _ _ _ _ hw) mlX10_416 kX10_common sX10_common rfl (by omega) rfl (Nat.le_of_ble_eq_true rfl) eX10_common_14 (kL fun r2 h3 hw => ?_)
    exact q_retL rfl eX10_common_17 ⟨_, rfl, hw⟩
  · have hw := hw2 c
    refine q_lload_n eX10_common_6 rfl ?_
    refine q_goto (tgt := 17) eX10_common_7 (by decide) ?_
    exact q_retL rfl eX10_common_17 ⟨_, rfl, hw⟩
def wX10_isCheaper (x0 : Nat) (x1 : Int32) (x2 : Int32) (h : MH) (Q : Int32 → MH → Prop) : Prop := hS h x0 = (1, 10) ∧ ∃ a2, hR h x0 21 = some a2 ∧ ∃ n5, hS h a2 = (2, n5) ∧ vp_in (x1) n5 ∧ wX10_usesOf x0 x2 h (fun r7 h8 => hS h8 x0 = (1, 10) ∧ ∃ a10, hR h8 x0 21 = some a10 ∧ ∃ n13, hS h8 a10 = (2, n13) ∧ vp_in (x2) n13 ∧ wX10_usesOf x0 x1 h8 (fun r15 h16 => ((if (hI h8 a10 (x2).toNatClampNeg * r15) ≤ (hI h a2 (x1).toNatClampNeg * r7) then nI 0 else nI 1) = 0 ∨ (if (hI h8 a10 (x2).toNatClampNeg * r15) ≤ (hI h a2 (x1).toNatClampNeg * r7) then nI 0 else nI 1) = 1) ∧ Q ((if (hI h8 a10 (x2).toNatClampNeg * r15) ≤ (hI h a2 (x1).toNatClampNeg * r7) then nI 0 else nI 1)) h16))
set_option maxHeartbeats 4000000 in
set_option maxRecDepth 100000 in
theorem gX10_isCheaper (x0 : Nat) (x1 : Int32) (x2 : Int32) (h : MH) (Q : Int32 → MH → Prop) (hw : wX10_isCheaper x0 x1 x2 h Q) : Cm MX10_isCheaper 2 0 0 [.ref (x0), .int (x1), .int (x2)] h (pI Q) := by
  refine cm_of [some (.ref (x0)), some (.int (x1)), some (.int (x2))] rfl pnX10 (Nat.le_of_ble_eq_true rfl) rfl ?_
  unfold wX10_isCheaper at hw
  refine q_aload_nr eX10_isCheaper_0 rfl ?_
  obtain ⟨hs1, hw⟩ := hw
  obtain ⟨a2, hr3, hw⟩ := hw
  refine q_getR flX10_45 rfl hs1 hr3 eX10_isCheaper_1 ?_
  refine q_iload_n eX10_isCheaper_4 rfl ?_
  obtain ⟨n5, hs4, hw⟩ := hw
  obtain ⟨hi6, hw⟩ := hw
  refine q_iald hs4 hi6 eX10_isCheaper_5 ?_
  refine q_aload_nr eX10_isCheaper_6 rfl ?_
  refine q_iload_n eX10_isCheaper_7 rfl ?_
  refine q_callV (b := 0) (t := 0) (gX10_usesOf _ _ _ _ hw) mlX10_297 kX10_usesOf vX10_usesOf rfl hs1 ⟨rfl, rfl⟩ (by decide) rfl (Nat.le_of_ble_eq_true rfl) eX10_isCheaper_8 (kI fun r7 h8 hw => ?_)
  refine q_imul eX10_isCheaper_11 ?_
  refine q_aload_nr eX10_isCheaper_12 rfl ?_
  obtain ⟨hs9, hw⟩ := hw
  obtain ⟨a10, hr11, hw⟩ := hw
  refine q_getR flX10_45 rfl hs9 hr11 eX10_isCheaper_13 ?_
  refine q_iload_n eX10_isCheaper_16 rfl ?_
  obtain ⟨n13, hs12, hw⟩ := hw
  obtain ⟨hi14, hw⟩ := hw
  refine q_iald hs12 hi14 eX10_isCheaper_17 ?_
  refine q_aload_nr eX10_isCheaper_18 rfl ?_
  refine q_iload_n eX10_isCheaper_19 rfl ?_
  refine q_callV (b := 0) (t := 0) (gX10_usesOf _ _ _ _ hw) mlX10_297 kX10_usesOf vX10_usesOf rfl hs9 ⟨rfl, rfl⟩ (by decide) rfl (Nat.le_of_ble_eq_true rfl) eX10_isCheaper_20 (kI fun r15 h16 hw => ?_)
  refine q_imul eX10_isCheaper_23 ?_
  have hj19 : Wm MX10_isCheaper 2 0 0 32 [some (.ref (x0)), some (.int (x1)), some (.int (x2))] [.int ((if (hI h8 a10 (x2).toNatClampNeg * r15) ≤ (hI h a2 (x1).toNatClampNeg * r7) then nI 0 else nI 1))] h16 (pI Q) := by
    obtain ⟨hz18, hw⟩ := hw
    exact q_retZ rfl hz18 eX10_isCheaper_32 ⟨_, rfl, hw⟩
  refine q_icmp_ge (tgt := 31) eX10_isCheaper_24 (by decide) (fun c => ?_) (fun c => ?_)
  · refine q_iconst (v := nI 0) eX10_isCheaper_31 (by decide) ?_
    rw [if_pos c] at hj19
    exact hj19
  · refine q_iconst (v := nI 1) eX10_isCheaper_27 (by decide) ?_
    refine q_goto (tgt := 32) eX10_isCheaper_28 (by decide) ?_
    rw [if_neg c] at hj19
    exact hj19
def wX10_cheapestFor_26 (Q : Int32 → MH → Prop) (K4 : Nat → Int32 → Int32 → Int32 → MH → Prop) (x0 : Nat) (x1 : Int32) (x2 : Int32) (x3 : Int32) (h : MH) : Prop := (x2 = (-1 : Int32) → K4 x0 x1 x3 (x3 + nI 1) h) ∧ (¬ (x2 = (-1 : Int32)) → hS h x0 = (1, 10) ∧ wX10_isCheaper x0 x3 x2 h (fun r3 h4 => (r3 = 0 → K4 x0 x1 x2 (x3 + nI 1) h4) ∧ (¬ (r3 = 0) → K4 x0 x1 x3 (x3 + nI 1) h4)))
set_option maxHeartbeats 4000000 in
set_option maxRecDepth 100000 in
theorem tX10_cheapestFor_26 {Q : Int32 → MH → Prop} {K4 : Nat → Int32 → Int32 → Int32 → MH → Prop} (hK4 : ∀ (h : MH) (x0 : Nat) (x1 : Int32) (x2 : Int32) (x3 : Int32), K4 x0 x1 x2 x3 h → Wm MX10_cheapestFor 3 0 0 4 [some (.ref (x0)), some (.int (x1)), some (.int (x2)), some (.int (x3))] [] h (pI Q)) (h : MH) (x0 : Nat) (x1 : Int32) (x2 : Int32) (x3 : Int32) (hw : wX10_cheapestFor_26 Q K4 x0 x1 x2 x3 h) : Wm MX10_cheapestFor 3 0 0 26 [some (.ref (x0)), some (.int (x1)), some (.int (x2)), some (.int (x3))] [] h (pI Q) := by
  unfold wX10_cheapestFor_26 at hw
  refine q_iload_n eX10_cheapestFor_26 rfl ?_
  refine q_iconst (v := (-1 : Int32)) eX10_cheapestFor_27 (by decide) ?_
  obtain ⟨hw1, hw2⟩ := hw
  refine q_icmp_eq (tgt := 40) eX10_cheapestFor_28 (by decide) (fun c => ?_) (fun c => ?_)
  · have hw := hw1 c
    refine q_iload_n eX10_cheapestFor_40 rfl ?_
    refine x_istore_n (ls' := [_, _, _, _]) eX10_cheapestFor_41 (by decide) rfl rfl ?_
    refine x_iinc (v := (x3 + nI 1)) (ls' := [_, _, _, _]) eX10_cheapestFor_42 rfl rfl rfl rfl ?_
    refine q_goto (tgt := 4) eX10_cheapestFor_45 (by decide) ?_
    refine q_le (ls' := [some _, some _, some _, some _]) ⟨rfl, rfl, rfl, rfl, trivial⟩ ?_
    exact hK4 _ _ _ _ _ hw
  · have hw := hw2 c
    refine q_aload_nr eX10_cheapestFor_31 rfl ?_
    refine q_iload_n eX10_cheapestFor_32 rfl ?_
    refine q_iload_n eX10_cheapestFor_33 rfl ?_
    obtain ⟨hs2, hw⟩ := hw
    refine q_callV (b := 0) (t := 0) (gX10_isCheaper _ _ _ _ _ hw) mlX10_420 kX10_isCheaper vX10_isCheaper rfl hs2 ⟨rfl, rfl⟩ (by decide) rfl (Nat.le_of_ble_eq_true rfl) eX10_cheapestFor_34 (kI fun r3 h4 hw => ?_)
    obtain ⟨hw1, hw2⟩ := hw
    refine q_if_eq (tgt := 42) eX10_cheapestFor_37 (by decide) (fun c => ?_) (fun c => ?_)
    · have hw := hw1 c
      refine x_iinc (v := (x3 + nI 1)) (ls' := [_, _, _, _]) eX10_cheapestFor_42 rfl rfl rfl rfl ?_
      refine q_goto (tgt := 4) eX10_cheapestFor_45 (by decide) ?_
      refine q_le (ls' := [some _, some _, some _, some _]) ⟨rfl, rfl, rfl, rfl, trivial⟩ ?_
      exact hK4 _ _ _ _ _ hw
    · have hw := hw2 c
      refine q_iload_n eX10_cheapestFor_40 rfl ?_
      refine x_istore_n (ls' := [_, _, _, _]) eX10_cheapestFor_41 (by decide) rfl rfl ?_
      refine x_iinc (v := (x3 + nI 1)) (ls' := [_, _, _, _]) eX10_cheapestFor_42 rfl rfl rfl rfl ?_
      refine q_goto (tgt := 4) eX10_cheapestFor_45 (by decide) ?_
      refine q_le (ls' := [some _, some _, some _, some _]) ⟨rfl, rfl, rfl, rfl, trivial⟩ ?_
      exact hK4 _ _ _ _ _ hw
def wX10_cheapestFor_4 (Q : Int32 → MH → Prop) : Nat → Nat → Int32 → Int32 → Int32 → MH → Prop
  | 0, _, _, _, _, _ => False
  | n + 1, x0, x1, x2, x3, h => hS h x0 = (1, 10) ∧ (hI h x0 23 ≤ x3 → Q (x2) h) ∧ (¬ (hI h x0 23 ≤ x3) → (x1 = (-1 : Int32) → wX10_cheapestFor_26 Q (wX10_cheapestFor_4 Q n) x0 x1 x2 x3 h) ∧ (¬ (x1 = (-1 : Int32)) → wX10_useOf x0 x3 x1 h (fun r5 h6 => (r5 ≤ 0 → wX10_cheapestFor_4 Q n x0 x1 x2 (x3 + nI 1) h6) ∧ (¬ (r5 ≤ 0) → wX10_cheapestFor_26 Q (wX10_cheapestFor_4 Q n) x0 x1 x2 x3 h6))))
set_option maxHeartbeats 4000000 in
set_option maxRecDepth 100000 in
theorem tX10_cheapestFor_4 {Q : Int32 → MH → Prop} : ∀ (n : Nat) (h : MH) (x0 : Nat) (x1 : Int32) (x2 : Int32) (x3 : Int32), wX10_cheapestFor_4 Q n x0 x1 x2 x3 h → Wm MX10_cheapestFor 3 0 0 4 [some (.ref (x0)), some (.int (x1)), some (.int (x2)), some (.int (x3))] [] h (pI Q) := by
  intro n
  induction n with
  | zero => intro h x0 x1 x2 x3 hw; exact hw.elim
  | succ n ih =>
    intro h x0 x1 x2 x3 hw
    unfold wX10_cheapestFor_4 at hw
    refine q_iload_n eX10_cheapestFor_4 rfl ?_
    refine q_aload_nr eX10_cheapestFor_5 rfl ?_
    obtain ⟨hs1, hw⟩ := hw
    refine q_getI flX10_216 rfl hs1 eX10_cheapestFor_6 ?_
    obtain ⟨hw1, hw2⟩ := hw
    refine q_icmp_ge (tgt := 48) eX10_cheapestFor_9 (by decide) (fun c => ?_) (fun c => ?_)
    · have hw := hw1 c
      refine q_iload_n eX10_cheapestFor_48 rfl ?_
      exact q_ret rfl eX10_cheapestFor_49 ⟨_, rfl, hw⟩
    · have hw := hw2 c
      refine q_iload_n eX10_cheapestFor_12 rfl ?_
      refine q_iconst (v := (-1 : Int32)) eX10_cheapestFor_13 (by decide) ?_
      obtain ⟨hw1, hw2⟩ := hw
      refine q_icmp_eq (tgt := 26) eX10_cheapestFor_14 (by decide) (fun c => ?_) (fun c => ?_)
      · have hw := hw1 c
        refine q_le (ls' := [some _, some _, some _, some _]) ⟨rfl, rfl, rfl, rfl, trivial⟩ ?_
        exact tX10_cheapestFor_26 ih _ _ _ _ _ hw
      · have hw := hw2 c
        refine q_aload_nr eX10_cheapestFor_17 rfl ?_
        refine q_iload_n eX10_cheapestFor_18 rfl ?_
        refine q_iload_n eX10_cheapestFor_19 rfl ?_
        refine q_callV (b := 0) (t := 0) (gX10_useOf _ _ _ _ _ hw) mlX10_254 kX10_useOf vX10_useOf rfl hs1 ⟨rfl, rfl⟩ (by decide) rfl (Nat.le_of_ble_eq_true rfl) eX10_cheapestFor_20 (kI fun r5 h6 hw => ?_)
        obtain ⟨hw1, hw2⟩ := hw
        refine q_if_le (tgt := 42) eX10_cheapestFor_23 (by decide) (fun c => ?_) (fun c => ?_)
        · have hw := hw1 c
          refine x_iinc (v := (x3 + nI 1)) (ls' := [_, _, _, _]) eX10_cheapestFor_42 rfl rfl rfl rfl ?_
          refine q_goto (tgt := 4) eX10_cheapestFor_45 (by decide) ?_
          refine q_le (ls' := [some _, some _, some _, some _]) ⟨rfl, rfl, rfl, rfl, trivial⟩ ?_
          exact ih _ _ _ _ _ hw
        · have hw := hw2 c
          refine q_le (ls' := [some _, some _, some _, some _]) ⟨rfl, rfl, rfl, rfl, trivial⟩ ?_
          exact tX10_cheapestFor_26 ih _ _ _ _ _ hw
def wX10_cheapestFor (x0 : Nat) (x1 : Int32) (h : MH) (Q : Int32 → MH → Prop) : Prop := ∃ m7, wX10_cheapestFor_4 Q m7 x0 x1 (-1 : Int32) (nI 0) h
set_option maxHeartbeats 4000000 in
set_option maxRecDepth 100000 in
theorem gX10_cheapestFor (x0 : Nat) (x1 : Int32) (h : MH) (Q : Int32 → MH → Prop) (hw : wX10_cheapestFor x0 x1 h Q) : Cm MX10_cheapestFor 3 0 0 [.ref (x0), .int (x1)] h (pI Q) := by
  refine cm_of [some (.ref (x0)), some (.int (x1)), none, none] rfl pnX10 (Nat.le_of_ble_eq_true rfl) rfl ?_
  unfold wX10_cheapestFor at hw
  refine q_iconst (v := (-1 : Int32)) eX10_cheapestFor_0 (by decide) ?_
  refine x_istore_n (ls' := [_, _, _, _]) eX10_cheapestFor_1 (by decide) rfl rfl ?_
  refine q_iconst (v := nI 0) eX10_cheapestFor_2 (by decide) ?_
  refine x_istore_n (ls' := [_, _, _, _]) eX10_cheapestFor_3 (by decide) rfl rfl ?_
  refine q_le (ls' := [some _, some _, some _, some _]) ⟨rfl, rfl, rfl, rfl, trivial⟩ ?_
  obtain ⟨m7, hw⟩ := hw
  exact tX10_cheapestFor_4 m7 _ _ _ _ _ hw
def wX10_bound_27 (Q : Int64 → MH → Prop) : Nat → Nat → Int32 → Int64 → Int64 → Int32 → MH → Prop
  | 0, _, _, _, _, _, _ => False
  | n + 1, x0, x1, x2, x4, x6, h => hS h x0 = (1, 10) ∧ ∃ a6, hR h x0 1 = some a6 ∧ ∃ n9, hS h a6 = (2, n9) ∧ vp_in (nI 2) n9 ∧ (hI h a6 (nI 2).toNatClampNeg ≤ x6 → Q ((if x1 = 0 then x2 else x4)) h) ∧ (¬ (hI h a6 (nI 2).toNatClampNeg ≤ x6) → vp_in ((nI 39 + x6)) n9 ∧ (¬ (hI h a6 ((nI 39 + x6)).toNatClampNeg = 0) → wX10_cheapestFor x0 x6 h (fun r14 h15 => (¬ (r14 = (-1 : Int32)) → hS h15 x0 = (1, 10) ∧ wX10_usesOf x0 r14 h15 (fun r17 h18 => hS h18 x0 = (1, 10) ∧ ∃ a20, hR h18 x0 1 = some a20 ∧ ∃ n23, hS h18 a20 = (2, n23) ∧ vp_in ((nI 39 + x6)) n23 ∧ ∃ a25, hR h18 x0 21 = some a25 ∧ ∃ n28, hS h18 a25 = (2, n28) ∧ vp_in (r14) n28 ∧ ∀ v30, v30 = ((x2 * (r17).toInt64) + ((x4 * (hI h18 a20 ((nI 39 + x6)).toNatClampNeg).toInt64) * (hI h18 a25 (r14).toNatClampNeg).toInt64)) → wX10_usesOf x0 r14 h18 (fun r31 h32 => Cm MX10_common 300 0 0 [.long (v30), .long ((x4 * (r31).toInt64))] h32 (pL fun r33 h34 => ¬ r33 = 0 ∧ ¬ r33 = 0 ∧ wX10_bound_27 Q n x0 x1 (v30 / r33) ((x4 * (r31).toInt64) / r33) (x6 + nI 1) h34)))) ∧ (r14 = (-1 : Int32) → Q ((-1 : Int64)) h15))) ∧ (hI h a6 ((nI 39 + x6)).toNatClampNeg = 0 → wX10_bound_27 Q n x0 x1 x2 x4 (x6 + nI 1) h))
set_option maxHeartbeats 4000000 in
set_option maxRecDepth 100000 in
theorem tX10_bound_27 {Q : Int64 → MH → Prop} : ∀ (n : Nat) (h : MH) (x0 : Nat) (x1 : Int32) (x2 : Int64) (x4 : Int64) (x6 : Int32), wX10_bound_27 Q n x0 x1 x2 x4 x6 h → Wm MX10_bound 301 0 0 27 [some (.ref (x0)), some (.int (x1)), some (.long (x2)), none, some (.long (x4)), none, some (.int (x6)), none, none, none] [] h (pL Q) := by
  intro n
  induction n with
  | zero => intro h x0 x1 x2 x4 x6 hw; exact hw.elim
  | succ n ih =>
    intro h x0 x1 x2 x4 x6 hw
    unfold wX10_bound_27 at hw
    refine q_iload eX10_bound_27 rfl ?_
    refine q_aload_nr eX10_bound_29 rfl ?_
    obtain ⟨hs5, hw⟩ := hw
    obtain ⟨a6, hr7, hw⟩ := hw
    refine q_getR flX10_13 rfl hs5 hr7 eX10_bound_30 ?_
    refine q_iconst (v := nI 2) eX10_bound_33 (by decide) ?_
    obtain ⟨n9, hs8, hw⟩ := hw
    obtain ⟨hi10, hw⟩ := hw
    refine q_iald hs8 hi10 eX10_bound_34 ?_
    obtain ⟨hw1, hw2⟩ := hw
    refine q_icmp_ge (tgt := 144) eX10_bound_35 (by decide) (fun c => ?_) (fun c => ?_)
    · have hw := hw1 c
      refine q_iload_n eX10_bound_144 rfl ?_
      have hj12 : Wm MX10_bound 301 0 0 154 [some (.ref (x0)), some (.int (x1)), some (.long (x2)), none, some (.long (x4)), none, some (.int (x6)), none, none, none] [.long ((if x1 = 0 then x2 else x4))] h (pL Q) := by
        exact q_retL rfl eX10_bound_154 ⟨_, rfl, hw⟩
      refine q_if_ne (tgt := 152) eX10_bound_145 (by decide) (fun c => ?_) (fun c => ?_)
      · refine q_lload eX10_bound_152 rfl ?_
        rw [if_neg c] at hj12
        exact hj12
      · refine q_lload_n eX10_bound_148 rfl ?_
        refine q_goto (tgt := 154) eX10_bound_149 (by decide) ?_
        rw [if_pos c] at hj12
        exact hj12
    · have hw := hw2 c
      refine q_aload_nr eX10_bound_38 rfl ?_
      refine q_getR flX10_13 rfl hs5 hr7 eX10_bound_39 ?_
      refine q_bipush (v := nI 39) eX10_bound_42 (by decide) ?_
      refine q_iload eX10_bound_44 rfl ?_
      refine q_iadd eX10_bound_46 ?_
      obtain ⟨hi13, hw⟩ := hw
      refine q_iald hs8 hi13 eX10_bound_47 ?_
      obtain ⟨hw1, hw2⟩ := hw
      refine q_if_ne (tgt := 54) eX10_bound_48 (by decide) (fun c => ?_) (fun c => ?_)
      · have hw := hw1 c
        refine q_aload_nr eX10_bound_54 rfl ?_
        refine q_iload eX10_bound_55 rfl ?_
        refine q_callV (b := 0) (t := 0) (gX10_cheapestFor _ _ _ _ hw) mlX10_425 kX10_cheapestFor vX10_cheapestFor rfl hs5 ⟨rfl, rfl⟩ (by decide) rfl (Nat.le_of_ble_eq_true rfl) eX10_bound_57 (kI fun r14 h15 hw => ?_)
        refine x_istore (ls' := [_, _, _, _, _, _, _, _, _, _]) eX10_bound_60 (by decide) rfl rfl ?_
        refine q_iload eX10_bound_62 rfl ?_
        refine q_iconst (v := (-1 : Int32)) eX10_bound_64 (by decide) ?_
        obtain ⟨hw1, hw2⟩ := hw
        refine q_icmp_ne (tgt := 72) eX10_bound_65 (by decide) (fun c => ?_) (fun c => ?_)
        · have hw := hw1 c
          refine q_lload_n eX10_bound_72 rfl ?_
          refine q_aload_nr eX10_bound_73 rfl ?_
          refine q_iload eX10_bound_74 rfl ?_
          obtain ⟨hs16, hw⟩ := hw
          refine q_callV (b := 0) (t := 0) (gX10_usesOf _ _ _ _ hw) mlX10_297 kX10_usesOf vX10_usesOf rfl hs16 ⟨rfl, rfl⟩ (by decide) rfl (Nat.le_of_ble_eq_true rfl) eX10_bound_76 (kI fun r17 h18 hw => ?_)
          refine q_i2l eX10_bound_79 ?_
          refine q_lmul eX10_bound_80 ?_
          refine q_lload eX10_bound_81 rfl ?_
          refine q_aload_nr eX10_bound_83 rfl ?_
          obtain ⟨hs19, hw⟩ := hw
          obtain ⟨a20, hr21, hw⟩ := hw
          refine q_getR flX10_13 rfl hs19 hr21 eX10_bound_84 ?_
          refine q_bipush (v := nI 39) eX10_bound_87 (by decide) ?_
          refine q_iload eX10_bound_89 rfl ?_
          refine q_iadd eX10_bound_91 ?_
          obtain ⟨n23, hs22, hw⟩ := hw
          obtain ⟨hi24, hw⟩ := hw
          refine q_iald hs22 hi24 eX10_bound_92 ?_
          refine q_i2l eX10_bound_93 ?_
          refine q_lmul eX10_bound_94 ?_
          refine q_aload_nr eX10_bound_95 rfl ?_
          obtain ⟨a25, hr26, hw⟩ := hw
          refine q_getR flX10_45 rfl hs19 hr26 eX10_bound_96 ?_
          refine q_iload eX10_bound_99 rfl ?_
          obtain ⟨n28, hs27, hw⟩ := hw
          obtain ⟨hi29, hw⟩ := hw
          refine q_iald hs27 hi29 eX10_bound_101 ?_
          refine q_i2l eX10_bound_102 ?_
          refine q_lmul eX10_bound_103 ?_
          refine q_ladd eX10_bound_104 ?_
          have hw := hw _ rfl
          refine x_lstore_n (ls' := [_, _, _, _, _, _, _, _, _, _]) eX10_bound_105 (by decide) rfl rfl ?_
          refine q_lload eX10_bound_106 rfl ?_
          refine q_aload_nr eX10_bound_108 rfl ?_
          refine q_iload eX10_bound_109 rfl ?_
          refine q_callV (b := 0) (t := 0) (gX10_usesOf _ _ _ _ hw) mlX10_297 kX10_usesOf vX10_usesOf rfl hs19 ⟨rfl, rfl⟩ (by decide) rfl (Nat.le_of_ble_eq_true rfl) eX10_bound_111 (kI fun r31 h32 hw => ?_)
          refine q_i2l eX10_bound_114 ?_
          refine q_lmul eX10_bound_115 ?_
          refine x_lstore (ls' := [_, _, _, _, _, _, _, _, _, _]) eX10_bound_116 (by decide) rfl rfl ?_
          refine q_lload_n eX10_bound_118 rfl ?_
          refine q_lload eX10_bound_119 rfl ?_
          refine q_callS (b := 0) (t := 0) hw mlX10_416 kX10_common sX10_common rfl (by decide) rfl (Nat.le_of_ble_eq_true rfl) eX10_bound_121 (kL fun r33 h34 hw => ?_)
          refine x_lstore (ls' := [_, _, _, _, _, _, _, _, _, _]) eX10_bound_124 (by decide) rfl rfl ?_
          refine q_lload_n eX10_bound_126 rfl ?_
          refine q_lload eX10_bound_127 rfl ?_
          obtain ⟨hz35, hw⟩ := hw
          refine q_ldiv eX10_bound_129 hz35 ?_
          refine x_lstore_n (ls' := [_, _, _, _, _, _, _, _, _, _]) eX10_bound_130 (by decide) rfl rfl ?_
          refine q_lload eX10_bound_131 rfl ?_
          refine q_lload eX10_bound_133 rfl ?_
          obtain ⟨hz36, hw⟩ := hw
          refine q_ldiv eX10_bound_135 hz36 ?_
          refine x_lstore (ls' := [_, _, _, _, _, _, _, _, _, _]) eX10_bound_136 (by decide) rfl rfl ?_
          refine x_iinc (v := (x6 + nI 1)) (ls' := [_, _, _, _, _, _, _, _, _, _]) eX10_bound_138 rfl rfl rfl rfl ?_
          refine q_goto (tgt := 27) eX10_bound_141 (by decide) ?_
          refine q_le (ls' := [some _, some _, some _, none, some _, none, some _, none, none, none]) ⟨rfl, rfl, rfl, rfl, rfl, trivial⟩ ?_
          exact ih _ _ _ _ _ _ hw
        · have hw := hw2 c
          refine q_ldc2 coX10_428 eX10_bound_68 ?_
          exact q_retL rfl eX10_bound_71 ⟨_, rfl, hw⟩
      · have hw := hw2 c
        refine q_goto (tgt := 138) eX10_bound_51 (by decide) ?_
        refine x_iinc (v := (x6 + nI 1)) (ls' := [_, _, _, _, _, _, _, _, _, _]) eX10_bound_138 rfl rfl rfl rfl ?_
        refine q_goto (tgt := 27) eX10_bound_141 (by decide) ?_
        refine q_le (ls' := [some _, some _, some _, none, some _, none, some _, none, none, none]) ⟨rfl, rfl, rfl, rfl, rfl, trivial⟩ ?_
        exact ih _ _ _ _ _ _ hw
def wX10_bound (x0 : Nat) (x1 : Int32) (h : MH) (Q : Int64 → MH → Prop) : Prop := hS h x0 = (1, 10) ∧ ∀ h2, h2 = sI h x0 0 (nI 0) → wX10_within ((x1).toInt64) (0 : Int64) (1 : Int64) h2 (fun r3 h4 => (¬ (r3 = 0) → ∃ m37, wX10_bound_27 Q m37 x0 x1 (0 : Int64) (1 : Int64) (nI 0) h4) ∧ (r3 = 0 → Q ((-2 : Int64)) h4))
set_option maxHeartbeats 4000000 in
set_option maxRecDepth 100000 in
theorem gX10_bound (x0 : Nat) (x1 : Int32) (h : MH) (Q : Int64 → MH → Prop) (hw : wX10_bound x0 x1 h Q) : Cm MX10_bound 301 0 0 [.ref (x0), .int (x1)] h (pL Q) := by
  refine cm_of [some (.ref (x0)), some (.int (x1)), none, none, none, none, none, none, none, none] rfl pnX10 (Nat.le_of_ble_eq_true rfl) rfl ?_
  unfold wX10_bound at hw
  refine q_aload_nr eX10_bound_0 rfl ?_
  refine q_iconst (v := nI 0) eX10_bound_1 (by decide) ?_
  obtain ⟨hs1, hw⟩ := hw
  have hw := hw _ rfl
  refine q_putI (fwX10_1 _) rfl hs1 eX10_bound_2 ?_
  refine q_iload_n eX10_bound_5 rfl ?_
  refine q_i2l eX10_bound_6 ?_
  refine q_lconst (v := (0 : Int64)) eX10_bound_7 (by decide) ?_
  refine q_lconst (v := (1 : Int64)) eX10_bound_8 (by decide) ?_
  refine q_callS (b := 0) (t := 0) (gX10_within _ _ _ _ _ hw) mlX10_149 kX10_within sX10_within rfl (by decide) rfl (Nat.le_of_ble_eq_true rfl) eX10_bound_9 (kI fun r3 h4 hw => ?_)
  obtain ⟨hw1, hw2⟩ := hw
  refine q_if_ne (tgt := 19) eX10_bound_12 (by decide) (fun c => ?_) (fun c => ?_)
  · have hw := hw1 c
    refine q_lconst (v := (0 : Int64)) eX10_bound_19 (by decide) ?_
    refine x_lstore_n (ls' := [_, _, _, _, _, _, _, _, _, _]) eX10_bound_20 (by decide) rfl rfl ?_
    refine q_lconst (v := (1 : Int64)) eX10_bound_21 (by decide) ?_
    refine x_lstore (ls' := [_, _, _, _, _, _, _, _, _, _]) eX10_bound_22 (by decide) rfl rfl ?_
    refine q_iconst (v := nI 0) eX10_bound_24 (by decide) ?_
    refine x_istore (ls' := [_, _, _, _, _, _, _, _, _, _]) eX10_bound_25 (by decide) rfl rfl ?_
    refine q_le (ls' := [some _, some _, some _, none, some _, none, some _, none, none, none]) ⟨rfl, rfl, rfl, rfl, rfl, trivial⟩ ?_
    obtain ⟨m37, hw⟩ := hw
    exact tX10_bound_27 m37 _ _ _ _ _ _ hw
  · have hw := hw2 c
    refine q_ldc2 coX10_423 eX10_bound_15 ?_
    exact q_retL rfl eX10_bound_18 ⟨_, rfl, hw⟩
def wX10_coversFrom_20 (Q : Int32 → MH → Prop) (PX10_coversFrom : Nat → Int32 → Int32 → Int32 → MH → (Int32 → MH → Prop) → Prop) : Nat → Nat → Int32 → Int32 → Int32 → Int32 → MH → Prop
  | 0, _, _, _, _, _, _ => False
  | n + 1, x0, x1, x3, x4, x5, h => hS h x0 = (1, 10) ∧ (hI h x0 23 ≤ x5 → Q (x4) h) ∧ (¬ (hI h x0 23 ≤ x5) → wX10_lackWith x0 x1 x5 h (fun r2 h3 => hS h3 x0 = (1, 10) ∧ PX10_coversFrom x0 r2 x5 (x3 - nI 1) h3 (fun r5 h6 => wX10_coversFrom_20 Q PX10_coversFrom n x0 x1 x3 (x4 + r5) (x5 + nI 1) h6)))
set_option maxHeartbeats 4000000 in
set_option maxRecDepth 100000 in
theorem tX10_coversFrom_20 {Q : Int32 → MH → Prop} {PX10_coversFrom : Nat → Int32 → Int32 → Int32 → MH → (Int32 → MH → Prop) → Prop} {d d2 : Nat} (hd : 3 ≤ d) (hd2 : d2 < d) (hPX10_coversFrom : ∀ (y0 : Nat) (y1 : Int32) (y2 : Int32) (y3 : Int32) (h : MH) (Q : Int32 → MH → Prop), PX10_coversFrom y0 y1 y2 y3 h Q → Cm MX10_coversFrom d2 0 0 [.ref (y0), .int (y1), .int (y2), .int (y3)] h (pI Q)) : ∀ (n : Nat) (h : MH) (x0 : Nat) (x1 : Int32) (x3 : Int32) (x4 : Int32) (x5 : Int32), wX10_coversFrom_20 Q PX10_coversFrom n x0 x1 x3 x4 x5 h → Wm MX10_coversFrom d 0 0 20 [some (.ref (x0)), some (.int (x1)), none, some (.int (x3)), some (.int (x4)), some (.int (x5))] [] h (pI Q) := by
  intro n
  induction n with
  | zero => intro h x0 x1 x3 x4 x5 hw; exact hw.elim
  | succ n ih =>
    intro h x0 x1 x3 x4 x5 hw
    unfold wX10_coversFrom_20 at hw
    refine q_iload eX10_coversFrom_20 rfl ?_
    refine q_aload_nr eX10_coversFrom_22 rfl ?_
    obtain ⟨hs1, hw⟩ := hw
    refine q_getI flX10_216 rfl hs1 eX10_coversFrom_23 ?_
    obtain ⟨hw1, hw2⟩ := hw
    refine q_icmp_ge (tgt := 56) eX10_coversFrom_26 (by decide) (fun c => ?_) (fun c => ?_)
    · have hw := hw1 c
      refine q_iload eX10_coversFrom_56 rfl ?_
      exact q_ret rfl eX10_coversFrom_58 ⟨_, rfl, hw⟩
    · have hw := hw2 c
      refine q_iload eX10_coversFrom_29 rfl ?_
      refine q_aload_nr eX10_coversFrom_31 rfl ?_
      refine q_aload_nr eX10_coversFrom_32 rfl ?_
      refine q_iload_n eX10_coversFrom_33 rfl ?_
      refine q_iload eX10_coversFrom_34 rfl ?_
      refine q_callV (b := 0) (t := 0) (gX10_lackWith _ _ _ _ _ hw) mlX10_398 kX10_lackWith vX10_lackWith rfl hs1 ⟨rfl, rfl⟩ (by omega) rfl (Nat.le_of_ble_eq_true rfl) eX10_coversFrom_36 (kI fun r2 h3 hw => ?_)
      refine q_iload eX10_coversFrom_39 rfl ?_
      refine q_iload_n eX10_coversFrom_41 rfl ?_
      refine q_iconst (v := nI 1) eX10_coversFrom_42 (by decide) ?_
      refine q_isub eX10_coversFrom_43 ?_
      obtain ⟨hs4, hw⟩ := hw
      refine q_callV (b := 0) (t := 0) (hPX10_coversFrom _ _ _ _ _ _ hw) mlX10_430 kX10_coversFrom vX10_coversFrom rfl hs4 ⟨rfl, rfl⟩ (by omega) rfl (Nat.le_of_ble_eq_true rfl) eX10_coversFrom_44 (kI fun r5 h6 hw => ?_)
      refine q_iadd eX10_coversFrom_47 ?_
      refine x_istore (ls' := [_, _, _, _, _, _]) eX10_coversFrom_48 (by decide) rfl rfl ?_
      refine x_iinc (v := (x5 + nI 1)) (ls' := [_, _, _, _, _, _]) eX10_coversFrom_50 rfl rfl rfl rfl ?_
      refine q_goto (tgt := 20) eX10_coversFrom_53 (by decide) ?_
      refine q_le (ls' := [some _, some _, none, some _, some _, some _]) ⟨rfl, rfl, rfl, rfl, rfl, trivial⟩ ?_
      exact ih _ _ _ _ _ _ hw
def wX10_coversFrom (PX10_coversFrom : Nat → Int32 → Int32 → Int32 → MH → (Int32 → MH → Prop) → Prop) (x0 : Nat) (x1 : Int32) (x2 : Int32) (x3 : Int32) (h : MH) (Q : Int32 → MH → Prop) : Prop := (¬ (x3 = 0) → ∃ m7, wX10_coversFrom_20 Q PX10_coversFrom m7 x0 x1 x3 (nI 0) x2 h) ∧ (x3 = 0 → Q ((if x1 = 0 then nI 1 else nI 0)) h)
set_option maxHeartbeats 4000000 in
set_option maxRecDepth 100000 in
theorem gX10_coversFrom {PX10_coversFrom : Nat → Int32 → Int32 → Int32 → MH → (Int32 → MH → Prop) → Prop} {d d2 : Nat} (hd : 3 ≤ d) (hd2 : d2 < d) (hPX10_coversFrom : ∀ (y0 : Nat) (y1 : Int32) (y2 : Int32) (y3 : Int32) (h : MH) (Q : Int32 → MH → Prop), PX10_coversFrom y0 y1 y2 y3 h Q → Cm MX10_coversFrom d2 0 0 [.ref (y0), .int (y1), .int (y2), .int (y3)] h (pI Q)) (x0 : Nat) (x1 : Int32) (x2 : Int32) (x3 : Int32) (h : MH) (Q : Int32 → MH → Prop) (hw : wX10_coversFrom PX10_coversFrom x0 x1 x2 x3 h Q) : Cm MX10_coversFrom d 0 0 [.ref (x0), .int (x1), .int (x2), .int (x3)] h (pI Q) := by
  refine cm_of [some (.ref (x0)), some (.int (x1)), some (.int (x2)), some (.int (x3)), none, none] rfl pnX10 (Nat.le_of_ble_eq_true rfl) rfl ?_
  unfold wX10_coversFrom at hw
  refine q_iload_n eX10_coversFrom_0 rfl ?_
  obtain ⟨hw1, hw2⟩ := hw
  refine q_if_ne (tgt := 14) eX10_coversFrom_1 (by decide) (fun c => ?_) (fun c => ?_)
  · have hw := hw1 c
    refine q_iconst (v := nI 0) eX10_coversFrom_14 (by decide) ?_
    refine x_istore (ls' := [_, _, _, _, _, _]) eX10_coversFrom_15 (by decide) rfl rfl ?_
    refine q_iload_n eX10_coversFrom_17 rfl ?_
    refine x_istore (ls' := [_, _, _, _, _, _]) eX10_coversFrom_18 (by decide) rfl rfl ?_
    refine q_le (ls' := [some _, some _, none, some _, some _, some _]) ⟨rfl, rfl, rfl, rfl, rfl, trivial⟩ ?_
    obtain ⟨m7, hw⟩ := hw
    exact tX10_coversFrom_20 hd hd2 hPX10_coversFrom m7 _ _ _ _ _ _ hw
  · have hw := hw2 c
    refine q_iload_n eX10_coversFrom_4 rfl ?_
    have hj9 : Wm MX10_coversFrom d 0 0 13 [some (.ref (x0)), some (.int (x1)), some (.int (x2)), some (.int (x3)), none, none] [.int ((if x1 = 0 then nI 1 else nI 0))] h (pI Q) := by
      exact q_ret rfl eX10_coversFrom_13 ⟨_, rfl, hw⟩
    refine q_if_ne (tgt := 12) eX10_coversFrom_5 (by decide) (fun c => ?_) (fun c => ?_)
    · refine q_iconst (v := nI 0) eX10_coversFrom_12 (by decide) ?_
      rw [if_neg c] at hj9
      exact hj9
    · refine q_iconst (v := nI 1) eX10_coversFrom_8 (by decide) ?_
      refine q_goto (tgt := 13) eX10_coversFrom_9 (by decide) ?_
      rw [if_pos c] at hj9
      exact hj9
def wX10_covers_29 (Q : Int32 → MH → Prop) : Nat → Nat → Int32 → Int32 → Int32 → MH → Prop
  | 0, _, _, _, _, _ => False
  | n + 1, x0, x1, x2, x3, h => hS h x0 = (1, 10) ∧ ∃ a9, hR h x0 1 = some a9 ∧ ∃ n12, hS h a9 = (2, n12) ∧ vp_in (nI 2) n12 ∧ (hI h a9 (nI 2).toNatClampNeg ≤ x3 → Cm MX10_coversFrom 300 0 0 [.ref (x0), .int (x2), .int (nI 0), .int (x1)] h (pI fun r14 h15 => Q (r14) h15)) ∧ (¬ (hI h a9 (nI 2).toNatClampNeg ≤ x3) → vp_in ((nI 39 + x3)) n12 ∧ ∃ a17, hR h x0 29 = some a17 ∧ ∃ n20, hS h a17 = (2, n20) ∧ vp_in (x3) n20 ∧ ∀ v22, v22 = (x2 + (hI h a9 ((nI 39 + x3)).toNatClampNeg * hI h a17 (x3).toNatClampNeg)) → wX10_covers_29 Q n x0 x1 v22 (x3 + nI 1) h)
set_option maxHeartbeats 4000000 in
set_option maxRecDepth 100000 in
theorem tX10_covers_29 {Q : Int32 → MH → Prop} : ∀ (n : Nat) (h : MH) (x0 : Nat) (x1 : Int32) (x2 : Int32) (x3 : Int32), wX10_covers_29 Q n x0 x1 x2 x3 h → Wm MX10_covers 301 0 0 29 [some (.ref (x0)), some (.int (x1)), some (.int (x2)), some (.int (x3))] [] h (pI Q) := by
  intro n
  induction n with
  | zero => intro h x0 x1 x2 x3 hw; exact hw.elim
  | succ n ih =>
    intro h x0 x1 x2 x3 hw
    unfold wX10_covers_29 at hw
    refine q_iload_n eX10_covers_29 rfl ?_
    refine q_aload_nr eX10_covers_30 rfl ?_
    obtain ⟨hs8, hw⟩ := hw
    obtain ⟨a9, hr10, hw⟩ := hw
    refine q_getR flX10_13 rfl hs8 hr10 eX10_covers_31 ?_
    refine q_iconst (v := nI 2) eX10_covers_34 (by decide) ?_
    obtain ⟨n12, hs11, hw⟩ := hw
    obtain ⟨hi13, hw⟩ := hw
    refine q_iald hs11 hi13 eX10_covers_35 ?_
    obtain ⟨hw1, hw2⟩ := hw
    refine q_icmp_ge (tgt := 64) eX10_covers_36 (by decide) (fun c => ?_) (fun c => ?_)
    · have hw := hw1 c
      refine q_aload_nr eX10_covers_64 rfl ?_
      refine q_iload_n eX10_covers_65 rfl ?_
      refine q_iconst (v := nI 0) eX10_covers_66 (by decide) ?_
      refine q_iload_n eX10_covers_67 rfl ?_
      refine q_callV (b := 0) (t := 0) hw mlX10_430 kX10_coversFrom vX10_coversFrom rfl hs8 ⟨rfl, rfl⟩ (by decide) rfl (Nat.le_of_ble_eq_true rfl) eX10_covers_68 (kI fun r14 h15 hw => ?_)
      exact q_ret rfl eX10_covers_71 ⟨_, rfl, hw⟩
    · have hw := hw2 c
      refine q_iload_n eX10_covers_39 rfl ?_
      refine q_aload_nr eX10_covers_40 rfl ?_
      refine q_getR flX10_13 rfl hs8 hr10 eX10_covers_41 ?_
      refine q_bipush (v := nI 39) eX10_covers_44 (by decide) ?_
      refine q_iload_n eX10_covers_46 rfl ?_
      refine q_iadd eX10_covers_47 ?_
      obtain ⟨hi16, hw⟩ := hw
      refine q_iald hs11 hi16 eX10_covers_48 ?_
      refine q_aload_nr eX10_covers_49 rfl ?_
      obtain ⟨a17, hr18, hw⟩ := hw
      refine q_getR flX10_61 rfl hs8 hr18 eX10_covers_50 ?_
      refine q_iload_n eX10_covers_53 rfl ?_
      obtain ⟨n20, hs19, hw⟩ := hw
      obtain ⟨hi21, hw⟩ := hw
      refine q_iald hs19 hi21 eX10_covers_54 ?_
      refine q_imul eX10_covers_55 ?_
      refine q_iadd eX10_covers_56 ?_
      have hw := hw _ rfl
      refine x_istore_n (ls' := [_, _, _, _]) eX10_covers_57 (by decide) rfl rfl ?_
      refine x_iinc (v := (x3 + nI 1)) (ls' := [_, _, _, _]) eX10_covers_58 rfl rfl rfl rfl ?_
      refine q_goto (tgt := 29) eX10_covers_61 (by decide) ?_
      refine q_le (ls' := [some _, some _, some _, some _]) ⟨rfl, rfl, rfl, rfl, trivial⟩ ?_
      exact ih _ _ _ _ _ hw
def wX10_covers (x0 : Nat) (x1 : Int32) (h : MH) (Q : Int32 → MH → Prop) : Prop := hS h x0 = (1, 10) ∧ ∀ h2, h2 = sI h x0 0 (nI 0) → wX10_within ((x1).toInt64) (0 : Int64) (3 : Int64) h2 (fun r3 h4 => (¬ (r3 = 0) → hS h4 x0 = (1, 10) ∧ wX10_lackNow x0 h4 (fun r6 h7 => ∃ m23, wX10_covers_29 Q m23 x0 x1 (nI 0) (nI 0) h7)) ∧ (r3 = 0 → Q ((-3 : Int32)) h4))
set_option maxHeartbeats 4000000 in
set_option maxRecDepth 100000 in
theorem gX10_covers (x0 : Nat) (x1 : Int32) (h : MH) (Q : Int32 → MH → Prop) (hw : wX10_covers x0 x1 h Q) : Cm MX10_covers 301 0 0 [.ref (x0), .int (x1)] h (pI Q) := by
  refine cm_of [some (.ref (x0)), some (.int (x1)), none, none] rfl pnX10 (Nat.le_of_ble_eq_true rfl) rfl ?_
  unfold wX10_covers at hw
  refine q_aload_nr eX10_covers_0 rfl ?_
  refine q_iconst (v := nI 0) eX10_covers_1 (by decide) ?_
  obtain ⟨hs1, hw⟩ := hw
  have hw := hw _ rfl
  refine q_putI (fwX10_1 _) rfl hs1 eX10_covers_2 ?_
  refine q_iload_n eX10_covers_5 rfl ?_
  refine q_i2l eX10_covers_6 ?_
  refine q_lconst (v := (0 : Int64)) eX10_covers_7 (by decide) ?_
  refine q_ldc2 coX10_371 eX10_covers_8 ?_
  refine q_callS (b := 0) (t := 0) (gX10_within _ _ _ _ _ hw) mlX10_149 kX10_within sX10_within rfl (by decide) rfl (Nat.le_of_ble_eq_true rfl) eX10_covers_11 (kI fun r3 h4 hw => ?_)
  obtain ⟨hw1, hw2⟩ := hw
  refine q_if_ne (tgt := 20) eX10_covers_14 (by decide) (fun c => ?_) (fun c => ?_)
  · have hw := hw1 c
    refine q_aload_nr eX10_covers_20 rfl ?_
    obtain ⟨hs5, hw⟩ := hw
    refine q_callV (b := 0) (t := 0) (gX10_lackNow _ _ _ hw) mlX10_407 kX10_lackNow vX10_lackNow rfl hs5 ⟨rfl, rfl⟩ (by decide) rfl (Nat.le_of_ble_eq_true rfl) eX10_covers_21 (kI fun r6 h7 hw => ?_)
    refine q_pop eX10_covers_24 rfl ?_
    refine q_iconst (v := nI 0) eX10_covers_25 (by decide) ?_
    refine x_istore_n (ls' := [_, _, _, _]) eX10_covers_26 (by decide) rfl rfl ?_
    refine q_iconst (v := nI 0) eX10_covers_27 (by decide) ?_
    refine x_istore_n (ls' := [_, _, _, _]) eX10_covers_28 (by decide) rfl rfl ?_
    refine q_le (ls' := [some _, some _, some _, some _]) ⟨rfl, rfl, rfl, rfl, trivial⟩ ?_
    obtain ⟨m23, hw⟩ := hw
    exact tX10_covers_29 m23 _ _ _ _ _ hw
  · have hw := hw2 c
    refine q_bipush (v := (-3 : Int32)) eX10_covers_17 (by decide) ?_
    exact q_ret rfl eX10_covers_19 ⟨_, rfl, hw⟩
def wX10_best (x0 : Nat) (h : MH) (Q : Int32 → MH → Prop) : Prop := hS h x0 = (1, 10) ∧ ∀ h2, h2 = sI h x0 0 (nI 0) → wX10_cheapestFor x0 (-1 : Int32) h2 (fun r3 h4 => Q (r3) h4)
set_option maxHeartbeats 4000000 in
set_option maxRecDepth 100000 in
theorem gX10_best (x0 : Nat) (h : MH) (Q : Int32 → MH → Prop) (hw : wX10_best x0 h Q) : Cm MX10_best 4 0 0 [.ref (x0)] h (pI Q) := by
  refine cm_of [some (.ref (x0))] rfl pnX10 (Nat.le_of_ble_eq_true rfl) rfl ?_
  unfold wX10_best at hw
  refine q_aload_nr eX10_best_0 rfl ?_
  refine q_iconst (v := nI 0) eX10_best_1 (by decide) ?_
  obtain ⟨hs1, hw⟩ := hw
  have hw := hw _ rfl
  refine q_putI (fwX10_1 _) rfl hs1 eX10_best_2 ?_
  refine q_aload_nr eX10_best_5 rfl ?_
  refine q_iconst (v := (-1 : Int32)) eX10_best_6 (by decide) ?_
  refine q_callV (b := 0) (t := 0) (gX10_cheapestFor _ _ _ _ hw) mlX10_425 kX10_cheapestFor vX10_cheapestFor rfl hs1 ⟨rfl, rfl⟩ (by decide) rfl (Nat.le_of_ble_eq_true rfl) eX10_best_7 (kI fun r3 h4 hw => ?_)
  exact q_ret rfl eX10_best_10 ⟨_, rfl, hw⟩
def wX10_spare_75 (Q : Int32 → MH → Prop) (K18 : Nat → Int32 → Int32 → MH → Prop) (x0 : Nat) (x2 : Int32) (s0 : Int32) (s1 : Int32) (h : MH) : Prop := hS h x0 = (1, 10) ∧ ∃ a18, hR h x0 1 = some a18 ∧ ∃ n21, hS h a18 = (2, n21) ∧ vp_in ((nI 49 + x2)) n21 ∧ vp_in ((nI 49 + x2)) n21 ∧ ∀ h24, h24 = sI h a18 ((nI 49 + x2)).toNatClampNeg ((hI h a18 ((nI 49 + x2)).toNatClampNeg + nI 1)) → K18 x0 (s1 ||| s0) (x2 + nI 1) h24
set_option maxHeartbeats 4000000 in
set_option maxRecDepth 100000 in
theorem tX10_spare_75 {Q : Int32 → MH → Prop} {K18 : Nat → Int32 → Int32 → MH → Prop} (hK18 : ∀ (h : MH) (x0 : Nat) (x1 : Int32) (x2 : Int32), K18 x0 x1 x2 h → Wm MX10_spare 4 0 0 18 [some (.ref (x0)), some (.int (x1)), some (.int (x2))] [] h (pI Q)) (h : MH) (x0 : Nat) (x2 : Int32) (s0 : Int32) (s1 : Int32) (hw : wX10_spare_75 Q K18 x0 x2 s0 s1 h) : Wm MX10_spare 4 0 0 75 [some (.ref (x0)), none, some (.int (x2))] [.int (s0), .int (s1)] h (pI Q) := by
  unfold wX10_spare_75 at hw
  refine q_ior eX10_spare_75 ?_
  refine x_istore_n (ls' := [_, _, _]) eX10_spare_76 (by decide) rfl rfl ?_
  refine q_aload_nr eX10_spare_77 rfl ?_
  obtain ⟨hs17, hw⟩ := hw
  obtain ⟨a18, hr19, hw⟩ := hw
  refine q_getR flX10_13 rfl hs17 hr19 eX10_spare_78 ?_
  refine q_bipush (v := nI 49) eX10_spare_81 (by decide) ?_
  refine q_iload_n eX10_spare_83 rfl ?_
  refine q_iadd eX10_spare_84 ?_
  refine q_dup2 eX10_spare_85 rfl rfl ?_
  obtain ⟨n21, hs20, hw⟩ := hw
  obtain ⟨hi22, hw⟩ := hw
  refine q_iald hs20 hi22 eX10_spare_86 ?_
  refine q_iconst (v := nI 1) eX10_spare_87 (by decide) ?_
  refine q_iadd eX10_spare_88 ?_
  obtain ⟨hi23, hw⟩ := hw
  have hw := hw _ rfl
  refine q_iast hs20 hi23 eX10_spare_89 ?_
  refine x_iinc (v := (x2 + nI 1)) (ls' := [_, _, _]) eX10_spare_90 rfl rfl rfl rfl ?_
  refine q_goto (tgt := 18) eX10_spare_93 (by decide) ?_
  refine q_le (ls' := [some _, some _, some _]) ⟨rfl, rfl, rfl, trivial⟩ ?_
  exact hK18 _ _ _ _ hw
def wX10_spare_18 (Q : Int32 → MH → Prop) : Nat → Nat → Int32 → Int32 → MH → Prop
  | 0, _, _, _, _ => False
  | n + 1, x0, x1, x2, h => hS h x0 = (1, 10) ∧ (hI h x0 23 ≤ x2 → Q (x1) h) ∧ (¬ (hI h x0 23 ≤ x2) → (nI 30 < x2 → Q (x1) h) ∧ (¬ (nI 30 < x2) → ∃ a6, hR h x0 1 = some a6 ∧ ∃ n9, hS h a6 = (2, n9) ∧ vp_in ((nI 49 + x2)) n9 ∧ (¬ (hI h a6 ((nI 49 + x2)).toNatClampNeg = 0) → vp_in ((nI 49 + x2)) n9 ∧ vp_in ((nI 49 + x2)) n9 ∧ ∀ h13, h13 = sI h a6 ((nI 49 + x2)).toNatClampNeg ((hI h a6 ((nI 49 + x2)).toNatClampNeg - nI 1)) → wX10_lackNow x0 h13 (fun r14 h15 => wX10_spare_75 Q (wX10_spare_18 Q n) x0 x2 (if r14 = 0 then (nI 1 <<< (x2 &&& 31)) else nI 0) x1 h15)) ∧ (hI h a6 ((nI 49 + x2)).toNatClampNeg = 0 → wX10_spare_18 Q n x0 x1 (x2 + nI 1) h)))
set_option maxHeartbeats 4000000 in
set_option maxRecDepth 100000 in
theorem tX10_spare_18 {Q : Int32 → MH → Prop} : ∀ (n : Nat) (h : MH) (x0 : Nat) (x1 : Int32) (x2 : Int32), wX10_spare_18 Q n x0 x1 x2 h → Wm MX10_spare 4 0 0 18 [some (.ref (x0)), some (.int (x1)), some (.int (x2))] [] h (pI Q) := by
  intro n
  induction n with
  | zero => intro h x0 x1 x2 hw; exact hw.elim
  | succ n ih =>
    intro h x0 x1 x2 hw
    unfold wX10_spare_18 at hw
    refine q_iload_n eX10_spare_18 rfl ?_
    refine q_aload_nr eX10_spare_19 rfl ?_
    obtain ⟨hs5, hw⟩ := hw
    refine q_getI flX10_216 rfl hs5 eX10_spare_20 ?_
    obtain ⟨hw1, hw2⟩ := hw
    refine q_icmp_ge (tgt := 96) eX10_spare_23 (by decide) (fun c => ?_) (fun c => ?_)
    · have hw := hw1 c
      refine q_iload_n eX10_spare_96 rfl ?_
      exact q_ret rfl eX10_spare_97 ⟨_, rfl, hw⟩
    · have hw := hw2 c
      refine q_iload_n eX10_spare_26 rfl ?_
      refine q_bipush (v := nI 30) eX10_spare_27 (by decide) ?_
      obtain ⟨hw1, hw2⟩ := hw
      refine q_icmp_gt (tgt := 96) eX10_spare_29 (by decide) (fun c => ?_) (fun c => ?_)
      · have hw := hw1 c
        refine q_iload_n eX10_spare_96 rfl ?_
        exact q_ret rfl eX10_spare_97 ⟨_, rfl, hw⟩
      · have hw := hw2 c
        refine q_aload_nr eX10_spare_32 rfl ?_
        obtain ⟨a6, hr7, hw⟩ := hw
        refine q_getR flX10_13 rfl hs5 hr7 eX10_spare_33 ?_
        refine q_bipush (v := nI 49) eX10_spare_36 (by decide) ?_
        refine q_iload_n eX10_spare_38 rfl ?_
        refine q_iadd eX10_spare_39 ?_
        obtain ⟨n9, hs8, hw⟩ := hw
        obtain ⟨hi10, hw⟩ := hw
        refine q_iald hs8 hi10 eX10_spare_40 ?_
        obtain ⟨hw1, hw2⟩ := hw
        refine q_if_ne (tgt := 47) eX10_spare_41 (by decide) (fun c => ?_) (fun c => ?_)
        · have hw := hw1 c
          refine q_aload_nr eX10_spare_47 rfl ?_
          refine q_getR flX10_13 rfl hs5 hr7 eX10_spare_48 ?_
          refine q_bipush (v := nI 49) eX10_spare_51 (by decide) ?_
          refine q_iload_n eX10_spare_53 rfl ?_
          refine q_iadd eX10_spare_54 ?_
          refine q_dup2 eX10_spare_55 rfl rfl ?_
          obtain ⟨hi11, hw⟩ := hw
          refine q_iald hs8 hi11 eX10_spare_56 ?_
          refine q_iconst (v := nI 1) eX10_spare_57 (by decide) ?_
          refine q_isub eX10_spare_58 ?_
          obtain ⟨hi12, hw⟩ := hw
          have hw := hw _ rfl
          refine q_iast hs8 hi12 eX10_spare_59 ?_
          refine q_iload_n eX10_spare_60 rfl ?_
          refine q_aload_nr eX10_spare_61 rfl ?_
          refine q_callV (b := 0) (t := 0) (gX10_lackNow _ _ _ hw) mlX10_407 kX10_lackNow vX10_lackNow rfl hs5 ⟨rfl, rfl⟩ (by decide) rfl (Nat.le_of_ble_eq_true rfl) eX10_spare_62 (kI fun r14 h15 hw => ?_)
          have hj25 : Wm MX10_spare 4 0 0 75 [some (.ref (x0)), some (.int (x1)), some (.int (x2))] [.int ((if r14 = 0 then (nI 1 <<< (x2 &&& 31)) else nI 0)), .int (x1)] h15 (pI Q) := by
            refine q_le (ls' := [some _, none, some _]) ⟨rfl, rfl, trivial⟩ ?_
            exact tX10_spare_75 ih _ _ _ _ _ hw
          refine q_if_ne (tgt := 74) eX10_spare_65 (by decide) (fun c => ?_) (fun c => ?_)
          · refine q_iconst (v := nI 0) eX10_spare_74 (by decide) ?_
            rw [if_neg c] at hj25
            exact hj25
          · refine q_iconst (v := nI 1) eX10_spare_68 (by decide) ?_
            refine q_iload_n eX10_spare_69 rfl ?_
            refine q_ishl eX10_spare_70 ?_
            refine q_goto (tgt := 75) eX10_spare_71 (by decide) ?_
            rw [if_pos c] at hj25
            exact hj25
        · have hw := hw2 c
          refine q_goto (tgt := 90) eX10_spare_44 (by decide) ?_
          refine x_iinc (v := (x2 + nI 1)) (ls' := [_, _, _]) eX10_spare_90 rfl rfl rfl rfl ?_
          refine q_goto (tgt := 18) eX10_spare_93 (by decide) ?_
          refine q_le (ls' := [some _, some _, some _]) ⟨rfl, rfl, rfl, trivial⟩ ?_
          exact ih _ _ _ _ hw
def wX10_spare (x0 : Nat) (h : MH) (Q : Int32 → MH → Prop) : Prop := hS h x0 = (1, 10) ∧ ∀ h2, h2 = sI h x0 0 (nI 0) → wX10_lackNow x0 h2 (fun r3 h4 => (r3 ≤ 0 → ∃ m26, wX10_spare_18 Q m26 x0 (nI 0) (nI 0) h4) ∧ (¬ (r3 ≤ 0) → Q (nI 0) h4))
set_option maxHeartbeats 4000000 in
set_option maxRecDepth 100000 in
theorem gX10_spare (x0 : Nat) (h : MH) (Q : Int32 → MH → Prop) (hw : wX10_spare x0 h Q) : Cm MX10_spare 4 0 0 [.ref (x0)] h (pI Q) := by
  refine cm_of [some (.ref (x0)), none, none] rfl pnX10 (Nat.le_of_ble_eq_true rfl) rfl ?_
  unfold wX10_spare at hw
  refine q_aload_nr eX10_spare_0 rfl ?_
  refine q_iconst (v := nI 0) eX10_spare_1 (by decide) ?_
  obtain ⟨hs1, hw⟩ := hw
  have hw := hw _ rfl
  refine q_putI (fwX10_1 _) rfl hs1 eX10_spare_2 ?_
  refine q_iconst (v := nI 0) eX10_spare_5 (by decide) ?_
  refine x_istore_n (ls' := [_, _, _]) eX10_spare_6 (by decide) rfl rfl ?_
  refine q_aload_nr eX10_spare_7 rfl ?_
  refine q_callV (b := 0) (t := 0) (gX10_lackNow _ _ _ hw) mlX10_407 kX10_lackNow vX10_lackNow rfl hs1 ⟨rfl, rfl⟩ (by decide) rfl (Nat.le_of_ble_eq_true rfl) eX10_spare_8 (kI fun r3 h4 hw => ?_)
  obtain ⟨hw1, hw2⟩ := hw
  refine q_if_le (tgt := 16) eX10_spare_11 (by decide) (fun c => ?_) (fun c => ?_)
  · have hw := hw1 c
    refine q_iconst (v := nI 0) eX10_spare_16 (by decide) ?_
    refine x_istore_n (ls' := [_, _, _]) eX10_spare_17 (by decide) rfl rfl ?_
    refine q_le (ls' := [some _, some _, some _]) ⟨rfl, rfl, rfl, trivial⟩ ?_
    obtain ⟨m26, hw⟩ := hw
    exact tX10_spare_18 m26 _ _ _ _ hw
  · have hw := hw2 c
    refine q_iload_n eX10_spare_14 rfl ?_
    exact q_ret rfl eX10_spare_15 ⟨_, rfl, hw⟩
def wX10_runs (x0 : Nat) (x1 : Int32) (x2 : Int32) (x3 : Int32) (h : MH) (Q : Int32 → MH → Prop) : Prop := hS h x0 = (1, 10) ∧ ∀ h2, h2 = sI h x0 0 (nI 0) → wX10_isLink x0 ((x1).toInt64) h2 (fun r3 h4 => (r3 = 0 → Q ((-2 : Int32)) h4) ∧ (¬ (r3 = 0) → hS h4 x0 = (1, 10) ∧ ∃ a6, hR h4 x0 1 = some a6 ∧ ∃ n9, hS h4 a6 = (2, n9) ∧ vp_in ((nI 39 + x1)) n9 ∧ wX10_within ((x2).toInt64) (0 : Int64) (((hI h4 a6 ((nI 39 + x1)).toNatClampNeg - nI 1)).toInt64) h4 (fun r11 h12 => (r11 = 0 → Q ((-2 : Int32)) h12) ∧ (¬ (r11 = 0) → wX10_within ((x3).toInt64) (0 : Int64) (2 : Int64) h12 (fun r13 h14 => (¬ (r13 = 0) → hS h14 x0 = (1, 10) ∧ wX10_hasFailed x0 x1 h14 (fun r16 h17 => (r16 = 0 → Q ((-1 : Int32)) h17) ∧ (¬ (r16 = 0) → hS h17 x0 = (1, 10) ∧ wX10_runOf x0 ((nI 2 * x1) + x2) (nI 0) h17 (fun r19 h20 => (¬ (r19 = 0) → (¬ (x3 = 0) → hS h20 x0 = (1, 10) ∧ wX10_runOf x0 ((nI 2 * x1) + x2) x3 h20 (fun r22 h23 => Q (r22) h23)) ∧ (x3 = 0 → hS h20 x0 = (1, 10) ∧ wX10_runOf x0 ((nI 2 * x1) + x2) (nI 0) h20 (fun r25 h26 => Q ((r25 - nI 1)) h26))) ∧ (r19 = 0 → Q ((-1 : Int32)) h20))))) ∧ (r13 = 0 → Q ((-2 : Int32)) h14))))))
set_option maxHeartbeats 4000000 in
set_option maxRecDepth 100000 in
theorem gX10_runs (x0 : Nat) (x1 : Int32) (x2 : Int32) (x3 : Int32) (h : MH) (Q : Int32 → MH → Prop) (hw : wX10_runs x0 x1 x2 x3 h Q) : Cm MX10_runs 2 0 0 [.ref (x0), .int (x1), .int (x2), .int (x3)] h (pI Q) := by
  refine cm_of [some (.ref (x0)), some (.int (x1)), some (.int (x2)), some (.int (x3))] rfl pnX10 (Nat.le_of_ble_eq_true rfl) rfl ?_
  unfold wX10_runs at hw
  refine q_aload_nr eX10_runs_0 rfl ?_
  refine q_iconst (v := nI 0) eX10_runs_1 (by decide) ?_
  obtain ⟨hs1, hw⟩ := hw
  have hw := hw _ rfl
  refine q_putI (fwX10_1 _) rfl hs1 eX10_runs_2 ?_
  refine q_aload_nr eX10_runs_5 rfl ?_
  refine q_iload_n eX10_runs_6 rfl ?_
  refine q_i2l eX10_runs_7 ?_
  refine q_callV (b := 0) (t := 0) (gX10_isLink _ _ _ _ hw) mlX10_287 kX10_isLink vX10_isLink rfl hs1 ⟨rfl, rfl⟩ (by decide) rfl (Nat.le_of_ble_eq_true rfl) eX10_runs_8 (kI fun r3 h4 hw => ?_)
  obtain ⟨hw1, hw2⟩ := hw
  refine q_if_eq (tgt := 47) eX10_runs_11 (by decide) (fun c => ?_) (fun c => ?_)
  · have hw := hw1 c
    refine q_bipush (v := (-2 : Int32)) eX10_runs_47 (by decide) ?_
    exact q_ret rfl eX10_runs_49 ⟨_, rfl, hw⟩
  · have hw := hw2 c
    refine q_iload_n eX10_runs_14 rfl ?_
    refine q_i2l eX10_runs_15 ?_
    refine q_lconst (v := (0 : Int64)) eX10_runs_16 (by decide) ?_
    refine q_aload_nr eX10_runs_17 rfl ?_
    obtain ⟨hs5, hw⟩ := hw
    obtain ⟨a6, hr7, hw⟩ := hw
    refine q_getR flX10_13 rfl hs5 hr7 eX10_runs_18 ?_
    refine q_bipush (v := nI 39) eX10_runs_21 (by decide) ?_
    refine q_iload_n eX10_runs_23 rfl ?_
    refine q_iadd eX10_runs_24 ?_
    obtain ⟨n9, hs8, hw⟩ := hw
    obtain ⟨hi10, hw⟩ := hw
    refine q_iald hs8 hi10 eX10_runs_25 ?_
    refine q_iconst (v := nI 1) eX10_runs_26 (by decide) ?_
    refine q_isub eX10_runs_27 ?_
    refine q_i2l eX10_runs_28 ?_
    refine q_callS (b := 0) (t := 0) (gX10_within _ _ _ _ _ hw) mlX10_149 kX10_within sX10_within rfl (by decide) rfl (Nat.le_of_ble_eq_true rfl) eX10_runs_29 (kI fun r11 h12 hw => ?_)
    obtain ⟨hw1, hw2⟩ := hw
    refine q_if_eq (tgt := 47) eX10_runs_32 (by decide) (fun c => ?_) (fun c => ?_)
    · have hw := hw1 c
      refine q_bipush (v := (-2 : Int32)) eX10_runs_47 (by decide) ?_
      exact q_ret rfl eX10_runs_49 ⟨_, rfl, hw⟩
    · have hw := hw2 c
      refine q_iload_n eX10_runs_35 rfl ?_
      refine q_i2l eX10_runs_36 ?_
      refine q_lconst (v := (0 : Int64)) eX10_runs_37 (by decide) ?_
      refine q_ldc2 coX10_433 eX10_runs_38 ?_
      refine q_callS (b := 0) (t := 0) (gX10_within _ _ _ _ _ hw) mlX10_149 kX10_within sX10_within rfl (by decide) rfl (Nat.le_of_ble_eq_true rfl) eX10_runs_41 (kI fun r13 h14 hw => ?_)
      obtain ⟨hw1, hw2⟩ := hw
      refine q_if_ne (tgt := 50) eX10_runs_44 (by decide) (fun c => ?_) (fun c => ?_)
      · have hw := hw1 c
        refine q_aload_nr eX10_runs_50 rfl ?_
        refine q_iload_n eX10_runs_51 rfl ?_
        obtain ⟨hs15, hw⟩ := hw
        refine q_callV (b := 0) (t := 0) (gX10_hasFailed _ _ _ _ hw) mlX10_274 kX10_hasFailed vX10_hasFailed rfl hs15 ⟨rfl, rfl⟩ (by decide) rfl (Nat.le_of_ble_eq_true rfl) eX10_runs_52 (kI fun r16 h17 hw => ?_)
        obtain ⟨hw1, hw2⟩ := hw
        refine q_if_eq (tgt := 71) eX10_runs_55 (by decide) (fun c => ?_) (fun c => ?_)
        · have hw := hw1 c
          refine q_iconst (v := (-1 : Int32)) eX10_runs_71 (by decide) ?_
          exact q_ret rfl eX10_runs_72 ⟨_, rfl, hw⟩
        · have hw := hw2 c
          refine q_aload_nr eX10_runs_58 rfl ?_
          refine q_iconst (v := nI 2) eX10_runs_59 (by decide) ?_
          refine q_iload_n eX10_runs_60 rfl ?_
          refine q_imul eX10_runs_61 ?_
          refine q_iload_n eX10_runs_62 rfl ?_
          refine q_iadd eX10_runs_63 ?_
          refine q_iconst (v := nI 0) eX10_runs_64 (by decide) ?_
          obtain ⟨hs18, hw⟩ := hw
          refine q_callV (b := 0) (t := 0) (gX10_runOf _ _ _ _ _ hw) mlX10_260 kX10_runOf vX10_runOf rfl hs18 ⟨rfl, rfl⟩ (by decide) rfl (Nat.le_of_ble_eq_true rfl) eX10_runs_65 (kI fun r19 h20 hw => ?_)
          obtain ⟨hw1, hw2⟩ := hw
          refine q_if_ne (tgt := 73) eX10_runs_68 (by decide) (fun c => ?_) (fun c => ?_)
          · have hw := hw1 c
            refine q_iload_n eX10_runs_73 rfl ?_
            obtain ⟨hw1, hw2⟩ := hw
            refine q_if_ne (tgt := 92) eX10_runs_74 (by decide) (fun c => ?_) (fun c => ?_)
            · have hw := hw1 c
              refine q_aload_nr eX10_runs_92 rfl ?_
              refine q_iconst (v := nI 2) eX10_runs_93 (by decide) ?_
              refine q_iload_n eX10_runs_94 rfl ?_
              refine q_imul eX10_runs_95 ?_
              refine q_iload_n eX10_runs_96 rfl ?_
              refine q_iadd eX10_runs_97 ?_
              refine q_iload_n eX10_runs_98 rfl ?_
              obtain ⟨hs21, hw⟩ := hw
              refine q_callV (b := 0) (t := 0) (gX10_runOf _ _ _ _ _ hw) mlX10_260 kX10_runOf vX10_runOf rfl hs21 ⟨rfl, rfl⟩ (by decide) rfl (Nat.le_of_ble_eq_true rfl) eX10_runs_99 (kI fun r22 h23 hw => ?_)
              exact q_ret rfl eX10_runs_102 ⟨_, rfl, hw⟩
            · have hw := hw2 c
              refine q_aload_nr eX10_runs_77 rfl ?_
              refine q_iconst (v := nI 2) eX10_runs_78 (by decide) ?_
              refine q_iload_n eX10_runs_79 rfl ?_
              refine q_imul eX10_runs_80 ?_
              refine q_iload_n eX10_runs_81 rfl ?_
              refine q_iadd eX10_runs_82 ?_
              refine q_iconst (v := nI 0) eX10_runs_83 (by decide) ?_
              obtain ⟨hs24, hw⟩ := hw
              refine q_callV (b := 0) (t := 0) (gX10_runOf _ _ _ _ _ hw) mlX10_260 kX10_runOf vX10_runOf rfl hs24 ⟨rfl, rfl⟩ (by decide) rfl (Nat.le_of_ble_eq_true rfl) eX10_runs_84 (kI fun r25 h26 hw => ?_)
              refine q_iconst (v := nI 1) eX10_runs_87 (by decide) ?_
              refine q_isub eX10_runs_88 ?_
              refine q_goto (tgt := 102) eX10_runs_89 (by decide) ?_
              exact q_ret rfl eX10_runs_102 ⟨_, rfl, hw⟩
          · have hw := hw2 c
            refine q_iconst (v := (-1 : Int32)) eX10_runs_71 (by decide) ?_
            exact q_ret rfl eX10_runs_72 ⟨_, rfl, hw⟩
      · have hw := hw2 c
        refine q_bipush (v := (-2 : Int32)) eX10_runs_47 (by decide) ?_
        exact q_ret rfl eX10_runs_49 ⟨_, rfl, hw⟩
def wX10_lost (x0 : Nat) (h : MH) (Q : Int32 → MH → Prop) : Prop := hS h x0 = (1, 10) ∧ ∀ h2, h2 = sI h x0 0 (nI 0) → wX10_lostNow x0 h2 (fun r3 h4 => Q (r3) h4)
set_option maxHeartbeats 4000000 in
set_option maxRecDepth 100000 in
theorem gX10_lost (x0 : Nat) (h : MH) (Q : Int32 → MH → Prop) (hw : wX10_lost x0 h Q) : Cm MX10_lost 3 0 0 [.ref (x0)] h (pI Q) := by
  refine cm_of [some (.ref (x0))] rfl pnX10 (Nat.le_of_ble_eq_true rfl) rfl ?_
  unfold wX10_lost at hw
  refine q_aload_nr eX10_lost_0 rfl ?_
  refine q_iconst (v := nI 0) eX10_lost_1 (by decide) ?_
  obtain ⟨hs1, hw⟩ := hw
  have hw := hw _ rfl
  refine q_putI (fwX10_1 _) rfl hs1 eX10_lost_2 ?_
  refine q_aload_nr eX10_lost_5 rfl ?_
  refine q_callV (b := 0) (t := 0) (gX10_lostNow _ _ _ hw) mlX10_325 kX10_lostNow vX10_lostNow rfl hs1 ⟨rfl, rfl⟩ (by decide) rfl (Nat.le_of_ble_eq_true rfl) eX10_lost_6 (kI fun r3 h4 hw => ?_)
  exact q_ret rfl eX10_lost_9 ⟨_, rfl, hw⟩
def wX10_lostWith (x0 : Nat) (x1 : Int32) (h : MH) (Q : Int32 → MH → Prop) : Prop := hS h x0 = (1, 10) ∧ wX10_stores x0 h (fun h3 => hS h3 x0 = (1, 10) ∧ wX10_goesFail x0 x1 h3 (fun h6 => hS h6 x0 = (1, 10) ∧ wX10_lostNow x0 h6 (fun r8 h9 => hS h9 x0 = (1, 10) ∧ wX10_isAgain x0 h9 (fun h12 => Q (r8) h12))))
set_option maxHeartbeats 4000000 in
set_option maxRecDepth 100000 in
theorem gX10_lostWith (x0 : Nat) (x1 : Int32) (h : MH) (Q : Int32 → MH → Prop) (hw : wX10_lostWith x0 x1 h Q) : Cm MX10_lostWith 7 0 0 [.ref (x0), .int (x1)] h (pI Q) := by
  refine cm_of [some (.ref (x0)), some (.int (x1)), none] rfl pnX10 (Nat.le_of_ble_eq_true rfl) rfl ?_
  unfold wX10_lostWith at hw
  refine q_aload_nr eX10_lostWith_0 rfl ?_
  obtain ⟨hs1, hw⟩ := hw
  refine q_callV (b := 0) (t := 0) (gX10_stores _ _ _ hw) mlX10_304 kX10_stores vX10_stores rfl hs1 ⟨rfl, rfl⟩ (by decide) rfl (Nat.le_of_ble_eq_true rfl) eX10_lostWith_1 (kV fun h3 hw => ?_)
  refine q_aload_nr eX10_lostWith_4 rfl ?_
  refine q_iload_n eX10_lostWith_5 rfl ?_
  obtain ⟨hs4, hw⟩ := hw
  refine q_callV (b := 0) (t := 0) (gX10_goesFail _ _ _ _ hw) mlX10_322 kX10_goesFail vX10_goesFail rfl hs4 ⟨rfl, rfl⟩ (by decide) rfl (Nat.le_of_ble_eq_true rfl) eX10_lostWith_6 (kV fun h6 hw => ?_)
  refine q_aload_nr eX10_lostWith_9 rfl ?_
  obtain ⟨hs7, hw⟩ := hw
  refine q_callV (b := 0) (t := 0) (gX10_lostNow _ _ _ hw) mlX10_325 kX10_lostNow vX10_lostNow rfl hs7 ⟨rfl, rfl⟩ (by decide) rfl (Nat.le_of_ble_eq_true rfl) eX10_lostWith_10 (kI fun r8 h9 hw => ?_)
  refine x_istore_n (ls' := [_, _, _]) eX10_lostWith_13 (by decide) rfl rfl ?_
  refine q_aload_nr eX10_lostWith_14 rfl ?_
  obtain ⟨hs10, hw⟩ := hw
  refine q_callV (b := 0) (t := 0) (gX10_isAgain _ _ _ hw) mlX10_341 kX10_isAgain vX10_isAgain rfl hs10 ⟨rfl, rfl⟩ (by decide) rfl (Nat.le_of_ble_eq_true rfl) eX10_lostWith_15 (kV fun h12 hw => ?_)
  refine q_iload_n eX10_lostWith_18 rfl ?_
  exact q_ret rfl eX10_lostWith_19 ⟨_, rfl, hw⟩
def wX10_ifFails (x0 : Nat) (x1 : Int32) (h : MH) (Q : Int32 → MH → Prop) : Prop := hS h x0 = (1, 10) ∧ ∀ h2, h2 = sI h x0 0 (nI 0) → wX10_isLink x0 ((x1).toInt64) h2 (fun r3 h4 => (¬ (r3 = 0) → hS h4 x0 = (1, 10) ∧ wX10_hasFailed x0 x1 h4 (fun r6 h7 => (r6 = 0 → hS h7 x0 = (1, 10) ∧ wX10_lostWith x0 x1 h7 (fun r9 h10 => Q (r9) h10)) ∧ (¬ (r6 = 0) → Q ((-5 : Int32)) h7))) ∧ (r3 = 0 → Q ((-2 : Int32)) h4))
set_option maxHeartbeats 4000000 in
set_option maxRecDepth 100000 in
theorem gX10_ifFails (x0 : Nat) (x1 : Int32) (h : MH) (Q : Int32 → MH → Prop) (hw : wX10_ifFails x0 x1 h Q) : Cm MX10_ifFails 8 0 0 [.ref (x0), .int (x1)] h (pI Q) := by
  refine cm_of [some (.ref (x0)), some (.int (x1))] rfl pnX10 (Nat.le_of_ble_eq_true rfl) rfl ?_
  unfold wX10_ifFails at hw
  refine q_aload_nr eX10_ifFails_0 rfl ?_
  refine q_iconst (v := nI 0) eX10_ifFails_1 (by decide) ?_
  obtain ⟨hs1, hw⟩ := hw
  have hw := hw _ rfl
  refine q_putI (fwX10_1 _) rfl hs1 eX10_ifFails_2 ?_
  refine q_aload_nr eX10_ifFails_5 rfl ?_
  refine q_iload_n eX10_ifFails_6 rfl ?_
  refine q_i2l eX10_ifFails_7 ?_
  refine q_callV (b := 0) (t := 0) (gX10_isLink _ _ _ _ hw) mlX10_287 kX10_isLink vX10_isLink rfl hs1 ⟨rfl, rfl⟩ (by decide) rfl (Nat.le_of_ble_eq_true rfl) eX10_ifFails_8 (kI fun r3 h4 hw => ?_)
  obtain ⟨hw1, hw2⟩ := hw
  refine q_if_ne (tgt := 17) eX10_ifFails_11 (by decide) (fun c => ?_) (fun c => ?_)
  · have hw := hw1 c
    refine q_aload_nr eX10_ifFails_17 rfl ?_
    refine q_iload_n eX10_ifFails_18 rfl ?_
    obtain ⟨hs5, hw⟩ := hw
    refine q_callV (b := 0) (t := 0) (gX10_hasFailed _ _ _ _ hw) mlX10_274 kX10_hasFailed vX10_hasFailed rfl hs5 ⟨rfl, rfl⟩ (by decide) rfl (Nat.le_of_ble_eq_true rfl) eX10_ifFails_19 (kI fun r6 h7 hw => ?_)
    obtain ⟨hw1, hw2⟩ := hw
    refine q_if_eq (tgt := 30) eX10_ifFails_22 (by decide) (fun c => ?_) (fun c => ?_)
    · have hw := hw1 c
      refine q_aload_nr eX10_ifFails_30 rfl ?_
      refine q_iload_n eX10_ifFails_31 rfl ?_
      obtain ⟨hs8, hw⟩ := hw
      refine q_callV (b := 0) (t := 0) (gX10_lostWith _ _ _ _ hw) mlX10_435 kX10_lostWith vX10_lostWith rfl hs8 ⟨rfl, rfl⟩ (by decide) rfl (Nat.le_of_ble_eq_true rfl) eX10_ifFails_32 (kI fun r9 h10 hw => ?_)
      exact q_ret rfl eX10_ifFails_35 ⟨_, rfl, hw⟩
    · have hw := hw2 c
      refine q_bipush (v := (-5 : Int32)) eX10_ifFails_25 (by decide) ?_
      refine q_goto (tgt := 35) eX10_ifFails_27 (by decide) ?_
      exact q_ret rfl eX10_ifFails_35 ⟨_, rfl, hw⟩
  · have hw := hw2 c
    refine q_bipush (v := (-2 : Int32)) eX10_ifFails_14 (by decide) ?_
    exact q_ret rfl eX10_ifFails_16 ⟨_, rfl, hw⟩
def wX10_worst_11 (Q : Int32 → MH → Prop) : Nat → Nat → Int32 → Int32 → Int32 → MH → Prop
  | 0, _, _, _, _, _ => False
  | n + 1, x0, x1, x2, x3, h => hS h x0 = (1, 10) ∧ ∃ a4, hR h x0 1 = some a4 ∧ ∃ n7, hS h a4 = (2, n7) ∧ vp_in (nI 2) n7 ∧ (hI h a4 (nI 2).toNatClampNeg ≤ x3 → Q (x1) h) ∧ (¬ (hI h a4 (nI 2).toNatClampNeg ≤ x3) → wX10_hasFailed x0 x3 h (fun r9 h10 => (r9 = 0 → hS h10 x0 = (1, 10) ∧ wX10_lostWith x0 x3 h10 (fun r12 h13 => (x2 < r12 → wX10_worst_11 Q n x0 x3 r12 (x3 + nI 1) h13) ∧ (¬ (x2 < r12) → wX10_worst_11 Q n x0 x1 x2 (x3 + nI 1) h13))) ∧ (¬ (r9 = 0) → wX10_worst_11 Q n x0 x1 x2 (x3 + nI 1) h10)))
set_option maxHeartbeats 4000000 in
set_option maxRecDepth 100000 in
theorem tX10_worst_11 {Q : Int32 → MH → Prop} : ∀ (n : Nat) (h : MH) (x0 : Nat) (x1 : Int32) (x2 : Int32) (x3 : Int32), wX10_worst_11 Q n x0 x1 x2 x3 h → Wm MX10_worst 8 0 0 11 [some (.ref (x0)), some (.int (x1)), some (.int (x2)), some (.int (x3)), none] [] h (pI Q) := by
  intro n
  induction n with
  | zero => intro h x0 x1 x2 x3 hw; exact hw.elim
  | succ n ih =>
    intro h x0 x1 x2 x3 hw
    unfold wX10_worst_11 at hw
    refine q_iload_n eX10_worst_11 rfl ?_
    refine q_aload_nr eX10_worst_12 rfl ?_
    obtain ⟨hs3, hw⟩ := hw
    obtain ⟨a4, hr5, hw⟩ := hw
    refine q_getR flX10_13 rfl hs3 hr5 eX10_worst_13 ?_
    refine q_iconst (v := nI 2) eX10_worst_16 (by decide) ?_
    obtain ⟨n7, hs6, hw⟩ := hw
    obtain ⟨hi8, hw⟩ := hw
    refine q_iald hs6 hi8 eX10_worst_17 ?_
    obtain ⟨hw1, hw2⟩ := hw
    refine q_icmp_ge (tgt := 59) eX10_worst_18 (by decide) (fun c => ?_) (fun c => ?_)
    · have hw := hw1 c
      refine q_iload_n eX10_worst_59 rfl ?_
      exact q_ret rfl eX10_worst_60 ⟨_, rfl, hw⟩
    · have hw := hw2 c
      refine q_aload_nr eX10_worst_21 rfl ?_
      refine q_iload_n eX10_worst_22 rfl ?_
      refine q_callV (b := 0) (t := 0) (gX10_hasFailed _ _ _ _ hw) mlX10_274 kX10_hasFailed vX10_hasFailed rfl hs3 ⟨rfl, rfl⟩ (by decide) rfl (Nat.le_of_ble_eq_true rfl) eX10_worst_23 (kI fun r9 h10 hw => ?_)
      obtain ⟨hw1, hw2⟩ := hw
      refine q_if_eq (tgt := 32) eX10_worst_26 (by decide) (fun c => ?_) (fun c => ?_)
      · have hw := hw1 c
        refine q_aload_nr eX10_worst_32 rfl ?_
        refine q_iload_n eX10_worst_33 rfl ?_
        obtain ⟨hs11, hw⟩ := hw
        refine q_callV (b := 0) (t := 0) (gX10_lostWith _ _ _ _ hw) mlX10_435 kX10_lostWith vX10_lostWith rfl hs11 ⟨rfl, rfl⟩ (by decide) rfl (Nat.le_of_ble_eq_true rfl) eX10_worst_34 (kI fun r12 h13 hw => ?_)
        refine x_istore (ls' := [_, _, _, _, _]) eX10_worst_37 (by decide) rfl rfl ?_
        refine q_iload eX10_worst_39 rfl ?_
        refine q_iload_n eX10_worst_41 rfl ?_
        obtain ⟨hw1, hw2⟩ := hw
        refine q_icmp_gt (tgt := 48) eX10_worst_42 (by decide) (fun c => ?_) (fun c => ?_)
        · have hw := hw1 c
          refine q_iload_n eX10_worst_48 rfl ?_
          refine x_istore_n (ls' := [_, _, _, _, _]) eX10_worst_49 (by decide) rfl rfl ?_
          refine q_iload eX10_worst_50 rfl ?_
          refine x_istore_n (ls' := [_, _, _, _, _]) eX10_worst_52 (by decide) rfl rfl ?_
          refine x_iinc (v := (x3 + nI 1)) (ls' := [_, _, _, _, _]) eX10_worst_53 rfl rfl rfl rfl ?_
          refine q_goto (tgt := 11) eX10_worst_56 (by decide) ?_
          refine q_le (ls' := [some _, some _, some _, some _, none]) ⟨rfl, rfl, rfl, rfl, trivial⟩ ?_
          exact ih _ _ _ _ _ hw
        · have hw := hw2 c
          refine q_goto (tgt := 53) eX10_worst_45 (by decide) ?_
          refine x_iinc (v := (x3 + nI 1)) (ls' := [_, _, _, _, _]) eX10_worst_53 rfl rfl rfl rfl ?_
          refine q_goto (tgt := 11) eX10_worst_56 (by decide) ?_
          refine q_le (ls' := [some _, some _, some _, some _, none]) ⟨rfl, rfl, rfl, rfl, trivial⟩ ?_
          exact ih _ _ _ _ _ hw
      · have hw := hw2 c
        refine q_goto (tgt := 53) eX10_worst_29 (by decide) ?_
        refine x_iinc (v := (x3 + nI 1)) (ls' := [_, _, _, _, _]) eX10_worst_53 rfl rfl rfl rfl ?_
        refine q_goto (tgt := 11) eX10_worst_56 (by decide) ?_
        refine q_le (ls' := [some _, some _, some _, some _, none]) ⟨rfl, rfl, rfl, rfl, trivial⟩ ?_
        exact ih _ _ _ _ _ hw
def wX10_worst (x0 : Nat) (h : MH) (Q : Int32 → MH → Prop) : Prop := hS h x0 = (1, 10) ∧ ∀ h2, h2 = sI h x0 0 (nI 0) → ∃ m14, wX10_worst_11 Q m14 x0 (-1 : Int32) (-1 : Int32) (nI 0) h2
set_option maxHeartbeats 4000000 in
set_option maxRecDepth 100000 in
theorem gX10_worst (x0 : Nat) (h : MH) (Q : Int32 → MH → Prop) (hw : wX10_worst x0 h Q) : Cm MX10_worst 8 0 0 [.ref (x0)] h (pI Q) := by
  refine cm_of [some (.ref (x0)), none, none, none, none] rfl pnX10 (Nat.le_of_ble_eq_true rfl) rfl ?_
  unfold wX10_worst at hw
  refine q_aload_nr eX10_worst_0 rfl ?_
  refine q_iconst (v := nI 0) eX10_worst_1 (by decide) ?_
  obtain ⟨hs1, hw⟩ := hw
  have hw := hw _ rfl
  refine q_putI (fwX10_1 _) rfl hs1 eX10_worst_2 ?_
  refine q_iconst (v := (-1 : Int32)) eX10_worst_5 (by decide) ?_
  refine x_istore_n (ls' := [_, _, _, _, _]) eX10_worst_6 (by decide) rfl rfl ?_
  refine q_iconst (v := (-1 : Int32)) eX10_worst_7 (by decide) ?_
  refine x_istore_n (ls' := [_, _, _, _, _]) eX10_worst_8 (by decide) rfl rfl ?_
  refine q_iconst (v := nI 0) eX10_worst_9 (by decide) ?_
  refine x_istore_n (ls' := [_, _, _, _, _]) eX10_worst_10 (by decide) rfl rfl ?_
  refine q_le (ls' := [some _, some _, some _, some _, none]) ⟨rfl, rfl, rfl, rfl, trivial⟩ ?_
  obtain ⟨m14, hw⟩ := hw
  exact tX10_worst_11 m14 _ _ _ _ _ hw
def wX10_lostBy (x0 : Nat) (x1 : Int32) (x2 : Int32) (h : MH) (Q : Int32 → MH → Prop) : Prop := hS h x0 = (1, 10) ∧ wX10_stores x0 h (fun h3 => hS h3 x0 = (1, 10) ∧ wX10_isFresh x0 h3 (fun h6 => hS h6 x0 = (1, 10) ∧ wX10_goesFail x0 x1 h6 (fun h9 => hS h9 x0 = (1, 10) ∧ wX10_goesFail x0 x2 h9 (fun h12 => hS h12 x0 = (1, 10) ∧ wX10_lostNow x0 h12 (fun r14 h15 => hS h15 x0 = (1, 10) ∧ wX10_isAgain x0 h15 (fun h18 => Q (r14) h18))))))
set_option maxHeartbeats 4000000 in
set_option maxRecDepth 100000 in
theorem gX10_lostBy (x0 : Nat) (x1 : Int32) (x2 : Int32) (h : MH) (Q : Int32 → MH → Prop) (hw : wX10_lostBy x0 x1 x2 h Q) : Cm MX10_lostBy 7 0 0 [.ref (x0), .int (x1), .int (x2)] h (pI Q) := by
  refine cm_of [some (.ref (x0)), some (.int (x1)), some (.int (x2)), none] rfl pnX10 (Nat.le_of_ble_eq_true rfl) rfl ?_
  unfold wX10_lostBy at hw
  refine q_aload_nr eX10_lostBy_0 rfl ?_
  obtain ⟨hs1, hw⟩ := hw
  refine q_callV (b := 0) (t := 0) (gX10_stores _ _ _ hw) mlX10_304 kX10_stores vX10_stores rfl hs1 ⟨rfl, rfl⟩ (by decide) rfl (Nat.le_of_ble_eq_true rfl) eX10_lostBy_1 (kV fun h3 hw => ?_)
  refine q_aload_nr eX10_lostBy_4 rfl ?_
  obtain ⟨hs4, hw⟩ := hw
  refine q_callV (b := 0) (t := 0) (gX10_isFresh _ _ _ hw) mlX10_284 kX10_isFresh vX10_isFresh rfl hs4 ⟨rfl, rfl⟩ (by decide) rfl (Nat.le_of_ble_eq_true rfl) eX10_lostBy_5 (kV fun h6 hw => ?_)
  refine q_aload_nr eX10_lostBy_8 rfl ?_
  refine q_iload_n eX10_lostBy_9 rfl ?_
  obtain ⟨hs7, hw⟩ := hw
  refine q_callV (b := 0) (t := 0) (gX10_goesFail _ _ _ _ hw) mlX10_322 kX10_goesFail vX10_goesFail rfl hs7 ⟨rfl, rfl⟩ (by decide) rfl (Nat.le_of_ble_eq_true rfl) eX10_lostBy_10 (kV fun h9 hw => ?_)
  refine q_aload_nr eX10_lostBy_13 rfl ?_
  refine q_iload_n eX10_lostBy_14 rfl ?_
  obtain ⟨hs10, hw⟩ := hw
  refine q_callV (b := 0) (t := 0) (gX10_goesFail _ _ _ _ hw) mlX10_322 kX10_goesFail vX10_goesFail rfl hs10 ⟨rfl, rfl⟩ (by decide) rfl (Nat.le_of_ble_eq_true rfl) eX10_lostBy_15 (kV fun h12 hw => ?_)
  refine q_aload_nr eX10_lostBy_18 rfl ?_
  obtain ⟨hs13, hw⟩ := hw
  refine q_callV (b := 0) (t := 0) (gX10_lostNow _ _ _ hw) mlX10_325 kX10_lostNow vX10_lostNow rfl hs13 ⟨rfl, rfl⟩ (by decide) rfl (Nat.le_of_ble_eq_true rfl) eX10_lostBy_19 (kI fun r14 h15 hw => ?_)
  refine x_istore_n (ls' := [_, _, _, _]) eX10_lostBy_22 (by decide) rfl rfl ?_
  refine q_aload_nr eX10_lostBy_23 rfl ?_
  obtain ⟨hs16, hw⟩ := hw
  refine q_callV (b := 0) (t := 0) (gX10_isAgain _ _ _ hw) mlX10_341 kX10_isAgain vX10_isAgain rfl hs16 ⟨rfl, rfl⟩ (by decide) rfl (Nat.le_of_ble_eq_true rfl) eX10_lostBy_24 (kV fun h18 hw => ?_)
  refine q_iload_n eX10_lostBy_27 rfl ?_
  exact q_ret rfl eX10_lostBy_28 ⟨_, rfl, hw⟩
def wX10_two (x0 : Nat) (x1 : Int32) (x2 : Int32) (h : MH) (Q : Int32 → MH → Prop) : Prop := hS h x0 = (1, 10) ∧ ∀ h2, h2 = sI h x0 0 (nI 0) → wX10_isLink x0 ((x1).toInt64) h2 (fun r3 h4 => (r3 = 0 → Q ((-2 : Int32)) h4) ∧ (¬ (r3 = 0) → hS h4 x0 = (1, 10) ∧ wX10_isLink x0 ((x2).toInt64) h4 (fun r6 h7 => (r6 = 0 → Q ((-2 : Int32)) h7) ∧ (¬ (r6 = 0) → (x1 = x2 → Q ((-2 : Int32)) h7) ∧ (¬ (x1 = x2) → hS h7 x0 = (1, 10) ∧ wX10_lostBy x0 x1 x2 h7 (fun r9 h10 => Q (r9) h10))))))
set_option maxHeartbeats 4000000 in
set_option maxRecDepth 100000 in
theorem gX10_two (x0 : Nat) (x1 : Int32) (x2 : Int32) (h : MH) (Q : Int32 → MH → Prop) (hw : wX10_two x0 x1 x2 h Q) : Cm MX10_two 8 0 0 [.ref (x0), .int (x1), .int (x2)] h (pI Q) := by
  refine cm_of [some (.ref (x0)), some (.int (x1)), some (.int (x2))] rfl pnX10 (Nat.le_of_ble_eq_true rfl) rfl ?_
  unfold wX10_two at hw
  refine q_aload_nr eX10_two_0 rfl ?_
  refine q_iconst (v := nI 0) eX10_two_1 (by decide) ?_
  obtain ⟨hs1, hw⟩ := hw
  have hw := hw _ rfl
  refine q_putI (fwX10_1 _) rfl hs1 eX10_two_2 ?_
  refine q_aload_nr eX10_two_5 rfl ?_
  refine q_iload_n eX10_two_6 rfl ?_
  refine q_i2l eX10_two_7 ?_
  refine q_callV (b := 0) (t := 0) (gX10_isLink _ _ _ _ hw) mlX10_287 kX10_isLink vX10_isLink rfl hs1 ⟨rfl, rfl⟩ (by decide) rfl (Nat.le_of_ble_eq_true rfl) eX10_two_8 (kI fun r3 h4 hw => ?_)
  obtain ⟨hw1, hw2⟩ := hw
  refine q_if_eq (tgt := 37) eX10_two_11 (by decide) (fun c => ?_) (fun c => ?_)
  · have hw := hw1 c
    refine q_bipush (v := (-2 : Int32)) eX10_two_37 (by decide) ?_
    exact q_ret rfl eX10_two_39 ⟨_, rfl, hw⟩
  · have hw := hw2 c
    refine q_aload_nr eX10_two_14 rfl ?_
    refine q_iload_n eX10_two_15 rfl ?_
    refine q_i2l eX10_two_16 ?_
    obtain ⟨hs5, hw⟩ := hw
    refine q_callV (b := 0) (t := 0) (gX10_isLink _ _ _ _ hw) mlX10_287 kX10_isLink vX10_isLink rfl hs5 ⟨rfl, rfl⟩ (by decide) rfl (Nat.le_of_ble_eq_true rfl) eX10_two_17 (kI fun r6 h7 hw => ?_)
    obtain ⟨hw1, hw2⟩ := hw
    refine q_if_eq (tgt := 37) eX10_two_20 (by decide) (fun c => ?_) (fun c => ?_)
    · have hw := hw1 c
      refine q_bipush (v := (-2 : Int32)) eX10_two_37 (by decide) ?_
      exact q_ret rfl eX10_two_39 ⟨_, rfl, hw⟩
    · have hw := hw2 c
      refine q_iload_n eX10_two_23 rfl ?_
      refine q_iload_n eX10_two_24 rfl ?_
      obtain ⟨hw1, hw2⟩ := hw
      refine q_icmp_eq (tgt := 37) eX10_two_25 (by decide) (fun c => ?_) (fun c => ?_)
      · have hw := hw1 c
        refine q_bipush (v := (-2 : Int32)) eX10_two_37 (by decide) ?_
        exact q_ret rfl eX10_two_39 ⟨_, rfl, hw⟩
      · have hw := hw2 c
        refine q_aload_nr eX10_two_28 rfl ?_
        refine q_iload_n eX10_two_29 rfl ?_
        refine q_iload_n eX10_two_30 rfl ?_
        obtain ⟨hs8, hw⟩ := hw
        refine q_callV (b := 0) (t := 0) (gX10_lostBy _ _ _ _ _ hw) mlX10_438 kX10_lostBy vX10_lostBy rfl hs8 ⟨rfl, rfl⟩ (by decide) rfl (Nat.le_of_ble_eq_true rfl) eX10_two_31 (kI fun r9 h10 hw => ?_)
        refine q_goto (tgt := 39) eX10_two_34 (by decide) ?_
        exact q_ret rfl eX10_two_39 ⟨_, rfl, hw⟩
def wX10_twos_94 (Q : Int32 → MH → Prop) (K33 : Nat → Int32 → Int32 → Int32 → Int32 → Int32 → Int32 → MH → Prop) (K47 : Nat → Int32 → Int32 → Int32 → Int32 → Int32 → Int32 → Int32 → MH → Prop) (x0 : Nat) (x1 : Int32) (x2 : Int32) (x4 : Int32) (x5 : Int32) (x6 : Int32) (x7 : Int32) (x8 : Int32) (s0 : Int32) (s1 : Int32) (h : MH) : Prop := (x5 < x8 → K47 x0 x1 x2 (s1 + s0) ((nI 10 * x6) + x7) x8 x6 (x7 + nI 1) h) ∧ (¬ (x5 < x8) → K47 x0 x1 x2 (s1 + s0) x4 x5 x6 (x7 + nI 1) h)
set_option maxHeartbeats 4000000 in
set_option maxRecDepth 100000 in
theorem tX10_twos_94 {Q : Int32 → MH → Prop} {K33 : Nat → Int32 → Int32 → Int32 → Int32 → Int32 → Int32 → MH → Prop} {K47 : Nat → Int32 → Int32 → Int32 → Int32 → Int32 → Int32 → Int32 → MH → Prop} (hK33 : ∀ (h : MH) (x0 : Nat) (x1 : Int32) (x2 : Int32) (x3 : Int32) (x4 : Int32) (x5 : Int32) (x6 : Int32), K33 x0 x1 x2 x3 x4 x5 x6 h → Wm MX10_twos 8 0 0 33 [some (.ref (x0)), some (.int (x1)), some (.int (x2)), some (.int (x3)), some (.int (x4)), some (.int (x5)), some (.int (x6)), none, none] [] h (pI Q)) (hK47 : ∀ (h : MH) (x0 : Nat) (x1 : Int32) (x2 : Int32) (x3 : Int32) (x4 : Int32) (x5 : Int32) (x6 : Int32) (x7 : Int32), K47 x0 x1 x2 x3 x4 x5 x6 x7 h → Wm MX10_twos 8 0 0 47 [some (.ref (x0)), some (.int (x1)), some (.int (x2)), some (.int (x3)), some (.int (x4)), some (.int (x5)), some (.int (x6)), some (.int (x7)), none] [] h (pI Q)) (h : MH) (x0 : Nat) (x1 : Int32) (x2 : Int32) (x4 : Int32) (x5 : Int32) (x6 : Int32) (x7 : Int32) (x8 : Int32) (s0 : Int32) (s1 : Int32) (hw : wX10_twos_94 Q K33 K47 x0 x1 x2 x4 x5 x6 x7 x8 s0 s1 h) : Wm MX10_twos 8 0 0 94 [some (.ref (x0)), some (.int (x1)), some (.int (x2)), none, some (.int (x4)), some (.int (x5)), some (.int (x6)), some (.int (x7)), some (.int (x8))] [.int (s0), .int (s1)] h (pI Q) := by
  unfold wX10_twos_94 at hw
  refine q_iadd eX10_twos_94 ?_
  refine x_istore_n (ls' := [_, _, _, _, _, _, _, _, _]) eX10_twos_95 (by decide) rfl rfl ?_
  refine q_iload eX10_twos_96 rfl ?_
  refine q_iload eX10_twos_98 rfl ?_
  obtain ⟨hw1, hw2⟩ := hw
  refine q_icmp_gt (tgt := 106) eX10_twos_100 (by decide) (fun c => ?_) (fun c => ?_)
  · have hw := hw1 c
    refine q_bipush (v := nI 10) eX10_twos_106 (by decide) ?_
    refine q_iload eX10_twos_108 rfl ?_
    refine q_imul eX10_twos_110 ?_
    refine q_iload eX10_twos_111 rfl ?_
    refine q_iadd eX10_twos_113 ?_
    refine x_istore (ls' := [_, _, _, _, _, _, _, _, _]) eX10_twos_114 (by decide) rfl rfl ?_
    refine q_iload eX10_twos_116 rfl ?_
    refine x_istore (ls' := [_, _, _, _, _, _, _, _, _]) eX10_twos_118 (by decide) rfl rfl ?_
    refine x_iinc (v := (x7 + nI 1)) (ls' := [_, _, _, _, _, _, _, _, _]) eX10_twos_120 rfl rfl rfl rfl ?_
    refine q_goto (tgt := 47) eX10_twos_123 (by decide) ?_
    refine q_le (ls' := [some _, some _, some _, some _, some _, some _, some _, some _, none]) ⟨rfl, rfl, rfl, rfl, rfl, rfl, rfl, rfl, trivial⟩ ?_
    exact hK47 _ _ _ _ _ _ _ _ _ hw
  · have hw := hw2 c
    refine q_goto (tgt := 120) eX10_twos_103 (by decide) ?_
    refine x_iinc (v := (x7 + nI 1)) (ls' := [_, _, _, _, _, _, _, _, _]) eX10_twos_120 rfl rfl rfl rfl ?_
    refine q_goto (tgt := 47) eX10_twos_123 (by decide) ?_
    refine q_le (ls' := [some _, some _, some _, some _, some _, some _, some _, some _, none]) ⟨rfl, rfl, rfl, rfl, rfl, rfl, rfl, rfl, trivial⟩ ?_
    exact hK47 _ _ _ _ _ _ _ _ _ hw
def wX10_twos_47 (Q : Int32 → MH → Prop) (K33 : Nat → Int32 → Int32 → Int32 → Int32 → Int32 → Int32 → MH → Prop) : Nat → Nat → Int32 → Int32 → Int32 → Int32 → Int32 → Int32 → Int32 → MH → Prop
  | 0, _, _, _, _, _, _, _, _, _ => False
  | n + 1, x0, x1, x2, x3, x4, x5, x6, x7, h => hS h x0 = (1, 10) ∧ ∃ a15, hR h x0 1 = some a15 ∧ ∃ n18, hS h a15 = (2, n18) ∧ vp_in (nI 2) n18 ∧ (hI h a15 (nI 2).toNatClampNeg ≤ x7 → K33 x0 x1 x2 x3 x4 x5 (x6 + nI 1) h) ∧ (¬ (hI h a15 (nI 2).toNatClampNeg ≤ x7) → (¬ (x6 = x7) → wX10_lostBy x0 x6 x7 h (fun r20 h21 => wX10_twos_94 Q K33 (wX10_twos_47 Q K33 n) x0 x1 (x2 + r20) x4 x5 x6 x7 r20 (if r20 ≤ 0 then nI 0 else nI 1) x3 h21)) ∧ (x6 = x7 → wX10_twos_47 Q K33 n x0 x1 x2 x3 x4 x5 x6 (x7 + nI 1) h))
set_option maxHeartbeats 4000000 in
set_option maxRecDepth 100000 in
theorem tX10_twos_47 {Q : Int32 → MH → Prop} {K33 : Nat → Int32 → Int32 → Int32 → Int32 → Int32 → Int32 → MH → Prop} (hK33 : ∀ (h : MH) (x0 : Nat) (x1 : Int32) (x2 : Int32) (x3 : Int32) (x4 : Int32) (x5 : Int32) (x6 : Int32), K33 x0 x1 x2 x3 x4 x5 x6 h → Wm MX10_twos 8 0 0 33 [some (.ref (x0)), some (.int (x1)), some (.int (x2)), some (.int (x3)), some (.int (x4)), some (.int (x5)), some (.int (x6)), none, none] [] h (pI Q)) : ∀ (n : Nat) (h : MH) (x0 : Nat) (x1 : Int32) (x2 : Int32) (x3 : Int32) (x4 : Int32) (x5 : Int32) (x6 : Int32) (x7 : Int32), wX10_twos_47 Q K33 n x0 x1 x2 x3 x4 x5 x6 x7 h → Wm MX10_twos 8 0 0 47 [some (.ref (x0)), some (.int (x1)), some (.int (x2)), some (.int (x3)), some (.int (x4)), some (.int (x5)), some (.int (x6)), some (.int (x7)), none] [] h (pI Q) := by
  intro n
  induction n with
  | zero => intro h x0 x1 x2 x3 x4 x5 x6 x7 hw; exact hw.elim
  | succ n ih =>
    intro h x0 x1 x2 x3 x4 x5 x6 x7 hw
    unfold wX10_twos_47 at hw
    refine q_iload eX10_twos_47 rfl ?_
    refine q_aload_nr eX10_twos_49 rfl ?_
    obtain ⟨hs14, hw⟩ := hw
    obtain ⟨a15, hr16, hw⟩ := hw
    refine q_getR flX10_13 rfl hs14 hr16 eX10_twos_50 ?_
    refine q_iconst (v := nI 2) eX10_twos_53 (by decide) ?_
    obtain ⟨n18, hs17, hw⟩ := hw
    obtain ⟨hi19, hw⟩ := hw
    refine q_iald hs17 hi19 eX10_twos_54 ?_
    obtain ⟨hw1, hw2⟩ := hw
    refine q_icmp_ge (tgt := 126) eX10_twos_55 (by decide) (fun c => ?_) (fun c => ?_)
    · have hw := hw1 c
      refine x_iinc (v := (x6 + nI 1)) (ls' := [_, _, _, _, _, _, _, _, _]) eX10_twos_126 rfl rfl rfl rfl ?_
      refine q_goto (tgt := 33) eX10_twos_129 (by decide) ?_
      refine q_le (ls' := [some _, some _, some _, some _, some _, some _, some _, none, none]) ⟨rfl, rfl, rfl, rfl, rfl, rfl, rfl, trivial⟩ ?_
      exact hK33 _ _ _ _ _ _ _ _ hw
    · have hw := hw2 c
      refine q_iload eX10_twos_58 rfl ?_
      refine q_iload eX10_twos_60 rfl ?_
      obtain ⟨hw1, hw2⟩ := hw
      refine q_icmp_ne (tgt := 68) eX10_twos_62 (by decide) (fun c => ?_) (fun c => ?_)
      · have hw := hw1 c
        refine q_aload_nr eX10_twos_68 rfl ?_
        refine q_iload eX10_twos_69 rfl ?_
        refine q_iload eX10_twos_71 rfl ?_
        refine q_callV (b := 0) (t := 0) (gX10_lostBy _ _ _ _ _ hw) mlX10_438 kX10_lostBy vX10_lostBy rfl hs14 ⟨rfl, rfl⟩ (by decide) rfl (Nat.le_of_ble_eq_true rfl) eX10_twos_73 (kI fun r20 h21 hw => ?_)
        refine x_istore (ls' := [_, _, _, _, _, _, _, _, _]) eX10_twos_76 (by decide) rfl rfl ?_
        refine q_iload_n eX10_twos_78 rfl ?_
        refine q_iload eX10_twos_79 rfl ?_
        refine q_iadd eX10_twos_81 ?_
        refine x_istore_n (ls' := [_, _, _, _, _, _, _, _, _]) eX10_twos_82 (by decide) rfl rfl ?_
        refine q_iload_n eX10_twos_83 rfl ?_
        refine q_iload eX10_twos_84 rfl ?_
        have hj23 : Wm MX10_twos 8 0 0 94 [some (.ref (x0)), some (.int (x1)), some (.int ((x2 + r20))), some (.int (x3)), some (.int (x4)), some (.int (x5)), some (.int (x6)), some (.int (x7)), some (.int (r20))] [.int ((if r20 ≤ 0 then nI 0 else nI 1)), .int (x3)] h21 (pI Q) := by
          refine q_le (ls' := [some _, some _, some _, none, some _, some _, some _, some _, some _]) ⟨rfl, rfl, rfl, rfl, rfl, rfl, rfl, rfl, trivial⟩ ?_
          exact tX10_twos_94 hK33 ih _ _ _ _ _ _ _ _ _ _ _ hw
        refine q_if_le (tgt := 93) eX10_twos_86 (by decide) (fun c => ?_) (fun c => ?_)
        · refine q_iconst (v := nI 0) eX10_twos_93 (by decide) ?_
          rw [if_pos c] at hj23
          exact hj23
        · refine q_iconst (v := nI 1) eX10_twos_89 (by decide) ?_
          refine q_goto (tgt := 94) eX10_twos_90 (by decide) ?_
          rw [if_neg c] at hj23
          exact hj23
      · have hw := hw2 c
        refine q_goto (tgt := 120) eX10_twos_65 (by decide) ?_
        refine x_iinc (v := (x7 + nI 1)) (ls' := [_, _, _, _, _, _, _, _, _]) eX10_twos_120 rfl rfl rfl rfl ?_
        refine q_goto (tgt := 47) eX10_twos_123 (by decide) ?_
        refine q_le (ls' := [some _, some _, some _, some _, some _, some _, some _, some _, none]) ⟨rfl, rfl, rfl, rfl, rfl, rfl, rfl, rfl, trivial⟩ ?_
        exact ih _ _ _ _ _ _ _ _ _ hw
def wX10_twos_33 (Q : Int32 → MH → Prop) : Nat → Nat → Int32 → Int32 → Int32 → Int32 → Int32 → Int32 → MH → Prop
  | 0, _, _, _, _, _, _, _, _ => False
  | n + 1, x0, x1, x2, x3, x4, x5, x6, h => hS h x0 = (1, 10) ∧ ∃ a6, hR h x0 1 = some a6 ∧ ∃ n9, hS h a6 = (2, n9) ∧ vp_in (nI 2) n9 ∧ (hI h a6 (nI 2).toNatClampNeg ≤ x6 → Q ((if x1 = 0 then x2 else (if x1 = nI 1 then x3 else x4))) h) ∧ (¬ (hI h a6 (nI 2).toNatClampNeg ≤ x6) → ∃ m24, wX10_twos_47 Q (wX10_twos_33 Q n) m24 x0 x1 x2 x3 x4 x5 x6 (nI 0) h)
set_option maxHeartbeats 4000000 in
set_option maxRecDepth 100000 in
theorem tX10_twos_33 {Q : Int32 → MH → Prop} : ∀ (n : Nat) (h : MH) (x0 : Nat) (x1 : Int32) (x2 : Int32) (x3 : Int32) (x4 : Int32) (x5 : Int32) (x6 : Int32), wX10_twos_33 Q n x0 x1 x2 x3 x4 x5 x6 h → Wm MX10_twos 8 0 0 33 [some (.ref (x0)), some (.int (x1)), some (.int (x2)), some (.int (x3)), some (.int (x4)), some (.int (x5)), some (.int (x6)), none, none] [] h (pI Q) := by
  intro n
  induction n with
  | zero => intro h x0 x1 x2 x3 x4 x5 x6 hw; exact hw.elim
  | succ n ih =>
    intro h x0 x1 x2 x3 x4 x5 x6 hw
    unfold wX10_twos_33 at hw
    refine q_iload eX10_twos_33 rfl ?_
    refine q_aload_nr eX10_twos_35 rfl ?_
    obtain ⟨hs5, hw⟩ := hw
    obtain ⟨a6, hr7, hw⟩ := hw
    refine q_getR flX10_13 rfl hs5 hr7 eX10_twos_36 ?_
    refine q_iconst (v := nI 2) eX10_twos_39 (by decide) ?_
    obtain ⟨n9, hs8, hw⟩ := hw
    obtain ⟨hi10, hw⟩ := hw
    refine q_iald hs8 hi10 eX10_twos_40 ?_
    obtain ⟨hw1, hw2⟩ := hw
    refine q_icmp_ge (tgt := 132) eX10_twos_41 (by decide) (fun c => ?_) (fun c => ?_)
    · have hw := hw1 c
      refine q_iload_n eX10_twos_132 rfl ?_
      have hj12 : Wm MX10_twos 8 0 0 151 [some (.ref (x0)), some (.int (x1)), some (.int (x2)), some (.int (x3)), some (.int (x4)), some (.int (x5)), some (.int (x6)), none, none] [.int ((if x1 = 0 then x2 else (if x1 = nI 1 then x3 else x4)))] h (pI Q) := by
        exact q_ret rfl eX10_twos_151 ⟨_, rfl, hw⟩
      refine q_if_ne (tgt := 140) eX10_twos_133 (by decide) (fun c => ?_) (fun c => ?_)
      · refine q_iload_n eX10_twos_140 rfl ?_
        refine q_iconst (v := nI 1) eX10_twos_141 (by decide) ?_
        have hj13 : Wm MX10_twos 8 0 0 151 [some (.ref (x0)), some (.int (x1)), some (.int (x2)), some (.int (x3)), some (.int (x4)), some (.int (x5)), some (.int (x6)), none, none] [.int ((if x1 = nI 1 then x3 else x4))] h (pI Q) := by
          rw [if_neg c] at hj12
          exact hj12
        refine q_icmp_ne (tgt := 149) eX10_twos_142 (by decide) (fun c => ?_) (fun c => ?_)
        · refine q_iload eX10_twos_149 rfl ?_
          rw [if_neg c] at hj13
          exact hj13
        · refine q_iload_n eX10_twos_145 rfl ?_
          refine q_goto (tgt := 151) eX10_twos_146 (by decide) ?_
          rw [if_pos c] at hj13
          exact hj13
      · refine q_iload_n eX10_twos_136 rfl ?_
        refine q_goto (tgt := 151) eX10_twos_137 (by decide) ?_
        rw [if_pos c] at hj12
        exact hj12
    · have hw := hw2 c
      refine q_iconst (v := nI 0) eX10_twos_44 (by decide) ?_
      refine x_istore (ls' := [_, _, _, _, _, _, _, _, _]) eX10_twos_45 (by decide) rfl rfl ?_
      refine q_le (ls' := [some _, some _, some _, some _, some _, some _, some _, some _, none]) ⟨rfl, rfl, rfl, rfl, rfl, rfl, rfl, rfl, trivial⟩ ?_
      obtain ⟨m24, hw⟩ := hw
      exact tX10_twos_47 ih m24 _ _ _ _ _ _ _ _ _ hw
def wX10_twos (x0 : Nat) (x1 : Int32) (h : MH) (Q : Int32 → MH → Prop) : Prop := hS h x0 = (1, 10) ∧ ∀ h2, h2 = sI h x0 0 (nI 0) → wX10_within ((x1).toInt64) (0 : Int64) (2 : Int64) h2 (fun r3 h4 => (¬ (r3 = 0) → ∃ m25, wX10_twos_33 Q m25 x0 x1 (nI 0) (nI 0) (-1 : Int32) (-1 : Int32) (nI 0) h4) ∧ (r3 = 0 → Q ((-2 : Int32)) h4))
set_option maxHeartbeats 4000000 in
set_option maxRecDepth 100000 in
theorem gX10_twos (x0 : Nat) (x1 : Int32) (h : MH) (Q : Int32 → MH → Prop) (hw : wX10_twos x0 x1 h Q) : Cm MX10_twos 8 0 0 [.ref (x0), .int (x1)] h (pI Q) := by
  refine cm_of [some (.ref (x0)), some (.int (x1)), none, none, none, none, none, none, none] rfl pnX10 (Nat.le_of_ble_eq_true rfl) rfl ?_
  unfold wX10_twos at hw
  refine q_aload_nr eX10_twos_0 rfl ?_
  refine q_iconst (v := nI 0) eX10_twos_1 (by decide) ?_
  obtain ⟨hs1, hw⟩ := hw
  have hw := hw _ rfl
  refine q_putI (fwX10_1 _) rfl hs1 eX10_twos_2 ?_
  refine q_iload_n eX10_twos_5 rfl ?_
  refine q_i2l eX10_twos_6 ?_
  refine q_lconst (v := (0 : Int64)) eX10_twos_7 (by decide) ?_
  refine q_ldc2 coX10_433 eX10_twos_8 ?_
  refine q_callS (b := 0) (t := 0) (gX10_within _ _ _ _ _ hw) mlX10_149 kX10_within sX10_within rfl (by decide) rfl (Nat.le_of_ble_eq_true rfl) eX10_twos_11 (kI fun r3 h4 hw => ?_)
  obtain ⟨hw1, hw2⟩ := hw
  refine q_if_ne (tgt := 20) eX10_twos_14 (by decide) (fun c => ?_) (fun c => ?_)
  · have hw := hw1 c
    refine q_iconst (v := nI 0) eX10_twos_20 (by decide) ?_
    refine x_istore_n (ls' := [_, _, _, _, _, _, _, _, _]) eX10_twos_21 (by decide) rfl rfl ?_
    refine q_iconst (v := nI 0) eX10_twos_22 (by decide) ?_
    refine x_istore_n (ls' := [_, _, _, _, _, _, _, _, _]) eX10_twos_23 (by decide) rfl rfl ?_
    refine q_iconst (v := (-1 : Int32)) eX10_twos_24 (by decide) ?_
    refine x_istore (ls' := [_, _, _, _, _, _, _, _, _]) eX10_twos_25 (by decide) rfl rfl ?_
    refine q_iconst (v := (-1 : Int32)) eX10_twos_27 (by decide) ?_
    refine x_istore (ls' := [_, _, _, _, _, _, _, _, _]) eX10_twos_28 (by decide) rfl rfl ?_
    refine q_iconst (v := nI 0) eX10_twos_30 (by decide) ?_
    refine x_istore (ls' := [_, _, _, _, _, _, _, _, _]) eX10_twos_31 (by decide) rfl rfl ?_
    refine q_le (ls' := [some _, some _, some _, some _, some _, some _, some _, none, none]) ⟨rfl, rfl, rfl, rfl, rfl, rfl, rfl, trivial⟩ ?_
    obtain ⟨m25, hw⟩ := hw
    exact tX10_twos_33 m25 _ _ _ _ _ _ _ _ hw
  · have hw := hw2 c
    refine q_bipush (v := (-2 : Int32)) eX10_twos_17 (by decide) ?_
    exact q_ret rfl eX10_twos_19 ⟨_, rfl, hw⟩
def wX10_stands_55 (Q : Int32 → MH → Prop) (x0 : Nat) (x1 : Int32) (s0 : Int32) (h : MH) : Prop := hS h x0 = (1, 10) ∧ wX10_isAgain x0 h (fun h20 => Q ((if s0 = 0 then (-1 : Int32) else x1)) h20)
set_option maxHeartbeats 4000000 in
set_option maxRecDepth 100000 in
theorem tX10_stands_55 {Q : Int32 → MH → Prop} (h : MH) (x0 : Nat) (x1 : Int32) (s0 : Int32) (hw : wX10_stands_55 Q x0 x1 s0 h) : Wm MX10_stands 7 0 0 55 [some (.ref (x0)), some (.int (x1)), none] [.int (s0)] h (pI Q) := by
  unfold wX10_stands_55 at hw
  refine x_istore_n (ls' := [_, _, _]) eX10_stands_55 (by decide) rfl rfl ?_
  refine q_aload_nr eX10_stands_56 rfl ?_
  obtain ⟨hs18, hw⟩ := hw
  refine q_callV (b := 0) (t := 0) (gX10_isAgain _ _ _ hw) mlX10_341 kX10_isAgain vX10_isAgain rfl hs18 ⟨rfl, rfl⟩ (by decide) rfl (Nat.le_of_ble_eq_true rfl) eX10_stands_57 (kV fun h20 hw => ?_)
  refine q_iload_n eX10_stands_60 rfl ?_
  have hj22 : Wm MX10_stands 7 0 0 69 [some (.ref (x0)), some (.int (x1)), some (.int (s0))] [.int ((if s0 = 0 then (-1 : Int32) else x1))] h20 (pI Q) := by
    exact q_ret rfl eX10_stands_69 ⟨_, rfl, hw⟩
  refine q_if_eq (tgt := 68) eX10_stands_61 (by decide) (fun c => ?_) (fun c => ?_)
  · refine q_iconst (v := (-1 : Int32)) eX10_stands_68 (by decide) ?_
    rw [if_pos c] at hj22
    exact hj22
  · refine q_iload_n eX10_stands_64 rfl ?_
    refine q_goto (tgt := 69) eX10_stands_65 (by decide) ?_
    rw [if_neg c] at hj22
    exact hj22
def wX10_stands_43 (Q : Int32 → MH → Prop) (x0 : Nat) (x1 : Int32) (h : MH) : Prop := hS h x0 = (1, 10) ∧ wX10_lostNow x0 h (fun r15 h16 => wX10_stands_55 Q x0 x1 (if r15 ≤ 0 then nI 0 else nI 1) h16)
set_option maxHeartbeats 4000000 in
set_option maxRecDepth 100000 in
theorem tX10_stands_43 {Q : Int32 → MH → Prop} (h : MH) (x0 : Nat) (x1 : Int32) (hw : wX10_stands_43 Q x0 x1 h) : Wm MX10_stands 7 0 0 43 [some (.ref (x0)), some (.int (x1)), none] [] h (pI Q) := by
  unfold wX10_stands_43 at hw
  refine q_aload_nr eX10_stands_43 rfl ?_
  obtain ⟨hs14, hw⟩ := hw
  refine q_callV (b := 0) (t := 0) (gX10_lostNow _ _ _ hw) mlX10_325 kX10_lostNow vX10_lostNow rfl hs14 ⟨rfl, rfl⟩ (by decide) rfl (Nat.le_of_ble_eq_true rfl) eX10_stands_44 (kI fun r15 h16 hw => ?_)
  have hj23 : Wm MX10_stands 7 0 0 55 [some (.ref (x0)), some (.int (x1)), none] [.int ((if r15 ≤ 0 then nI 0 else nI 1))] h16 (pI Q) := by
    refine q_le (ls' := [some _, some _, none]) ⟨rfl, rfl, trivial⟩ ?_
    exact tX10_stands_55 _ _ _ _ hw
  refine q_if_le (tgt := 54) eX10_stands_47 (by decide) (fun c => ?_) (fun c => ?_)
  · refine q_iconst (v := nI 0) eX10_stands_54 (by decide) ?_
    rw [if_pos c] at hj23
    exact hj23
  · refine q_iconst (v := nI 1) eX10_stands_50 (by decide) ?_
    refine q_goto (tgt := 55) eX10_stands_51 (by decide) ?_
    rw [if_neg c] at hj23
    exact hj23
def wX10_stands_15 (Q : Int32 → MH → Prop) : Nat → Nat → Int32 → MH → Prop
  | 0, _, _, _ => False
  | n + 1, x0, x1, h => hS h x0 = (1, 10) ∧ ∃ a9, hR h x0 1 = some a9 ∧ ∃ n12, hS h a9 = (2, n12) ∧ vp_in (nI 2) n12 ∧ (hI h a9 (nI 2).toNatClampNeg ≤ x1 → wX10_stands_43 Q x0 x1 h) ∧ (¬ (hI h a9 (nI 2).toNatClampNeg ≤ x1) → wX10_lostNow x0 h (fun r24 h25 => (¬ (r24 = 0) → wX10_stands_43 Q x0 x1 h25) ∧ (r24 = 0 → hS h25 x0 = (1, 10) ∧ wX10_goesFail x0 x1 h25 (fun h28 => wX10_stands_15 Q n x0 (x1 + nI 1) h28))))
set_option maxHeartbeats 4000000 in
set_option maxRecDepth 100000 in
theorem tX10_stands_15 {Q : Int32 → MH → Prop} : ∀ (n : Nat) (h : MH) (x0 : Nat) (x1 : Int32), wX10_stands_15 Q n x0 x1 h → Wm MX10_stands 7 0 0 15 [some (.ref (x0)), some (.int (x1)), none] [] h (pI Q) := by
  intro n
  induction n with
  | zero => intro h x0 x1 hw; exact hw.elim
  | succ n ih =>
    intro h x0 x1 hw
    unfold wX10_stands_15 at hw
    refine q_iload_n eX10_stands_15 rfl ?_
    refine q_aload_nr eX10_stands_16 rfl ?_
    obtain ⟨hs8, hw⟩ := hw
    obtain ⟨a9, hr10, hw⟩ := hw
    refine q_getR flX10_13 rfl hs8 hr10 eX10_stands_17 ?_
    refine q_iconst (v := nI 2) eX10_stands_20 (by decide) ?_
    obtain ⟨n12, hs11, hw⟩ := hw
    obtain ⟨hi13, hw⟩ := hw
    refine q_iald hs11 hi13 eX10_stands_21 ?_
    obtain ⟨hw1, hw2⟩ := hw
    refine q_icmp_ge (tgt := 43) eX10_stands_22 (by decide) (fun c => ?_) (fun c => ?_)
    · have hw := hw1 c
      refine q_le (ls' := [some _, some _, none]) ⟨rfl, rfl, trivial⟩ ?_
      exact tX10_stands_43 _ _ _ hw
    · have hw := hw2 c
      refine q_aload_nr eX10_stands_25 rfl ?_
      refine q_callV (b := 0) (t := 0) (gX10_lostNow _ _ _ hw) mlX10_325 kX10_lostNow vX10_lostNow rfl hs8 ⟨rfl, rfl⟩ (by decide) rfl (Nat.le_of_ble_eq_true rfl) eX10_stands_26 (kI fun r24 h25 hw => ?_)
      obtain ⟨hw1, hw2⟩ := hw
      refine q_if_ne (tgt := 43) eX10_stands_29 (by decide) (fun c => ?_) (fun c => ?_)
      · have hw := hw1 c
        refine q_le (ls' := [some _, some _, none]) ⟨rfl, rfl, trivial⟩ ?_
        exact tX10_stands_43 _ _ _ hw
      · have hw := hw2 c
        refine q_aload_nr eX10_stands_32 rfl ?_
        refine q_iload_n eX10_stands_33 rfl ?_
        obtain ⟨hs26, hw⟩ := hw
        refine q_callV (b := 0) (t := 0) (gX10_goesFail _ _ _ _ hw) mlX10_322 kX10_goesFail vX10_goesFail rfl hs26 ⟨rfl, rfl⟩ (by decide) rfl (Nat.le_of_ble_eq_true rfl) eX10_stands_34 (kV fun h28 hw => ?_)
        refine x_iinc (v := (x1 + nI 1)) (ls' := [_, _, _]) eX10_stands_37 rfl rfl rfl rfl ?_
        refine q_goto (tgt := 15) eX10_stands_40 (by decide) ?_
        refine q_le (ls' := [some _, some _, none]) ⟨rfl, rfl, trivial⟩ ?_
        exact ih _ _ _ hw
def wX10_stands (x0 : Nat) (h : MH) (Q : Int32 → MH → Prop) : Prop := hS h x0 = (1, 10) ∧ ∀ h2, h2 = sI h x0 0 (nI 0) → wX10_stores x0 h2 (fun h4 => hS h4 x0 = (1, 10) ∧ wX10_isFresh x0 h4 (fun h7 => ∃ m29, wX10_stands_15 Q m29 x0 (nI 0) h7))
set_option maxHeartbeats 4000000 in
set_option maxRecDepth 100000 in
theorem gX10_stands (x0 : Nat) (h : MH) (Q : Int32 → MH → Prop) (hw : wX10_stands x0 h Q) : Cm MX10_stands 7 0 0 [.ref (x0)] h (pI Q) := by
  refine cm_of [some (.ref (x0)), none, none] rfl pnX10 (Nat.le_of_ble_eq_true rfl) rfl ?_
  unfold wX10_stands at hw
  refine q_aload_nr eX10_stands_0 rfl ?_
  refine q_iconst (v := nI 0) eX10_stands_1 (by decide) ?_
  obtain ⟨hs1, hw⟩ := hw
  have hw := hw _ rfl
  refine q_putI (fwX10_1 _) rfl hs1 eX10_stands_2 ?_
  refine q_aload_nr eX10_stands_5 rfl ?_
  refine q_callV (b := 0) (t := 0) (gX10_stores _ _ _ hw) mlX10_304 kX10_stores vX10_stores rfl hs1 ⟨rfl, rfl⟩ (by decide) rfl (Nat.le_of_ble_eq_true rfl) eX10_stands_6 (kV fun h4 hw => ?_)
  refine q_aload_nr eX10_stands_9 rfl ?_
  obtain ⟨hs5, hw⟩ := hw
  refine q_callV (b := 0) (t := 0) (gX10_isFresh _ _ _ hw) mlX10_284 kX10_isFresh vX10_isFresh rfl hs5 ⟨rfl, rfl⟩ (by decide) rfl (Nat.le_of_ble_eq_true rfl) eX10_stands_10 (kV fun h7 hw => ?_)
  refine q_iconst (v := nI 0) eX10_stands_13 (by decide) ?_
  refine x_istore_n (ls' := [_, _, _]) eX10_stands_14 (by decide) rfl rfl ?_
  refine q_le (ls' := [some _, some _, none]) ⟨rfl, rfl, trivial⟩ ?_
  obtain ⟨m29, hw⟩ := hw
  exact tX10_stands_15 m29 _ _ _ hw
def wX10_rings (x0 : Nat) (h : MH) (Q : Int32 → MH → Prop) : Prop := hS h x0 = (1, 10) ∧ ∀ h2, h2 = sI h x0 0 (nI 0) → Q (hI h2 x0 23) h2
set_option maxHeartbeats 4000000 in
set_option maxRecDepth 100000 in
theorem gX10_rings (x0 : Nat) (h : MH) (Q : Int32 → MH → Prop) (hw : wX10_rings x0 h Q) : Cm MX10_rings 0 0 0 [.ref (x0)] h (pI Q) := by
  refine cm_of [some (.ref (x0))] rfl pnX10 (Nat.le_of_ble_eq_true rfl) rfl ?_
  unfold wX10_rings at hw
  refine q_aload_nr eX10_rings_0 rfl ?_
  refine q_iconst (v := nI 0) eX10_rings_1 (by decide) ?_
  obtain ⟨hs1, hw⟩ := hw
  have hw := hw _ rfl
  refine q_putI (fwX10_1 _) rfl hs1 eX10_rings_2 ?_
  refine q_aload_nr eX10_rings_5 rfl ?_
  refine q_getI flX10_216 rfl hs1 eX10_rings_6 ?_
  exact q_ret rfl eX10_rings_9 ⟨_, rfl, hw⟩
def wX10_bare_18 (Q : Int32 → MH → Prop) : Nat → Nat → Int32 → Int32 → MH → Prop
  | 0, _, _, _, _ => False
  | n + 1, x0, x1, x2, h => hS h x0 = (1, 10) ∧ (hI h x0 23 ≤ x2 → Q (x1) h) ∧ (¬ (hI h x0 23 ≤ x2) → ∃ a10, hR h x0 18 = some a10 ∧ ∃ n13, hS h a10 = (2, n13) ∧ vp_in (x2) n13 ∧ ∃ a15, hR h x0 19 = some a15 ∧ ∃ n18, hS h a15 = (2, n18) ∧ vp_in (x2) n18 ∧ ∀ v20, v20 = (x1 &&& ((hI h a10 (x2).toNatClampNeg ||| hI h a15 (x2).toNatClampNeg) ^^^ (-1 : Int32))) → wX10_bare_18 Q n x0 v20 (x2 + nI 1) h)
set_option maxHeartbeats 4000000 in
set_option maxRecDepth 100000 in
theorem tX10_bare_18 {Q : Int32 → MH → Prop} : ∀ (n : Nat) (h : MH) (x0 : Nat) (x1 : Int32) (x2 : Int32), wX10_bare_18 Q n x0 x1 x2 h → Wm MX10_bare 0 0 0 18 [some (.ref (x0)), some (.int (x1)), some (.int (x2))] [] h (pI Q) := by
  intro n
  induction n with
  | zero => intro h x0 x1 x2 hw; exact hw.elim
  | succ n ih =>
    intro h x0 x1 x2 hw
    unfold wX10_bare_18 at hw
    refine q_iload_n eX10_bare_18 rfl ?_
    refine q_aload_nr eX10_bare_19 rfl ?_
    obtain ⟨hs9, hw⟩ := hw
    refine q_getI flX10_216 rfl hs9 eX10_bare_20 ?_
    obtain ⟨hw1, hw2⟩ := hw
    refine q_icmp_ge (tgt := 50) eX10_bare_23 (by decide) (fun c => ?_) (fun c => ?_)
    · have hw := hw1 c
      refine q_iload_n eX10_bare_50 rfl ?_
      exact q_ret rfl eX10_bare_51 ⟨_, rfl, hw⟩
    · have hw := hw2 c
      refine q_iload_n eX10_bare_26 rfl ?_
      refine q_aload_nr eX10_bare_27 rfl ?_
      obtain ⟨a10, hr11, hw⟩ := hw
      refine q_getR flX10_36 rfl hs9 hr11 eX10_bare_28 ?_
      refine q_iload_n eX10_bare_31 rfl ?_
      obtain ⟨n13, hs12, hw⟩ := hw
      obtain ⟨hi14, hw⟩ := hw
      refine q_iald hs12 hi14 eX10_bare_32 ?_
      refine q_aload_nr eX10_bare_33 rfl ?_
      obtain ⟨a15, hr16, hw⟩ := hw
      refine q_getR flX10_39 rfl hs9 hr16 eX10_bare_34 ?_
      refine q_iload_n eX10_bare_37 rfl ?_
      obtain ⟨n18, hs17, hw⟩ := hw
      obtain ⟨hi19, hw⟩ := hw
      refine q_iald hs17 hi19 eX10_bare_38 ?_
      refine q_ior eX10_bare_39 ?_
      refine q_iconst (v := (-1 : Int32)) eX10_bare_40 (by decide) ?_
      refine q_ixor eX10_bare_41 ?_
      refine q_iand eX10_bare_42 ?_
      have hw := hw _ rfl
      refine x_istore_n (ls' := [_, _, _]) eX10_bare_43 (by decide) rfl rfl ?_
      refine x_iinc (v := (x2 + nI 1)) (ls' := [_, _, _]) eX10_bare_44 rfl rfl rfl rfl ?_
      refine q_goto (tgt := 18) eX10_bare_47 (by decide) ?_
      refine q_le (ls' := [some _, some _, some _]) ⟨rfl, rfl, rfl, trivial⟩ ?_
      exact ih _ _ _ _ hw
def wX10_bare (x0 : Nat) (h : MH) (Q : Int32 → MH → Prop) : Prop := hS h x0 = (1, 10) ∧ ∀ h2, h2 = sI h x0 0 (nI 0) → ∃ a3, hR h2 x0 1 = some a3 ∧ ∃ n6, hS h2 a3 = (2, n6) ∧ vp_in (nI 2) n6 ∧ ∀ v8, v8 = ((nI 1 <<< (hI h2 a3 (nI 2).toNatClampNeg &&& 31)) - nI 1) → ∃ m21, wX10_bare_18 Q m21 x0 v8 (nI 0) h2
set_option maxHeartbeats 4000000 in
set_option maxRecDepth 100000 in
theorem gX10_bare (x0 : Nat) (h : MH) (Q : Int32 → MH → Prop) (hw : wX10_bare x0 h Q) : Cm MX10_bare 0 0 0 [.ref (x0)] h (pI Q) := by
  refine cm_of [some (.ref (x0)), none, none] rfl pnX10 (Nat.le_of_ble_eq_true rfl) rfl ?_
  unfold wX10_bare at hw
  refine q_aload_nr eX10_bare_0 rfl ?_
  refine q_iconst (v := nI 0) eX10_bare_1 (by decide) ?_
  obtain ⟨hs1, hw⟩ := hw
  have hw := hw _ rfl
  refine q_putI (fwX10_1 _) rfl hs1 eX10_bare_2 ?_
  refine q_iconst (v := nI 1) eX10_bare_5 (by decide) ?_
  refine q_aload_nr eX10_bare_6 rfl ?_
  obtain ⟨a3, hr4, hw⟩ := hw
  refine q_getR flX10_13 rfl hs1 hr4 eX10_bare_7 ?_
  refine q_iconst (v := nI 2) eX10_bare_10 (by decide) ?_
  obtain ⟨n6, hs5, hw⟩ := hw
  obtain ⟨hi7, hw⟩ := hw
  refine q_iald hs5 hi7 eX10_bare_11 ?_
  refine q_ishl eX10_bare_12 ?_
  refine q_iconst (v := nI 1) eX10_bare_13 (by decide) ?_
  refine q_isub eX10_bare_14 ?_
  have hw := hw _ rfl
  refine x_istore_n (ls' := [_, _, _]) eX10_bare_15 (by decide) rfl rfl ?_
  refine q_iconst (v := nI 0) eX10_bare_16 (by decide) ?_
  refine x_istore_n (ls' := [_, _, _]) eX10_bare_17 (by decide) rfl rfl ?_
  refine q_le (ls' := [some _, some _, some _]) ⟨rfl, rfl, rfl, trivial⟩ ?_
  obtain ⟨m21, hw⟩ := hw
  exact tX10_bare_18 m21 _ _ _ _ hw
def wX10_comesTo_17 (Q : Int32 → MH → Prop) (K7 : Nat → Int32 → Int32 → Int32 → MH → Prop) : Nat → Nat → Int32 → Int32 → Int32 → Int32 → MH → Prop
  | 0, _, _, _, _, _, _ => False
  | n + 1, x0, x2, x3, x4, x5, h => hS h x0 = (1, 10) ∧ ∃ a2, hR h x0 1 = some a2 ∧ ∃ n5, hS h a2 = (2, n5) ∧ vp_in (nI 2) n5 ∧ (hI h a2 (nI 2).toNatClampNeg ≤ x5 → K7 x0 x2 x3 (x4 + nI 1) h) ∧ (¬ (hI h a2 (nI 2).toNatClampNeg ≤ x5) → wX10_isIn ((x2).toInt64) x5 h (fun r7 h8 => (¬ (r7 = 0) → wX10_comesTo_17 Q K7 n x0 x2 x3 x4 (x5 + nI 1) h8) ∧ (r7 = 0 → hS h8 x0 = (1, 10) ∧ wX10_endsOf x0 x5 h8 (fun r10 h11 => ((x3 &&& r10) = 0 → wX10_comesTo_17 Q K7 n x0 x2 x3 x4 (x5 + nI 1) h11) ∧ (¬ ((x3 &&& r10) = 0) → hS h11 x0 = (1, 10) ∧ wX10_endsOf x0 x5 h11 (fun r13 h14 => wX10_comesTo_17 Q K7 n x0 x2 (x3 ||| r13) x4 (x5 + nI 1) h14))))))
set_option maxHeartbeats 4000000 in
set_option maxRecDepth 100000 in
theorem tX10_comesTo_17 {Q : Int32 → MH → Prop} {K7 : Nat → Int32 → Int32 → Int32 → MH → Prop} (hK7 : ∀ (h : MH) (x0 : Nat) (x2 : Int32) (x3 : Int32) (x4 : Int32), K7 x0 x2 x3 x4 h → Wm MX10_comesTo 2 0 0 7 [some (.ref (x0)), none, some (.int (x2)), some (.int (x3)), some (.int (x4)), none] [] h (pI Q)) : ∀ (n : Nat) (h : MH) (x0 : Nat) (x2 : Int32) (x3 : Int32) (x4 : Int32) (x5 : Int32), wX10_comesTo_17 Q K7 n x0 x2 x3 x4 x5 h → Wm MX10_comesTo 2 0 0 17 [some (.ref (x0)), none, some (.int (x2)), some (.int (x3)), some (.int (x4)), some (.int (x5))] [] h (pI Q) := by
  intro n
  induction n with
  | zero => intro h x0 x2 x3 x4 x5 hw; exact hw.elim
  | succ n ih =>
    intro h x0 x2 x3 x4 x5 hw
    unfold wX10_comesTo_17 at hw
    refine q_iload eX10_comesTo_17 rfl ?_
    refine q_aload_nr eX10_comesTo_19 rfl ?_
    obtain ⟨hs1, hw⟩ := hw
    obtain ⟨a2, hr3, hw⟩ := hw
    refine q_getR flX10_13 rfl hs1 hr3 eX10_comesTo_20 ?_
    refine q_iconst (v := nI 2) eX10_comesTo_23 (by decide) ?_
    obtain ⟨n5, hs4, hw⟩ := hw
    obtain ⟨hi6, hw⟩ := hw
    refine q_iald hs4 hi6 eX10_comesTo_24 ?_
    obtain ⟨hw1, hw2⟩ := hw
    refine q_icmp_ge (tgt := 64) eX10_comesTo_25 (by decide) (fun c => ?_) (fun c => ?_)
    · have hw := hw1 c
      refine x_iinc (v := (x4 + nI 1)) (ls' := [_, _, _, _, _, _]) eX10_comesTo_64 rfl rfl rfl rfl ?_
      refine q_goto (tgt := 7) eX10_comesTo_67 (by decide) ?_
      refine q_le (ls' := [some _, none, some _, some _, some _, none]) ⟨rfl, rfl, rfl, rfl, trivial⟩ ?_
      exact hK7 _ _ _ _ _ hw
    · have hw := hw2 c
      refine q_iload_n eX10_comesTo_28 rfl ?_
      refine q_i2l eX10_comesTo_29 ?_
      refine q_iload eX10_comesTo_30 rfl ?_
      refine q_callS (b := 0) (t := 0) (gX10_isIn _ _ _ _ hw) mlX10_232 kX10_isIn sX10_isIn rfl (by decide) rfl (Nat.le_of_ble_eq_true rfl) eX10_comesTo_32 (kI fun r7 h8 hw => ?_)
      obtain ⟨hw1, hw2⟩ := hw
      refine q_if_ne (tgt := 58) eX10_comesTo_35 (by decide) (fun c => ?_) (fun c => ?_)
      · have hw := hw1 c
        refine x_iinc (v := (x5 + nI 1)) (ls' := [_, _, _, _, _, _]) eX10_comesTo_58 rfl rfl rfl rfl ?_
        refine q_goto (tgt := 17) eX10_comesTo_61 (by decide) ?_
        refine q_le (ls' := [some _, none, some _, some _, some _, some _]) ⟨rfl, rfl, rfl, rfl, rfl, trivial⟩ ?_
        exact ih _ _ _ _ _ _ hw
      · have hw := hw2 c
        refine q_iload_n eX10_comesTo_38 rfl ?_
        refine q_aload_nr eX10_comesTo_39 rfl ?_
        refine q_iload eX10_comesTo_40 rfl ?_
        obtain ⟨hs9, hw⟩ := hw
        refine q_callV (b := 0) (t := 0) (gX10_endsOf _ _ _ _ hw) mlX10_236 kX10_endsOf vX10_endsOf rfl hs9 ⟨rfl, rfl⟩ (by decide) rfl (Nat.le_of_ble_eq_true rfl) eX10_comesTo_42 (kI fun r10 h11 hw => ?_)
        refine q_iand eX10_comesTo_45 ?_
        obtain ⟨hw1, hw2⟩ := hw
        refine q_if_eq (tgt := 58) eX10_comesTo_46 (by decide) (fun c => ?_) (fun c => ?_)
        · have hw := hw1 c
          refine x_iinc (v := (x5 + nI 1)) (ls' := [_, _, _, _, _, _]) eX10_comesTo_58 rfl rfl rfl rfl ?_
          refine q_goto (tgt := 17) eX10_comesTo_61 (by decide) ?_
          refine q_le (ls' := [some _, none, some _, some _, some _, some _]) ⟨rfl, rfl, rfl, rfl, rfl, trivial⟩ ?_
          exact ih _ _ _ _ _ _ hw
        · have hw := hw2 c
          refine q_iload_n eX10_comesTo_49 rfl ?_
          refine q_aload_nr eX10_comesTo_50 rfl ?_
          refine q_iload eX10_comesTo_51 rfl ?_
          obtain ⟨hs12, hw⟩ := hw
          refine q_callV (b := 0) (t := 0) (gX10_endsOf _ _ _ _ hw) mlX10_236 kX10_endsOf vX10_endsOf rfl hs12 ⟨rfl, rfl⟩ (by decide) rfl (Nat.le_of_ble_eq_true rfl) eX10_comesTo_53 (kI fun r13 h14 hw => ?_)
          refine q_ior eX10_comesTo_56 ?_
          refine x_istore_n (ls' := [_, _, _, _, _, _]) eX10_comesTo_57 (by decide) rfl rfl ?_
          refine x_iinc (v := (x5 + nI 1)) (ls' := [_, _, _, _, _, _]) eX10_comesTo_58 rfl rfl rfl rfl ?_
          refine q_goto (tgt := 17) eX10_comesTo_61 (by decide) ?_
          refine q_le (ls' := [some _, none, some _, some _, some _, some _]) ⟨rfl, rfl, rfl, rfl, rfl, trivial⟩ ?_
          exact ih _ _ _ _ _ _ hw
def wX10_comesTo_7 (Q : Int32 → MH → Prop) : Nat → Nat → Int32 → Int32 → Int32 → MH → Prop
  | 0, _, _, _, _, _ => False
  | n + 1, x0, x2, x3, x4, h => (nI 8 ≤ x4 → Q (x3) h) ∧ (¬ (nI 8 ≤ x4) → ∃ m15, wX10_comesTo_17 Q (wX10_comesTo_7 Q n) m15 x0 x2 x3 x4 (nI 0) h)
set_option maxHeartbeats 4000000 in
set_option maxRecDepth 100000 in
theorem tX10_comesTo_7 {Q : Int32 → MH → Prop} : ∀ (n : Nat) (h : MH) (x0 : Nat) (x2 : Int32) (x3 : Int32) (x4 : Int32), wX10_comesTo_7 Q n x0 x2 x3 x4 h → Wm MX10_comesTo 2 0 0 7 [some (.ref (x0)), none, some (.int (x2)), some (.int (x3)), some (.int (x4)), none] [] h (pI Q) := by
  intro n
  induction n with
  | zero => intro h x0 x2 x3 x4 hw; exact hw.elim
  | succ n ih =>
    intro h x0 x2 x3 x4 hw
    unfold wX10_comesTo_7 at hw
    refine q_iload eX10_comesTo_7 rfl ?_
    refine q_bipush (v := nI 8) eX10_comesTo_9 (by decide) ?_
    obtain ⟨hw1, hw2⟩ := hw
    refine q_icmp_ge (tgt := 70) eX10_comesTo_11 (by decide) (fun c => ?_) (fun c => ?_)
    · have hw := hw1 c
      refine q_iload_n eX10_comesTo_70 rfl ?_
      exact q_ret rfl eX10_comesTo_71 ⟨_, rfl, hw⟩
    · have hw := hw2 c
      refine q_iconst (v := nI 0) eX10_comesTo_14 (by decide) ?_
      refine x_istore (ls' := [_, _, _, _, _, _]) eX10_comesTo_15 (by decide) rfl rfl ?_
      refine q_le (ls' := [some _, none, some _, some _, some _, some _]) ⟨rfl, rfl, rfl, rfl, rfl, trivial⟩ ?_
      obtain ⟨m15, hw⟩ := hw
      exact tX10_comesTo_17 ih m15 _ _ _ _ _ _ hw
def wX10_comesTo (x0 : Nat) (x1 : Int32) (x2 : Int32) (h : MH) (Q : Int32 → MH → Prop) : Prop := ∃ m16, wX10_comesTo_7 Q m16 x0 x2 (nI 1 <<< (x1 &&& 31)) (nI 0) h
set_option maxHeartbeats 4000000 in
set_option maxRecDepth 100000 in
theorem gX10_comesTo (x0 : Nat) (x1 : Int32) (x2 : Int32) (h : MH) (Q : Int32 → MH → Prop) (hw : wX10_comesTo x0 x1 x2 h Q) : Cm MX10_comesTo 2 0 0 [.ref (x0), .int (x1), .int (x2)] h (pI Q) := by
  refine cm_of [some (.ref (x0)), some (.int (x1)), some (.int (x2)), none, none, none] rfl pnX10 (Nat.le_of_ble_eq_true rfl) rfl ?_
  unfold wX10_comesTo at hw
  refine q_iconst (v := nI 1) eX10_comesTo_0 (by decide) ?_
  refine q_iload_n eX10_comesTo_1 rfl ?_
  refine q_ishl eX10_comesTo_2 ?_
  refine x_istore_n (ls' := [_, _, _, _, _, _]) eX10_comesTo_3 (by decide) rfl rfl ?_
  refine q_iconst (v := nI 0) eX10_comesTo_4 (by decide) ?_
  refine x_istore (ls' := [_, _, _, _, _, _]) eX10_comesTo_5 (by decide) rfl rfl ?_
  refine q_le (ls' := [some _, none, some _, some _, some _, none]) ⟨rfl, rfl, rfl, rfl, trivial⟩ ?_
  obtain ⟨m16, hw⟩ := hw
  exact tX10_comesTo_7 m16 _ _ _ _ _ hw
def wX10_bridges_9 (Q : Int32 → MH → Prop) : Nat → Nat → Int32 → Int32 → MH → Prop
  | 0, _, _, _, _ => False
  | n + 1, x0, x1, x2, h => hS h x0 = (1, 10) ∧ ∃ a4, hR h x0 1 = some a4 ∧ ∃ n7, hS h a4 = (2, n7) ∧ vp_in (nI 2) n7 ∧ (hI h a4 (nI 2).toNatClampNeg ≤ x2 → Q (x1) h) ∧ (¬ (hI h a4 (nI 2).toNatClampNeg ≤ x2) → wX10_endOf x0 x2 (nI 0) h (fun r9 h10 => hS h10 x0 = (1, 10) ∧ wX10_comesTo x0 r9 (nI 1 <<< (x2 &&& 31)) h10 (fun r12 h13 => hS h13 x0 = (1, 10) ∧ wX10_endOf x0 x2 (nI 1) h13 (fun r15 h16 => wX10_isIn ((r12).toInt64) r15 h16 (fun r17 h18 => ∀ v20, v20 = (x1 ||| (if r17 = 0 then (nI 1 <<< (x2 &&& 31)) else nI 0)) → wX10_bridges_9 Q n x0 v20 (x2 + nI 1) h18)))))
set_option maxHeartbeats 4000000 in
set_option maxRecDepth 100000 in
theorem tX10_bridges_9 {Q : Int32 → MH → Prop} : ∀ (n : Nat) (h : MH) (x0 : Nat) (x1 : Int32) (x2 : Int32), wX10_bridges_9 Q n x0 x1 x2 h → Wm MX10_bridges 3 0 0 9 [some (.ref (x0)), some (.int (x1)), some (.int (x2))] [] h (pI Q) := by
  intro n
  induction n with
  | zero => intro h x0 x1 x2 hw; exact hw.elim
  | succ n ih =>
    intro h x0 x1 x2 hw
    unfold wX10_bridges_9 at hw
    refine q_iload_n eX10_bridges_9 rfl ?_
    refine q_aload_nr eX10_bridges_10 rfl ?_
    obtain ⟨hs3, hw⟩ := hw
    obtain ⟨a4, hr5, hw⟩ := hw
    refine q_getR flX10_13 rfl hs3 hr5 eX10_bridges_11 ?_
    refine q_iconst (v := nI 2) eX10_bridges_14 (by decide) ?_
    obtain ⟨n7, hs6, hw⟩ := hw
    obtain ⟨hi8, hw⟩ := hw
    refine q_iald hs6 hi8 eX10_bridges_15 ?_
    obtain ⟨hw1, hw2⟩ := hw
    refine q_icmp_ge (tgt := 61) eX10_bridges_16 (by decide) (fun c => ?_) (fun c => ?_)
    · have hw := hw1 c
      refine q_iload_n eX10_bridges_61 rfl ?_
      exact q_ret rfl eX10_bridges_62 ⟨_, rfl, hw⟩
    · have hw := hw2 c
      refine q_iload_n eX10_bridges_19 rfl ?_
      refine q_aload_nr eX10_bridges_20 rfl ?_
      refine q_aload_nr eX10_bridges_21 rfl ?_
      refine q_iload_n eX10_bridges_22 rfl ?_
      refine q_iconst (v := nI 0) eX10_bridges_23 (by decide) ?_
      refine q_callV (b := 0) (t := 0) (gX10_endOf _ _ _ _ _ hw) mlX10_219 kX10_endOf vX10_endOf rfl hs3 ⟨rfl, rfl⟩ (by decide) rfl (Nat.le_of_ble_eq_true rfl) eX10_bridges_24 (kI fun r9 h10 hw => ?_)
      refine q_iconst (v := nI 1) eX10_bridges_27 (by decide) ?_
      refine q_iload_n eX10_bridges_28 rfl ?_
      refine q_ishl eX10_bridges_29 ?_
      obtain ⟨hs11, hw⟩ := hw
      refine q_callV (b := 0) (t := 0) (gX10_comesTo _ _ _ _ _ hw) mlX10_441 kX10_comesTo vX10_comesTo rfl hs11 ⟨rfl, rfl⟩ (by decide) rfl (Nat.le_of_ble_eq_true rfl) eX10_bridges_30 (kI fun r12 h13 hw => ?_)
      refine q_i2l eX10_bridges_33 ?_
      refine q_aload_nr eX10_bridges_34 rfl ?_
      refine q_iload_n eX10_bridges_35 rfl ?_
      refine q_iconst (v := nI 1) eX10_bridges_36 (by decide) ?_
      obtain ⟨hs14, hw⟩ := hw
      refine q_callV (b := 0) (t := 0) (gX10_endOf _ _ _ _ _ hw) mlX10_219 kX10_endOf vX10_endOf rfl hs14 ⟨rfl, rfl⟩ (by decide) rfl (Nat.le_of_ble_eq_true rfl) eX10_bridges_37 (kI fun r15 h16 hw => ?_)
      refine q_callS (b := 0) (t := 0) (gX10_isIn _ _ _ _ hw) mlX10_232 kX10_isIn sX10_isIn rfl (by decide) rfl (Nat.le_of_ble_eq_true rfl) eX10_bridges_40 (kI fun r17 h18 hw => ?_)
      have hj21 : Wm MX10_bridges 3 0 0 53 [some (.ref (x0)), some (.int (x1)), some (.int (x2))] [.int ((if r17 = 0 then (nI 1 <<< (x2 &&& 31)) else nI 0)), .int (x1)] h18 (pI Q) := by
        refine q_ior eX10_bridges_53 ?_
        have hw := hw _ rfl
        refine x_istore_n (ls' := [_, _, _]) eX10_bridges_54 (by decide) rfl rfl ?_
        refine x_iinc (v := (x2 + nI 1)) (ls' := [_, _, _]) eX10_bridges_55 rfl rfl rfl rfl ?_
        refine q_goto (tgt := 9) eX10_bridges_58 (by decide) ?_
        refine q_le (ls' := [some _, some _, some _]) ⟨rfl, rfl, rfl, trivial⟩ ?_
        exact ih _ _ _ _ hw
      refine q_if_eq (tgt := 50) eX10_bridges_43 (by decide) (fun c => ?_) (fun c => ?_)
      · refine q_iconst (v := nI 1) eX10_bridges_50 (by decide) ?_
        refine q_iload_n eX10_bridges_51 rfl ?_
        refine q_ishl eX10_bridges_52 ?_
        rw [if_pos c] at hj21
        exact hj21
      · refine q_iconst (v := nI 0) eX10_bridges_46 (by decide) ?_
        refine q_goto (tgt := 53) eX10_bridges_47 (by decide) ?_
        rw [if_neg c] at hj21
        exact hj21
def wX10_bridges (x0 : Nat) (h : MH) (Q : Int32 → MH → Prop) : Prop := hS h x0 = (1, 10) ∧ ∀ h2, h2 = sI h x0 0 (nI 0) → ∃ m22, wX10_bridges_9 Q m22 x0 (nI 0) (nI 0) h2
set_option maxHeartbeats 4000000 in
set_option maxRecDepth 100000 in
theorem gX10_bridges (x0 : Nat) (h : MH) (Q : Int32 → MH → Prop) (hw : wX10_bridges x0 h Q) : Cm MX10_bridges 3 0 0 [.ref (x0)] h (pI Q) := by
  refine cm_of [some (.ref (x0)), none, none] rfl pnX10 (Nat.le_of_ble_eq_true rfl) rfl ?_
  unfold wX10_bridges at hw
  refine q_aload_nr eX10_bridges_0 rfl ?_
  refine q_iconst (v := nI 0) eX10_bridges_1 (by decide) ?_
  obtain ⟨hs1, hw⟩ := hw
  have hw := hw _ rfl
  refine q_putI (fwX10_1 _) rfl hs1 eX10_bridges_2 ?_
  refine q_iconst (v := nI 0) eX10_bridges_5 (by decide) ?_
  refine x_istore_n (ls' := [_, _, _]) eX10_bridges_6 (by decide) rfl rfl ?_
  refine q_iconst (v := nI 0) eX10_bridges_7 (by decide) ?_
  refine x_istore_n (ls' := [_, _, _]) eX10_bridges_8 (by decide) rfl rfl ?_
  refine q_le (ls' := [some _, some _, some _]) ⟨rfl, rfl, rfl, trivial⟩ ?_
  obtain ⟨m22, hw⟩ := hw
  exact tX10_bridges_9 m22 _ _ _ _ hw
def wX10_cut_77 (Q : Int32 → MH → Prop) : Nat → Nat → Int32 → Int32 → Int32 → Int32 → Int32 → MH → Prop
  | 0, _, _, _, _, _, _, _ => False
  | n + 1, x0, x1, x2, x3, x4, x5, h => (x5 < 0 → (¬ (x3 = 0) → Q (x4) h) ∧ (x3 = 0 → wX10_bitsOf x4 h (fun r27 h28 => Q (r27) h28))) ∧ (¬ (x5 < 0) → wX10_bitsOf x5 h (fun r29 h30 => wX10_bitsOf x4 h30 (fun r31 h32 => (r31 < r29 → wX10_cut_77 Q n x0 x1 x2 x3 x4 (x5 + (-1 : Int32)) h32) ∧ (¬ (r31 < r29) → hS h32 x0 = (1, 10) ∧ wX10_comesTo x0 x1 x5 h32 (fun r34 h35 => wX10_isIn ((r34).toInt64) x2 h35 (fun r36 h37 => (¬ (r36 = 0) → wX10_cut_77 Q n x0 x1 x2 x3 x4 (x5 + (-1 : Int32)) h37) ∧ (r36 = 0 → wX10_cut_77 Q n x0 x1 x2 x3 x5 (x5 + (-1 : Int32)) h37)))))))
set_option maxHeartbeats 4000000 in
set_option maxRecDepth 100000 in
theorem tX10_cut_77 {Q : Int32 → MH → Prop} : ∀ (n : Nat) (h : MH) (x0 : Nat) (x1 : Int32) (x2 : Int32) (x3 : Int32) (x4 : Int32) (x5 : Int32), wX10_cut_77 Q n x0 x1 x2 x3 x4 x5 h → Wm MX10_cut 3 0 0 77 [some (.ref (x0)), some (.int (x1)), some (.int (x2)), some (.int (x3)), some (.int (x4)), some (.int (x5))] [] h (pI Q) := by
  intro n
  induction n with
  | zero => intro h x0 x1 x2 x3 x4 x5 hw; exact hw.elim
  | succ n ih =>
    intro h x0 x1 x2 x3 x4 x5 hw
    unfold wX10_cut_77 at hw
    refine q_iload eX10_cut_77 rfl ?_
    obtain ⟨hw1, hw2⟩ := hw
    refine q_if_lt (tgt := 120) eX10_cut_79 (by decide) (fun c => ?_) (fun c => ?_)
    · have hw := hw1 c
      refine q_iload_n eX10_cut_120 rfl ?_
      obtain ⟨hw1, hw2⟩ := hw
      refine q_if_ne (tgt := 132) eX10_cut_121 (by decide) (fun c => ?_) (fun c => ?_)
      · have hw := hw1 c
        refine q_iload eX10_cut_132 rfl ?_
        exact q_ret rfl eX10_cut_134 ⟨_, rfl, hw⟩
      · have hw := hw2 c
        refine q_iload eX10_cut_124 rfl ?_
        refine q_callS (b := 0) (t := 0) (gX10_bitsOf _ _ _ hw) mlX10_229 kX10_bitsOf sX10_bitsOf rfl (by decide) rfl (Nat.le_of_ble_eq_true rfl) eX10_cut_126 (kI fun r27 h28 hw => ?_)
        refine q_goto (tgt := 134) eX10_cut_129 (by decide) ?_
        exact q_ret rfl eX10_cut_134 ⟨_, rfl, hw⟩
    · have hw := hw2 c
      refine q_iload eX10_cut_82 rfl ?_
      refine q_callS (b := 0) (t := 0) (gX10_bitsOf _ _ _ hw) mlX10_229 kX10_bitsOf sX10_bitsOf rfl (by decide) rfl (Nat.le_of_ble_eq_true rfl) eX10_cut_84 (kI fun r29 h30 hw => ?_)
      refine q_iload eX10_cut_87 rfl ?_
      refine q_callS (b := 0) (t := 0) (gX10_bitsOf _ _ _ hw) mlX10_229 kX10_bitsOf sX10_bitsOf rfl (by decide) rfl (Nat.le_of_ble_eq_true rfl) eX10_cut_89 (kI fun r31 h32 hw => ?_)
      obtain ⟨hw1, hw2⟩ := hw
      refine q_icmp_gt (tgt := 114) eX10_cut_92 (by decide) (fun c => ?_) (fun c => ?_)
      · have hw := hw1 c
        refine x_iinc (v := (x5 + (-1 : Int32))) (ls' := [_, _, _, _, _, _]) eX10_cut_114 rfl rfl rfl rfl ?_
        refine q_goto (tgt := 77) eX10_cut_117 (by decide) ?_
        refine q_le (ls' := [some _, some _, some _, some _, some _, some _]) ⟨rfl, rfl, rfl, rfl, rfl, rfl, trivial⟩ ?_
        exact ih _ _ _ _ _ _ _ hw
      · have hw := hw2 c
        refine q_aload_nr eX10_cut_95 rfl ?_
        refine q_iload_n eX10_cut_96 rfl ?_
        refine q_iload eX10_cut_97 rfl ?_
        obtain ⟨hs33, hw⟩ := hw
        refine q_callV (b := 0) (t := 0) (gX10_comesTo _ _ _ _ _ hw) mlX10_441 kX10_comesTo vX10_comesTo rfl hs33 ⟨rfl, rfl⟩ (by decide) rfl (Nat.le_of_ble_eq_true rfl) eX10_cut_99 (kI fun r34 h35 hw => ?_)
        refine q_i2l eX10_cut_102 ?_
        refine q_iload_n eX10_cut_103 rfl ?_
        refine q_callS (b := 0) (t := 0) (gX10_isIn _ _ _ _ hw) mlX10_232 kX10_isIn sX10_isIn rfl (by decide) rfl (Nat.le_of_ble_eq_true rfl) eX10_cut_104 (kI fun r36 h37 hw => ?_)
        obtain ⟨hw1, hw2⟩ := hw
        refine q_if_ne (tgt := 114) eX10_cut_107 (by decide) (fun c => ?_) (fun c => ?_)
        · have hw := hw1 c
          refine x_iinc (v := (x5 + (-1 : Int32))) (ls' := [_, _, _, _, _, _]) eX10_cut_114 rfl rfl rfl rfl ?_
          refine q_goto (tgt := 77) eX10_cut_117 (by decide) ?_
          refine q_le (ls' := [some _, some _, some _, some _, some _, some _]) ⟨rfl, rfl, rfl, rfl, rfl, rfl, trivial⟩ ?_
          exact ih _ _ _ _ _ _ _ hw
        · have hw := hw2 c
          refine q_iload eX10_cut_110 rfl ?_
          refine x_istore (ls' := [_, _, _, _, _, _]) eX10_cut_112 (by decide) rfl rfl ?_
          refine x_iinc (v := (x5 + (-1 : Int32))) (ls' := [_, _, _, _, _, _]) eX10_cut_114 rfl rfl rfl rfl ?_
          refine q_goto (tgt := 77) eX10_cut_117 (by decide) ?_
          refine q_le (ls' := [some _, some _, some _, some _, some _, some _]) ⟨rfl, rfl, rfl, rfl, rfl, rfl, trivial⟩ ?_
          exact ih _ _ _ _ _ _ _ hw
def wX10_cut (x0 : Nat) (x1 : Int32) (x2 : Int32) (x3 : Int32) (h : MH) (Q : Int32 → MH → Prop) : Prop := hS h x0 = (1, 10) ∧ ∀ h2, h2 = sI h x0 0 (nI 0) → ∃ a3, hR h2 x0 1 = some a3 ∧ ∃ n6, hS h2 a3 = (2, n6) ∧ vp_in (nI 1) n6 ∧ wX10_within ((x1).toInt64) (0 : Int64) (((hI h2 a3 (nI 1).toNatClampNeg - nI 1)).toInt64) h2 (fun r8 h9 => (r8 = 0 → Q ((-2 : Int32)) h9) ∧ (¬ (r8 = 0) → hS h9 x0 = (1, 10) ∧ ∃ a11, hR h9 x0 1 = some a11 ∧ ∃ n14, hS h9 a11 = (2, n14) ∧ vp_in (nI 1) n14 ∧ wX10_within ((x2).toInt64) (0 : Int64) (((hI h9 a11 (nI 1).toNatClampNeg - nI 1)).toInt64) h9 (fun r16 h17 => (r16 = 0 → Q ((-2 : Int32)) h17) ∧ (¬ (r16 = 0) → wX10_within ((x3).toInt64) (0 : Int64) (1 : Int64) h17 (fun r18 h19 => (¬ (r18 = 0) → (¬ (x1 = x2) → hS h19 x0 = (1, 10) ∧ ∃ a21, hR h19 x0 1 = some a21 ∧ ∃ n24, hS h19 a21 = (2, n24) ∧ vp_in (nI 2) n24 ∧ ∀ v26, v26 = ((nI 1 <<< (hI h19 a21 (nI 2).toNatClampNeg &&& 31)) - nI 1) → ∃ m38, wX10_cut_77 Q m38 x0 x1 x2 x3 v26 v26 h19) ∧ (x1 = x2 → Q ((-1 : Int32)) h19)) ∧ (r18 = 0 → Q ((-2 : Int32)) h19))))))
set_option maxHeartbeats 4000000 in
set_option maxRecDepth 100000 in
theorem gX10_cut (x0 : Nat) (x1 : Int32) (x2 : Int32) (x3 : Int32) (h : MH) (Q : Int32 → MH → Prop) (hw : wX10_cut x0 x1 x2 x3 h Q) : Cm MX10_cut 3 0 0 [.ref (x0), .int (x1), .int (x2), .int (x3)] h (pI Q) := by
  refine cm_of [some (.ref (x0)), some (.int (x1)), some (.int (x2)), some (.int (x3)), none, none] rfl pnX10 (Nat.le_of_ble_eq_true rfl) rfl ?_
  unfold wX10_cut at hw
  refine q_aload_nr eX10_cut_0 rfl ?_
  refine q_iconst (v := nI 0) eX10_cut_1 (by decide) ?_
  obtain ⟨hs1, hw⟩ := hw
  have hw := hw _ rfl
  refine q_putI (fwX10_1 _) rfl hs1 eX10_cut_2 ?_
  refine q_iload_n eX10_cut_5 rfl ?_
  refine q_i2l eX10_cut_6 ?_
  refine q_lconst (v := (0 : Int64)) eX10_cut_7 (by decide) ?_
  refine q_aload_nr eX10_cut_8 rfl ?_
  obtain ⟨a3, hr4, hw⟩ := hw
  refine q_getR flX10_13 rfl hs1 hr4 eX10_cut_9 ?_
  refine q_iconst (v := nI 1) eX10_cut_12 (by decide) ?_
  obtain ⟨n6, hs5, hw⟩ := hw
  obtain ⟨hi7, hw⟩ := hw
  refine q_iald hs5 hi7 eX10_cut_13 ?_
  refine q_iconst (v := nI 1) eX10_cut_14 (by decide) ?_
  refine q_isub eX10_cut_15 ?_
  refine q_i2l eX10_cut_16 ?_
  refine q_callS (b := 0) (t := 0) (gX10_within _ _ _ _ _ hw) mlX10_149 kX10_within sX10_within rfl (by decide) rfl (Nat.le_of_ble_eq_true rfl) eX10_cut_17 (kI fun r8 h9 hw => ?_)
  obtain ⟨hw1, hw2⟩ := hw
  refine q_if_eq (tgt := 51) eX10_cut_20 (by decide) (fun c => ?_) (fun c => ?_)
  · have hw := hw1 c
    refine q_bipush (v := (-2 : Int32)) eX10_cut_51 (by decide) ?_
    exact q_ret rfl eX10_cut_53 ⟨_, rfl, hw⟩
  · have hw := hw2 c
    refine q_iload_n eX10_cut_23 rfl ?_
    refine q_i2l eX10_cut_24 ?_
    refine q_lconst (v := (0 : Int64)) eX10_cut_25 (by decide) ?_
    refine q_aload_nr eX10_cut_26 rfl ?_
    obtain ⟨hs10, hw⟩ := hw
    obtain ⟨a11, hr12, hw⟩ := hw
    refine q_getR flX10_13 rfl hs10 hr12 eX10_cut_27 ?_
    refine q_iconst (v := nI 1) eX10_cut_30 (by decide) ?_
    obtain ⟨n14, hs13, hw⟩ := hw
    obtain ⟨hi15, hw⟩ := hw
    refine q_iald hs13 hi15 eX10_cut_31 ?_
    refine q_iconst (v := nI 1) eX10_cut_32 (by decide) ?_
    refine q_isub eX10_cut_33 ?_
    refine q_i2l eX10_cut_34 ?_
    refine q_callS (b := 0) (t := 0) (gX10_within _ _ _ _ _ hw) mlX10_149 kX10_within sX10_within rfl (by decide) rfl (Nat.le_of_ble_eq_true rfl) eX10_cut_35 (kI fun r16 h17 hw => ?_)
    obtain ⟨hw1, hw2⟩ := hw
    refine q_if_eq (tgt := 51) eX10_cut_38 (by decide) (fun c => ?_) (fun c => ?_)
    · have hw := hw1 c
      refine q_bipush (v := (-2 : Int32)) eX10_cut_51 (by decide) ?_
      exact q_ret rfl eX10_cut_53 ⟨_, rfl, hw⟩
    · have hw := hw2 c
      refine q_iload_n eX10_cut_41 rfl ?_
      refine q_i2l eX10_cut_42 ?_
      refine q_lconst (v := (0 : Int64)) eX10_cut_43 (by decide) ?_
      refine q_lconst (v := (1 : Int64)) eX10_cut_44 (by decide) ?_
      refine q_callS (b := 0) (t := 0) (gX10_within _ _ _ _ _ hw) mlX10_149 kX10_within sX10_within rfl (by decide) rfl (Nat.le_of_ble_eq_true rfl) eX10_cut_45 (kI fun r18 h19 hw => ?_)
      obtain ⟨hw1, hw2⟩ := hw
      refine q_if_ne (tgt := 54) eX10_cut_48 (by decide) (fun c => ?_) (fun c => ?_)
      · have hw := hw1 c
        refine q_iload_n eX10_cut_54 rfl ?_
        refine q_iload_n eX10_cut_55 rfl ?_
        obtain ⟨hw1, hw2⟩ := hw
        refine q_icmp_ne (tgt := 61) eX10_cut_56 (by decide) (fun c => ?_) (fun c => ?_)
        · have hw := hw1 c
          refine q_iconst (v := nI 1) eX10_cut_61 (by decide) ?_
          refine q_aload_nr eX10_cut_62 rfl ?_
          obtain ⟨hs20, hw⟩ := hw
          obtain ⟨a21, hr22, hw⟩ := hw
          refine q_getR flX10_13 rfl hs20 hr22 eX10_cut_63 ?_
          refine q_iconst (v := nI 2) eX10_cut_66 (by decide) ?_
          obtain ⟨n24, hs23, hw⟩ := hw
          obtain ⟨hi25, hw⟩ := hw
          refine q_iald hs23 hi25 eX10_cut_67 ?_
          refine q_ishl eX10_cut_68 ?_
          refine q_iconst (v := nI 1) eX10_cut_69 (by decide) ?_
          refine q_isub eX10_cut_70 ?_
          have hw := hw _ rfl
          refine x_istore (ls' := [_, _, _, _, _, _]) eX10_cut_71 (by decide) rfl rfl ?_
          refine q_iload eX10_cut_73 rfl ?_
          refine x_istore (ls' := [_, _, _, _, _, _]) eX10_cut_75 (by decide) rfl rfl ?_
          refine q_le (ls' := [some _, some _, some _, some _, some _, some _]) ⟨rfl, rfl, rfl, rfl, rfl, rfl, trivial⟩ ?_
          obtain ⟨m38, hw⟩ := hw
          exact tX10_cut_77 m38 _ _ _ _ _ _ _ hw
        · have hw := hw2 c
          refine q_iconst (v := (-1 : Int32)) eX10_cut_59 (by decide) ?_
          exact q_ret rfl eX10_cut_60 ⟨_, rfl, hw⟩
      · have hw := hw2 c
        refine q_bipush (v := (-2 : Int32)) eX10_cut_51 (by decide) ?_
        exact q_ret rfl eX10_cut_53 ⟨_, rfl, hw⟩
def wX10_noPriced_34 (Q : Int32 → MH → Prop) : Nat → Nat → Int32 → Int32 → MH → Prop
  | 0, _, _, _, _ => False
  | n + 1, x0, x1, x3, h => hS h x0 = (1, 10) ∧ ∃ a13, hR h x0 35 = some a13 ∧ ∃ n16, hS h a13 = (2, n16) ∧ vp_in (x1) n16 ∧ (hI h a13 (x1).toNatClampNeg ≤ x3 → Q (nI 0) h) ∧ (¬ (hI h a13 (x1).toNatClampNeg ≤ x3) → ∃ a18, hR h x0 36 = some a18 ∧ ∃ n21, hS h a18 = (3, n21) ∧ vp_in (((nI 40 * x1) + x3)) n21 ∧ wX10_within (hL h a18 (((nI 40 * x1) + x3)).toNatClampNeg) (0 : Int64) (((1000 : Int64) * (hI h x0 23).toInt64) - (1 : Int64)) h (fun r23 h24 => (¬ (r23 = 0) → wX10_noPriced_34 Q n x0 x1 (x3 + nI 1) h24) ∧ (r23 = 0 → Q ((-3 : Int32)) h24)))
set_option maxHeartbeats 4000000 in
set_option maxRecDepth 100000 in
theorem tX10_noPriced_34 {Q : Int32 → MH → Prop} : ∀ (n : Nat) (h : MH) (x0 : Nat) (x1 : Int32) (x3 : Int32), wX10_noPriced_34 Q n x0 x1 x3 h → Wm MX10_noPriced 2 0 0 34 [some (.ref (x0)), some (.int (x1)), none, some (.int (x3))] [] h (pI Q) := by
  intro n
  induction n with
  | zero => intro h x0 x1 x3 hw; exact hw.elim
  | succ n ih =>
    intro h x0 x1 x3 hw
    unfold wX10_noPriced_34 at hw
    refine q_iload_n eX10_noPriced_34 rfl ?_
    refine q_aload_nr eX10_noPriced_35 rfl ?_
    obtain ⟨hs12, hw⟩ := hw
    obtain ⟨a13, hr14, hw⟩ := hw
    refine q_getR flX10_73 rfl hs12 hr14 eX10_noPriced_36 ?_
    refine q_iload_n eX10_noPriced_39 rfl ?_
    obtain ⟨n16, hs15, hw⟩ := hw
    obtain ⟨hi17, hw⟩ := hw
    refine q_iald hs15 hi17 eX10_noPriced_40 ?_
    obtain ⟨hw1, hw2⟩ := hw
    refine q_icmp_ge (tgt := 82) eX10_noPriced_41 (by decide) (fun c => ?_) (fun c => ?_)
    · have hw := hw1 c
      refine q_iconst (v := nI 0) eX10_noPriced_82 (by decide) ?_
      exact q_ret rfl eX10_noPriced_83 ⟨_, rfl, hw⟩
    · have hw := hw2 c
      refine q_aload_nr eX10_noPriced_44 rfl ?_
      obtain ⟨a18, hr19, hw⟩ := hw
      refine q_getR flX10_76 rfl hs12 hr19 eX10_noPriced_45 ?_
      refine q_bipush (v := nI 40) eX10_noPriced_48 (by decide) ?_
      refine q_iload_n eX10_noPriced_50 rfl ?_
      refine q_imul eX10_noPriced_51 ?_
      refine q_iload_n eX10_noPriced_52 rfl ?_
      refine q_iadd eX10_noPriced_53 ?_
      obtain ⟨n21, hs20, hw⟩ := hw
      obtain ⟨hi22, hw⟩ := hw
      refine q_lald hs20 hi22 eX10_noPriced_54 ?_
      refine q_lconst (v := (0 : Int64)) eX10_noPriced_55 (by decide) ?_
      refine q_ldc2 coX10_446 eX10_noPriced_56 ?_
      refine q_aload_nr eX10_noPriced_59 rfl ?_
      refine q_getI flX10_216 rfl hs12 eX10_noPriced_60 ?_
      refine q_i2l eX10_noPriced_63 ?_
      refine q_lmul eX10_noPriced_64 ?_
      refine q_lconst (v := (1 : Int64)) eX10_noPriced_65 (by decide) ?_
      refine q_lsub eX10_noPriced_66 ?_
      refine q_callS (b := 0) (t := 0) (gX10_within _ _ _ _ _ hw) mlX10_149 kX10_within sX10_within rfl (by decide) rfl (Nat.le_of_ble_eq_true rfl) eX10_noPriced_67 (kI fun r23 h24 hw => ?_)
      obtain ⟨hw1, hw2⟩ := hw
      refine q_if_ne (tgt := 76) eX10_noPriced_70 (by decide) (fun c => ?_) (fun c => ?_)
      · have hw := hw1 c
        refine x_iinc (v := (x3 + nI 1)) (ls' := [_, _, _, _]) eX10_noPriced_76 rfl rfl rfl rfl ?_
        refine q_goto (tgt := 34) eX10_noPriced_79 (by decide) ?_
        refine q_le (ls' := [some _, some _, none, some _]) ⟨rfl, rfl, rfl, trivial⟩ ?_
        exact ih _ _ _ _ hw
      · have hw := hw2 c
        refine q_bipush (v := (-3 : Int32)) eX10_noPriced_73 (by decide) ?_
        exact q_ret rfl eX10_noPriced_75 ⟨_, rfl, hw⟩
def wX10_noPriced (x0 : Nat) (x1 : Int32) (h : MH) (Q : Int32 → MH → Prop) : Prop := hS h x0 = (1, 10) ∧ wX10_noTray x0 x1 h (fun r2 h3 => (r2 = 0 → hS h3 x0 = (1, 10) ∧ ∃ a5, hR h3 x0 35 = some a5 ∧ ∃ n8, hS h3 a5 = (2, n8) ∧ vp_in (x1) n8 ∧ wX10_within ((hI h3 a5 (x1).toNatClampNeg).toInt64) (1 : Int64) (8 : Int64) h3 (fun r10 h11 => (¬ (r10 = 0) → ∃ m25, wX10_noPriced_34 Q m25 x0 x1 (nI 0) h11) ∧ (r10 = 0 → Q ((-4 : Int32)) h11))) ∧ (¬ (r2 = 0) → Q (r2) h3))
set_option maxHeartbeats 4000000 in
set_option maxRecDepth 100000 in
theorem gX10_noPriced (x0 : Nat) (x1 : Int32) (h : MH) (Q : Int32 → MH → Prop) (hw : wX10_noPriced x0 x1 h Q) : Cm MX10_noPriced 2 0 0 [.ref (x0), .int (x1)] h (pI Q) := by
  refine cm_of [some (.ref (x0)), some (.int (x1)), none, none] rfl pnX10 (Nat.le_of_ble_eq_true rfl) rfl ?_
  unfold wX10_noPriced at hw
  refine q_aload_nr eX10_noPriced_0 rfl ?_
  refine q_iload_n eX10_noPriced_1 rfl ?_
  obtain ⟨hs1, hw⟩ := hw
  refine q_callV (b := 0) (t := 0) (gX10_noTray _ _ _ _ hw) mlX10_373 kX10_noTray vX10_noTray rfl hs1 ⟨rfl, rfl⟩ (by decide) rfl (Nat.le_of_ble_eq_true rfl) eX10_noPriced_2 (kI fun r2 h3 hw => ?_)
  refine x_istore_n (ls' := [_, _, _, _]) eX10_noPriced_5 (by decide) rfl rfl ?_
  refine q_iload_n eX10_noPriced_6 rfl ?_
  obtain ⟨hw1, hw2⟩ := hw
  refine q_if_eq (tgt := 12) eX10_noPriced_7 (by decide) (fun c => ?_) (fun c => ?_)
  · have hw := hw1 c
    refine q_aload_nr eX10_noPriced_12 rfl ?_
    obtain ⟨hs4, hw⟩ := hw
    obtain ⟨a5, hr6, hw⟩ := hw
    refine q_getR flX10_73 rfl hs4 hr6 eX10_noPriced_13 ?_
    refine q_iload_n eX10_noPriced_16 rfl ?_
    obtain ⟨n8, hs7, hw⟩ := hw
    obtain ⟨hi9, hw⟩ := hw
    refine q_iald hs7 hi9 eX10_noPriced_17 ?_
    refine q_i2l eX10_noPriced_18 ?_
    refine q_lconst (v := (1 : Int64)) eX10_noPriced_19 (by decide) ?_
    refine q_ldc2 coX10_444 eX10_noPriced_20 ?_
    refine q_callS (b := 0) (t := 0) (gX10_within _ _ _ _ _ hw) mlX10_149 kX10_within sX10_within rfl (by decide) rfl (Nat.le_of_ble_eq_true rfl) eX10_noPriced_23 (kI fun r10 h11 hw => ?_)
    obtain ⟨hw1, hw2⟩ := hw
    refine q_if_ne (tgt := 32) eX10_noPriced_26 (by decide) (fun c => ?_) (fun c => ?_)
    · have hw := hw1 c
      refine q_iconst (v := nI 0) eX10_noPriced_32 (by decide) ?_
      refine x_istore_n (ls' := [_, _, _, _]) eX10_noPriced_33 (by decide) rfl rfl ?_
      refine q_le (ls' := [some _, some _, none, some _]) ⟨rfl, rfl, rfl, trivial⟩ ?_
      obtain ⟨m25, hw⟩ := hw
      exact tX10_noPriced_34 m25 _ _ _ _ hw
    · have hw := hw2 c
      refine q_bipush (v := (-4 : Int32)) eX10_noPriced_29 (by decide) ?_
      exact q_ret rfl eX10_noPriced_31 ⟨_, rfl, hw⟩
  · have hw := hw2 c
    refine q_iload_n eX10_noPriced_10 rfl ?_
    exact q_ret rfl eX10_noPriced_11 ⟨_, rfl, hw⟩
def wX10_ratesOf_16 (Q : Int32 → MH → Prop) (K4 : Nat → Int32 → Int32 → Int32 → MH → Prop) : Nat → Nat → Int32 → Int32 → Int32 → Int32 → Int32 → MH → Prop
  | 0, _, _, _, _, _, _, _ => False
  | n + 1, x0, x1, x2, x3, x4, x5, h => hS h x0 = (1, 10) ∧ ∃ a2, hR h x0 35 = some a2 ∧ ∃ n5, hS h a2 = (2, n5) ∧ vp_in (x1) n5 ∧ (hI h a2 (x1).toNatClampNeg ≤ x5 → ∀ v8, v8 = (x2 ||| (if x4 = 0 then nI 0 else (nI 1 <<< (x3 &&& 31)))) → K4 x0 x1 v8 (x3 + nI 1) h) ∧ (¬ (hI h a2 (x1).toNatClampNeg ≤ x5) → ∃ a10, hR h x0 36 = some a10 ∧ ∃ n13, hS h a10 = (3, n13) ∧ vp_in (((nI 40 * x1) + x5)) n13 ∧ ∀ v15, v15 = (hL h a10 (((nI 40 * x1) + x5)).toNatClampNeg).toInt32 → ∃ a16, hR h x0 18 = some a16 ∧ ¬ nI 1000 = 0 ∧ ∃ n20, hS h a16 = (2, n20) ∧ vp_in ((v15 / nI 1000)) n20 ∧ wX10_costOf x0 (hI h a16 ((v15 / nI 1000)).toNatClampNeg) x3 h (fun r22 h23 => ¬ nI 1000 = 0 ∧ ∀ v26, v26 = (x4 &&& (if r22 = (v15 - v15 / nI 1000 * nI 1000) then nI 1 else nI 0)) → wX10_ratesOf_16 Q K4 n x0 x1 x2 x3 v26 (x5 + nI 1) h23))
set_option maxHeartbeats 4000000 in
set_option maxRecDepth 100000 in
theorem tX10_ratesOf_16 {Q : Int32 → MH → Prop} {K4 : Nat → Int32 → Int32 → Int32 → MH → Prop} (hK4 : ∀ (h : MH) (x0 : Nat) (x1 : Int32) (x2 : Int32) (x3 : Int32), K4 x0 x1 x2 x3 h → Wm MX10_ratesOf 3 0 0 4 [some (.ref (x0)), some (.int (x1)), some (.int (x2)), some (.int (x3)), none, none, none] [] h (pI Q)) : ∀ (n : Nat) (h : MH) (x0 : Nat) (x1 : Int32) (x2 : Int32) (x3 : Int32) (x4 : Int32) (x5 : Int32), wX10_ratesOf_16 Q K4 n x0 x1 x2 x3 x4 x5 h → Wm MX10_ratesOf 3 0 0 16 [some (.ref (x0)), some (.int (x1)), some (.int (x2)), some (.int (x3)), some (.int (x4)), some (.int (x5)), none] [] h (pI Q) := by
  intro n
  induction n with
  | zero => intro h x0 x1 x2 x3 x4 x5 hw; exact hw.elim
  | succ n ih =>
    intro h x0 x1 x2 x3 x4 x5 hw
    unfold wX10_ratesOf_16 at hw
    refine q_iload eX10_ratesOf_16 rfl ?_
    refine q_aload_nr eX10_ratesOf_18 rfl ?_
    obtain ⟨hs1, hw⟩ := hw
    obtain ⟨a2, hr3, hw⟩ := hw
    refine q_getR flX10_73 rfl hs1 hr3 eX10_ratesOf_19 ?_
    refine q_iload_n eX10_ratesOf_22 rfl ?_
    obtain ⟨n5, hs4, hw⟩ := hw
    obtain ⟨hi6, hw⟩ := hw
    refine q_iald hs4 hi6 eX10_ratesOf_23 ?_
    obtain ⟨hw1, hw2⟩ := hw
    refine q_icmp_ge (tgt := 83) eX10_ratesOf_24 (by decide) (fun c => ?_) (fun c => ?_)
    · have hw := hw1 c
      refine q_iload_n eX10_ratesOf_83 rfl ?_
      refine q_iload eX10_ratesOf_84 rfl ?_
      have hj9 : Wm MX10_ratesOf 3 0 0 96 [some (.ref (x0)), some (.int (x1)), some (.int (x2)), some (.int (x3)), some (.int (x4)), some (.int (x5)), none] [.int ((if x4 = 0 then nI 0 else (nI 1 <<< (x3 &&& 31)))), .int (x2)] h (pI Q) := by
        refine q_ior eX10_ratesOf_96 ?_
        have hw := hw _ rfl
        refine x_istore_n (ls' := [_, _, _, _, _, _, _]) eX10_ratesOf_97 (by decide) rfl rfl ?_
        refine x_iinc (v := (x3 + nI 1)) (ls' := [_, _, _, _, _, _, _]) eX10_ratesOf_98 rfl rfl rfl rfl ?_
        refine q_goto (tgt := 4) eX10_ratesOf_101 (by decide) ?_
        refine q_le (ls' := [some _, some _, some _, some _, none, none, none]) ⟨rfl, rfl, rfl, rfl, trivial⟩ ?_
        exact hK4 _ _ _ _ _ hw
      refine q_if_eq (tgt := 95) eX10_ratesOf_86 (by decide) (fun c => ?_) (fun c => ?_)
      · refine q_iconst (v := nI 0) eX10_ratesOf_95 (by decide) ?_
        rw [if_pos c] at hj9
        exact hj9
      · refine q_iconst (v := nI 1) eX10_ratesOf_89 (by decide) ?_
        refine q_iload_n eX10_ratesOf_90 rfl ?_
        refine q_ishl eX10_ratesOf_91 ?_
        refine q_goto (tgt := 96) eX10_ratesOf_92 (by decide) ?_
        rw [if_neg c] at hj9
        exact hj9
    · have hw := hw2 c
      refine q_aload_nr eX10_ratesOf_27 rfl ?_
      obtain ⟨a10, hr11, hw⟩ := hw
      refine q_getR flX10_76 rfl hs1 hr11 eX10_ratesOf_28 ?_
      refine q_bipush (v := nI 40) eX10_ratesOf_31 (by decide) ?_
      refine q_iload_n eX10_ratesOf_33 rfl ?_
      refine q_imul eX10_ratesOf_34 ?_
      refine q_iload eX10_ratesOf_35 rfl ?_
      refine q_iadd eX10_ratesOf_37 ?_
      obtain ⟨n13, hs12, hw⟩ := hw
      obtain ⟨hi14, hw⟩ := hw
      refine q_lald hs12 hi14 eX10_ratesOf_38 ?_
      refine q_l2i eX10_ratesOf_39 ?_
      have hw := hw _ rfl
      refine x_istore (ls' := [_, _, _, _, _, _, _]) eX10_ratesOf_40 (by decide) rfl rfl ?_
      refine q_iload eX10_ratesOf_42 rfl ?_
      refine q_aload_nr eX10_ratesOf_44 rfl ?_
      refine q_aload_nr eX10_ratesOf_45 rfl ?_
      obtain ⟨a16, hr17, hw⟩ := hw
      refine q_getR flX10_36 rfl hs1 hr17 eX10_ratesOf_46 ?_
      refine q_iload eX10_ratesOf_49 rfl ?_
      refine q_sipush (v := nI 1000) eX10_ratesOf_51 (by decide) ?_
      obtain ⟨hz18, hw⟩ := hw
      refine q_idiv eX10_ratesOf_54 hz18 ?_
      obtain ⟨n20, hs19, hw⟩ := hw
      obtain ⟨hi21, hw⟩ := hw
      refine q_iald hs19 hi21 eX10_ratesOf_55 ?_
      refine q_iload_n eX10_ratesOf_56 rfl ?_
      refine q_callV (b := 0) (t := 0) (gX10_costOf _ _ _ _ _ hw) mlX10_251 kX10_costOf vX10_costOf rfl hs1 ⟨rfl, rfl⟩ (by decide) rfl (Nat.le_of_ble_eq_true rfl) eX10_ratesOf_57 (kI fun r22 h23 hw => ?_)
      refine q_iload eX10_ratesOf_60 rfl ?_
      refine q_sipush (v := nI 1000) eX10_ratesOf_62 (by decide) ?_
      obtain ⟨hz24, hw⟩ := hw
      refine q_irem eX10_ratesOf_65 hz24 ?_
      have hj27 : Wm MX10_ratesOf 3 0 0 74 [some (.ref (x0)), some (.int (x1)), some (.int (x2)), some (.int (x3)), some (.int (x4)), some (.int (x5)), some (.int (((hL h a10 (((nI 40 * x1) + x5)).toNatClampNeg).toInt32)))] [.int ((if r22 = (((hL h a10 (((nI 40 * x1) + x5)).toNatClampNeg).toInt32) - ((hL h a10 (((nI 40 * x1) + x5)).toNatClampNeg).toInt32) / nI 1000 * nI 1000) then nI 1 else nI 0)), .int (x4)] h23 (pI Q) := by
        refine q_iand eX10_ratesOf_74 ?_
        have hw := hw _ rfl
        refine x_istore (ls' := [_, _, _, _, _, _, _]) eX10_ratesOf_75 (by decide) rfl rfl ?_
        refine x_iinc (v := (x5 + nI 1)) (ls' := [_, _, _, _, _, _, _]) eX10_ratesOf_77 rfl rfl rfl rfl ?_
        refine q_goto (tgt := 16) eX10_ratesOf_80 (by decide) ?_
        refine q_le (ls' := [some _, some _, some _, some _, some _, some _, none]) ⟨rfl, rfl, rfl, rfl, rfl, rfl, trivial⟩ ?_
        exact ih _ _ _ _ _ _ _ hw
      refine q_icmp_ne (tgt := 73) eX10_ratesOf_66 (by decide) (fun c => ?_) (fun c => ?_)
      · refine q_iconst (v := nI 0) eX10_ratesOf_73 (by decide) ?_
        rw [if_neg c] at hj27
        exact hj27
      · refine q_iconst (v := nI 1) eX10_ratesOf_69 (by decide) ?_
        refine q_goto (tgt := 74) eX10_ratesOf_70 (by decide) ?_
        rw [if_pos c] at hj27
        exact hj27
def wX10_ratesOf_4 (Q : Int32 → MH → Prop) : Nat → Nat → Int32 → Int32 → Int32 → MH → Prop
  | 0, _, _, _, _, _ => False
  | n + 1, x0, x1, x2, x3, h => (nI 10 ≤ x3 → Q (x2) h) ∧ (¬ (nI 10 ≤ x3) → ∃ m28, wX10_ratesOf_16 Q (wX10_ratesOf_4 Q n) m28 x0 x1 x2 x3 (nI 1) (nI 0) h)
set_option maxHeartbeats 4000000 in
set_option maxRecDepth 100000 in
theorem tX10_ratesOf_4 {Q : Int32 → MH → Prop} : ∀ (n : Nat) (h : MH) (x0 : Nat) (x1 : Int32) (x2 : Int32) (x3 : Int32), wX10_ratesOf_4 Q n x0 x1 x2 x3 h → Wm MX10_ratesOf 3 0 0 4 [some (.ref (x0)), some (.int (x1)), some (.int (x2)), some (.int (x3)), none, none, none] [] h (pI Q) := by
  intro n
  induction n with
  | zero => intro h x0 x1 x2 x3 hw; exact hw.elim
  | succ n ih =>
    intro h x0 x1 x2 x3 hw
    unfold wX10_ratesOf_4 at hw
    refine q_iload_n eX10_ratesOf_4 rfl ?_
    refine q_bipush (v := nI 10) eX10_ratesOf_5 (by decide) ?_
    obtain ⟨hw1, hw2⟩ := hw
    refine q_icmp_ge (tgt := 104) eX10_ratesOf_7 (by decide) (fun c => ?_) (fun c => ?_)
    · have hw := hw1 c
      refine q_iload_n eX10_ratesOf_104 rfl ?_
      exact q_ret rfl eX10_ratesOf_105 ⟨_, rfl, hw⟩
    · have hw := hw2 c
      refine q_iconst (v := nI 1) eX10_ratesOf_10 (by decide) ?_
      refine x_istore (ls' := [_, _, _, _, _, _, _]) eX10_ratesOf_11 (by decide) rfl rfl ?_
      refine q_iconst (v := nI 0) eX10_ratesOf_13 (by decide) ?_
      refine x_istore (ls' := [_, _, _, _, _, _, _]) eX10_ratesOf_14 (by decide) rfl rfl ?_
      refine q_le (ls' := [some _, some _, some _, some _, some _, some _, none]) ⟨rfl, rfl, rfl, rfl, rfl, rfl, trivial⟩ ?_
      obtain ⟨m28, hw⟩ := hw
      exact tX10_ratesOf_16 ih m28 _ _ _ _ _ _ _ hw
def wX10_ratesOf (x0 : Nat) (x1 : Int32) (h : MH) (Q : Int32 → MH → Prop) : Prop := ∃ m29, wX10_ratesOf_4 Q m29 x0 x1 (nI 0) (nI 0) h
set_option maxHeartbeats 4000000 in
set_option maxRecDepth 100000 in
theorem gX10_ratesOf (x0 : Nat) (x1 : Int32) (h : MH) (Q : Int32 → MH → Prop) (hw : wX10_ratesOf x0 x1 h Q) : Cm MX10_ratesOf 3 0 0 [.ref (x0), .int (x1)] h (pI Q) := by
  refine cm_of [some (.ref (x0)), some (.int (x1)), none, none, none, none, none] rfl pnX10 (Nat.le_of_ble_eq_true rfl) rfl ?_
  unfold wX10_ratesOf at hw
  refine q_iconst (v := nI 0) eX10_ratesOf_0 (by decide) ?_
  refine x_istore_n (ls' := [_, _, _, _, _, _, _]) eX10_ratesOf_1 (by decide) rfl rfl ?_
  refine q_iconst (v := nI 0) eX10_ratesOf_2 (by decide) ?_
  refine x_istore_n (ls' := [_, _, _, _, _, _, _]) eX10_ratesOf_3 (by decide) rfl rfl ?_
  refine q_le (ls' := [some _, some _, some _, some _, none, none, none]) ⟨rfl, rfl, rfl, rfl, trivial⟩ ?_
  obtain ⟨m29, hw⟩ := hw
  exact tX10_ratesOf_4 m29 _ _ _ _ _ hw
def wX10_rates (x0 : Nat) (x1 : Int32) (h : MH) (Q : Int32 → MH → Prop) : Prop := hS h x0 = (1, 10) ∧ ∀ h2, h2 = sI h x0 0 (nI 0) → wX10_noPriced x0 x1 h2 (fun r3 h4 => (r3 = 0 → hS h4 x0 = (1, 10) ∧ wX10_ratesOf x0 x1 h4 (fun r6 h7 => Q (r6) h7)) ∧ (¬ (r3 = 0) → Q (r3) h4))
set_option maxHeartbeats 4000000 in
set_option maxRecDepth 100000 in
theorem gX10_rates (x0 : Nat) (x1 : Int32) (h : MH) (Q : Int32 → MH → Prop) (hw : wX10_rates x0 x1 h Q) : Cm MX10_rates 4 0 0 [.ref (x0), .int (x1)] h (pI Q) := by
  refine cm_of [some (.ref (x0)), some (.int (x1)), none] rfl pnX10 (Nat.le_of_ble_eq_true rfl) rfl ?_
  unfold wX10_rates at hw
  refine q_aload_nr eX10_rates_0 rfl ?_
  refine q_iconst (v := nI 0) eX10_rates_1 (by decide) ?_
  obtain ⟨hs1, hw⟩ := hw
  have hw := hw _ rfl
  refine q_putI (fwX10_1 _) rfl hs1 eX10_rates_2 ?_
  refine q_aload_nr eX10_rates_5 rfl ?_
  refine q_iload_n eX10_rates_6 rfl ?_
  refine q_callV (b := 0) (t := 0) (gX10_noPriced _ _ _ _ hw) mlX10_448 kX10_noPriced vX10_noPriced rfl hs1 ⟨rfl, rfl⟩ (by decide) rfl (Nat.le_of_ble_eq_true rfl) eX10_rates_7 (kI fun r3 h4 hw => ?_)
  refine x_istore_n (ls' := [_, _, _]) eX10_rates_10 (by decide) rfl rfl ?_
  refine q_iload_n eX10_rates_11 rfl ?_
  obtain ⟨hw1, hw2⟩ := hw
  refine q_if_eq (tgt := 19) eX10_rates_12 (by decide) (fun c => ?_) (fun c => ?_)
  · have hw := hw1 c
    refine q_aload_nr eX10_rates_19 rfl ?_
    refine q_iload_n eX10_rates_20 rfl ?_
    obtain ⟨hs5, hw⟩ := hw
    refine q_callV (b := 0) (t := 0) (gX10_ratesOf _ _ _ _ hw) mlX10_451 kX10_ratesOf vX10_ratesOf rfl hs5 ⟨rfl, rfl⟩ (by decide) rfl (Nat.le_of_ble_eq_true rfl) eX10_rates_21 (kI fun r6 h7 hw => ?_)
    exact q_ret rfl eX10_rates_24 ⟨_, rfl, hw⟩
  · have hw := hw2 c
    refine q_iload_n eX10_rates_15 rfl ?_
    refine q_goto (tgt := 24) eX10_rates_16 (by decide) ?_
    exact q_ret rfl eX10_rates_24 ⟨_, rfl, hw⟩
def wX10_mostAlike_49 (Q : Int32 → MH → Prop) (K36 : Nat → Int32 → Int32 → Int32 → MH → Prop) : Nat → Nat → Int32 → Int32 → Int32 → Int32 → Int32 → MH → Prop
  | 0, _, _, _, _, _, _, _ => False
  | n + 1, x0, x1, x3, x4, x5, x6, h => (nI 10 ≤ x6 → K36 x0 x1 (if x5 ≤ x3 then x3 else x5) (x4 + nI 1) h) ∧ (¬ (nI 10 ≤ x6) → wX10_isIn ((x1).toInt64) x4 h (fun r3 h4 => (r3 = 0 → wX10_mostAlike_49 Q K36 n x0 x1 x3 x4 (x5 + nI 0) (x6 + nI 1) h4) ∧ (¬ (r3 = 0) → wX10_isIn ((x1).toInt64) x6 h4 (fun r5 h6 => (r5 = 0 → wX10_mostAlike_49 Q K36 n x0 x1 x3 x4 (x5 + nI 0) (x6 + nI 1) h6) ∧ (¬ (r5 = 0) → hS h6 x0 = (1, 10) ∧ ∃ a8, hR h6 x0 30 = some a8 ∧ ∃ n11, hS h6 a8 = (2, n11) ∧ vp_in (x4) n11 ∧ vp_in (x6) n11 ∧ ∀ v15, v15 = (x5 + (if hI h6 a8 (x4).toNatClampNeg = hI h6 a8 (x6).toNatClampNeg then nI 1 else nI 0)) → wX10_mostAlike_49 Q K36 n x0 x1 x3 x4 v15 (x6 + nI 1) h6)))))
set_option maxHeartbeats 4000000 in
set_option maxRecDepth 100000 in
theorem tX10_mostAlike_49 {Q : Int32 → MH → Prop} {K36 : Nat → Int32 → Int32 → Int32 → MH → Prop} (hK36 : ∀ (h : MH) (x0 : Nat) (x1 : Int32) (x3 : Int32) (x4 : Int32), K36 x0 x1 x3 x4 h → Wm MX10_mostAlike 3 0 0 36 [some (.ref (x0)), some (.int (x1)), none, some (.int (x3)), some (.int (x4)), none, none] [] h (pI Q)) : ∀ (n : Nat) (h : MH) (x0 : Nat) (x1 : Int32) (x3 : Int32) (x4 : Int32) (x5 : Int32) (x6 : Int32), wX10_mostAlike_49 Q K36 n x0 x1 x3 x4 x5 x6 h → Wm MX10_mostAlike 3 0 0 49 [some (.ref (x0)), some (.int (x1)), none, some (.int (x3)), some (.int (x4)), some (.int (x5)), some (.int (x6))] [] h (pI Q) := by
  intro n
  induction n with
  | zero => intro h x0 x1 x3 x4 x5 x6 hw; exact hw.elim
  | succ n ih =>
    intro h x0 x1 x3 x4 x5 x6 hw
    unfold wX10_mostAlike_49 at hw
    refine q_iload eX10_mostAlike_49 rfl ?_
    refine q_bipush (v := nI 10) eX10_mostAlike_51 (by decide) ?_
    obtain ⟨hw1, hw2⟩ := hw
    refine q_icmp_ge (tgt := 109) eX10_mostAlike_53 (by decide) (fun c => ?_) (fun c => ?_)
    · have hw := hw1 c
      refine q_iload eX10_mostAlike_109 rfl ?_
      refine q_iload_n eX10_mostAlike_111 rfl ?_
      have hj2 : Wm MX10_mostAlike 3 0 0 121 [some (.ref (x0)), some (.int (x1)), none, some (.int (x3)), some (.int (x4)), some (.int (x5)), some (.int (x6))] [.int ((if x5 ≤ x3 then x3 else x5))] h (pI Q) := by
        refine x_istore_n (ls' := [_, _, _, _, _, _, _]) eX10_mostAlike_121 (by decide) rfl rfl ?_
        refine x_iinc (v := (x4 + nI 1)) (ls' := [_, _, _, _, _, _, _]) eX10_mostAlike_122 rfl rfl rfl rfl ?_
        refine q_goto (tgt := 36) eX10_mostAlike_125 (by decide) ?_
        refine q_le (ls' := [some _, some _, none, some _, some _, none, none]) ⟨rfl, rfl, rfl, rfl, trivial⟩ ?_
        exact hK36 _ _ _ _ _ hw
      refine q_icmp_le (tgt := 120) eX10_mostAlike_112 (by decide) (fun c => ?_) (fun c => ?_)
      · refine q_iload_n eX10_mostAlike_120 rfl ?_
        rw [if_pos c] at hj2
        exact hj2
      · refine q_iload eX10_mostAlike_115 rfl ?_
        refine q_goto (tgt := 121) eX10_mostAlike_117 (by decide) ?_
        rw [if_neg c] at hj2
        exact hj2
    · have hw := hw2 c
      refine q_iload eX10_mostAlike_56 rfl ?_
      refine q_iload_n eX10_mostAlike_58 rfl ?_
      refine q_i2l eX10_mostAlike_59 ?_
      refine q_iload eX10_mostAlike_60 rfl ?_
      refine q_callS (b := 0) (t := 0) (gX10_isIn _ _ _ _ hw) mlX10_232 kX10_isIn sX10_isIn rfl (by decide) rfl (Nat.le_of_ble_eq_true rfl) eX10_mostAlike_62 (kI fun r3 h4 hw => ?_)
      obtain ⟨hw1, hw2⟩ := hw
      refine q_if_eq (tgt := 99) eX10_mostAlike_65 (by decide) (fun c => ?_) (fun c => ?_)
      · have hw := hw1 c
        refine q_iconst (v := nI 0) eX10_mostAlike_99 (by decide) ?_
        refine q_iadd eX10_mostAlike_100 ?_
        refine x_istore (ls' := [_, _, _, _, _, _, _]) eX10_mostAlike_101 (by decide) rfl rfl ?_
        refine x_iinc (v := (x6 + nI 1)) (ls' := [_, _, _, _, _, _, _]) eX10_mostAlike_103 rfl rfl rfl rfl ?_
        refine q_goto (tgt := 49) eX10_mostAlike_106 (by decide) ?_
        refine q_le (ls' := [some _, some _, none, some _, some _, some _, some _]) ⟨rfl, rfl, rfl, rfl, rfl, rfl, trivial⟩ ?_
        exact ih _ _ _ _ _ _ _ hw
      · have hw := hw2 c
        refine q_iload_n eX10_mostAlike_68 rfl ?_
        refine q_i2l eX10_mostAlike_69 ?_
        refine q_iload eX10_mostAlike_70 rfl ?_
        refine q_callS (b := 0) (t := 0) (gX10_isIn _ _ _ _ hw) mlX10_232 kX10_isIn sX10_isIn rfl (by decide) rfl (Nat.le_of_ble_eq_true rfl) eX10_mostAlike_72 (kI fun r5 h6 hw => ?_)
        obtain ⟨hw1, hw2⟩ := hw
        refine q_if_eq (tgt := 99) eX10_mostAlike_75 (by decide) (fun c => ?_) (fun c => ?_)
        · have hw := hw1 c
          refine q_iconst (v := nI 0) eX10_mostAlike_99 (by decide) ?_
          refine q_iadd eX10_mostAlike_100 ?_
          refine x_istore (ls' := [_, _, _, _, _, _, _]) eX10_mostAlike_101 (by decide) rfl rfl ?_
          refine x_iinc (v := (x6 + nI 1)) (ls' := [_, _, _, _, _, _, _]) eX10_mostAlike_103 rfl rfl rfl rfl ?_
          refine q_goto (tgt := 49) eX10_mostAlike_106 (by decide) ?_
          refine q_le (ls' := [some _, some _, none, some _, some _, some _, some _]) ⟨rfl, rfl, rfl, rfl, rfl, rfl, trivial⟩ ?_
          exact ih _ _ _ _ _ _ _ hw
        · have hw := hw2 c
          refine q_aload_nr eX10_mostAlike_78 rfl ?_
          obtain ⟨hs7, hw⟩ := hw
          obtain ⟨a8, hr9, hw⟩ := hw
          refine q_getR flX10_64 rfl hs7 hr9 eX10_mostAlike_79 ?_
          refine q_iload eX10_mostAlike_82 rfl ?_
          obtain ⟨n11, hs10, hw⟩ := hw
          obtain ⟨hi12, hw⟩ := hw
          refine q_iald hs10 hi12 eX10_mostAlike_84 ?_
          refine q_aload_nr eX10_mostAlike_85 rfl ?_
          refine q_getR flX10_64 rfl hs7 hr9 eX10_mostAlike_86 ?_
          refine q_iload eX10_mostAlike_89 rfl ?_
          obtain ⟨hi13, hw⟩ := hw
          refine q_iald hs10 hi13 eX10_mostAlike_91 ?_
          have hj16 : Wm MX10_mostAlike 3 0 0 100 [some (.ref (x0)), some (.int (x1)), none, some (.int (x3)), some (.int (x4)), some (.int (x5)), some (.int (x6))] [.int ((if hI h6 a8 (x4).toNatClampNeg = hI h6 a8 (x6).toNatClampNeg then nI 1 else nI 0)), .int (x5)] h6 (pI Q) := by
            refine q_iadd eX10_mostAlike_100 ?_
            have hw := hw _ rfl
            refine x_istore (ls' := [_, _, _, _, _, _, _]) eX10_mostAlike_101 (by decide) rfl rfl ?_
            refine x_iinc (v := (x6 + nI 1)) (ls' := [_, _, _, _, _, _, _]) eX10_mostAlike_103 rfl rfl rfl rfl ?_
            refine q_goto (tgt := 49) eX10_mostAlike_106 (by decide) ?_
            refine q_le (ls' := [some _, some _, none, some _, some _, some _, some _]) ⟨rfl, rfl, rfl, rfl, rfl, rfl, trivial⟩ ?_
            exact ih _ _ _ _ _ _ _ hw
          refine q_icmp_ne (tgt := 99) eX10_mostAlike_92 (by decide) (fun c => ?_) (fun c => ?_)
          · refine q_iconst (v := nI 0) eX10_mostAlike_99 (by decide) ?_
            rw [if_neg c] at hj16
            exact hj16
          · refine q_iconst (v := nI 1) eX10_mostAlike_95 (by decide) ?_
            refine q_goto (tgt := 100) eX10_mostAlike_96 (by decide) ?_
            rw [if_pos c] at hj16
            exact hj16
def wX10_mostAlike_36 (Q : Int32 → MH → Prop) : Nat → Nat → Int32 → Int32 → Int32 → MH → Prop
  | 0, _, _, _, _, _ => False
  | n + 1, x0, x1, x3, x4, h => (nI 10 ≤ x4 → Q (x3) h) ∧ (¬ (nI 10 ≤ x4) → ∃ m17, wX10_mostAlike_49 Q (wX10_mostAlike_36 Q n) m17 x0 x1 x3 x4 (nI 0) (nI 0) h)
set_option maxHeartbeats 4000000 in
set_option maxRecDepth 100000 in
theorem tX10_mostAlike_36 {Q : Int32 → MH → Prop} : ∀ (n : Nat) (h : MH) (x0 : Nat) (x1 : Int32) (x3 : Int32) (x4 : Int32), wX10_mostAlike_36 Q n x0 x1 x3 x4 h → Wm MX10_mostAlike 3 0 0 36 [some (.ref (x0)), some (.int (x1)), none, some (.int (x3)), some (.int (x4)), none, none] [] h (pI Q) := by
  intro n
  induction n with
  | zero => intro h x0 x1 x3 x4 hw; exact hw.elim
  | succ n ih =>
    intro h x0 x1 x3 x4 hw
    unfold wX10_mostAlike_36 at hw
    refine q_iload eX10_mostAlike_36 rfl ?_
    refine q_bipush (v := nI 10) eX10_mostAlike_38 (by decide) ?_
    obtain ⟨hw1, hw2⟩ := hw
    refine q_icmp_ge (tgt := 128) eX10_mostAlike_40 (by decide) (fun c => ?_) (fun c => ?_)
    · have hw := hw1 c
      refine q_iload_n eX10_mostAlike_128 rfl ?_
      exact q_ret rfl eX10_mostAlike_129 ⟨_, rfl, hw⟩
    · have hw := hw2 c
      refine q_iconst (v := nI 0) eX10_mostAlike_43 (by decide) ?_
      refine x_istore (ls' := [_, _, _, _, _, _, _]) eX10_mostAlike_44 (by decide) rfl rfl ?_
      refine q_iconst (v := nI 0) eX10_mostAlike_46 (by decide) ?_
      refine x_istore (ls' := [_, _, _, _, _, _, _]) eX10_mostAlike_47 (by decide) rfl rfl ?_
      refine q_le (ls' := [some _, some _, none, some _, some _, some _, some _]) ⟨rfl, rfl, rfl, rfl, rfl, rfl, trivial⟩ ?_
      obtain ⟨m17, hw⟩ := hw
      exact tX10_mostAlike_49 ih m17 _ _ _ _ _ _ _ hw
def wX10_mostAlike_2 (Q : Int32 → MH → Prop) : Nat → Nat → Int32 → Int32 → Int32 → MH → Prop
  | 0, _, _, _, _, _ => False
  | n + 1, x0, x1, x2, x3, h => (nI 10 ≤ x3 → ∃ m18, wX10_mostAlike_36 Q m18 x0 x1 (nI 0) (nI 0) h) ∧ (¬ (nI 10 ≤ x3) → hS h x0 = (1, 10) ∧ ∃ a20, hR h x0 30 = some a20 ∧ ∃ a22, hR h x0 18 = some a22 ∧ ∃ n25, hS h a22 = (2, n25) ∧ vp_in (x2) n25 ∧ wX10_costOf x0 (hI h a22 (x2).toNatClampNeg) x3 h (fun r27 h28 => ∃ n30, hS h28 a20 = (2, n30) ∧ vp_in (x3) n30 ∧ ∀ h32, h32 = sI h28 a20 (x3).toNatClampNeg (r27) → wX10_mostAlike_2 Q n x0 x1 x2 (x3 + nI 1) h32))
set_option maxHeartbeats 4000000 in
set_option maxRecDepth 100000 in
theorem tX10_mostAlike_2 {Q : Int32 → MH → Prop} : ∀ (n : Nat) (h : MH) (x0 : Nat) (x1 : Int32) (x2 : Int32) (x3 : Int32), wX10_mostAlike_2 Q n x0 x1 x2 x3 h → Wm MX10_mostAlike 3 0 0 2 [some (.ref (x0)), some (.int (x1)), some (.int (x2)), some (.int (x3)), none, none, none] [] h (pI Q) := by
  intro n
  induction n with
  | zero => intro h x0 x1 x2 x3 hw; exact hw.elim
  | succ n ih =>
    intro h x0 x1 x2 x3 hw
    unfold wX10_mostAlike_2 at hw
    refine q_iload_n eX10_mostAlike_2 rfl ?_
    refine q_bipush (v := nI 10) eX10_mostAlike_3 (by decide) ?_
    obtain ⟨hw1, hw2⟩ := hw
    refine q_icmp_ge (tgt := 31) eX10_mostAlike_5 (by decide) (fun c => ?_) (fun c => ?_)
    · have hw := hw1 c
      refine q_iconst (v := nI 0) eX10_mostAlike_31 (by decide) ?_
      refine x_istore_n (ls' := [_, _, _, _, _, _, _]) eX10_mostAlike_32 (by decide) rfl rfl ?_
      refine q_iconst (v := nI 0) eX10_mostAlike_33 (by decide) ?_
      refine x_istore (ls' := [_, _, _, _, _, _, _]) eX10_mostAlike_34 (by decide) rfl rfl ?_
      refine q_le (ls' := [some _, some _, none, some _, some _, none, none]) ⟨rfl, rfl, rfl, rfl, trivial⟩ ?_
      obtain ⟨m18, hw⟩ := hw
      exact tX10_mostAlike_36 m18 _ _ _ _ _ hw
    · have hw := hw2 c
      refine q_aload_nr eX10_mostAlike_8 rfl ?_
      obtain ⟨hs19, hw⟩ := hw
      obtain ⟨a20, hr21, hw⟩ := hw
      refine q_getR flX10_64 rfl hs19 hr21 eX10_mostAlike_9 ?_
      refine q_iload_n eX10_mostAlike_12 rfl ?_
      refine q_aload_nr eX10_mostAlike_13 rfl ?_
      refine q_aload_nr eX10_mostAlike_14 rfl ?_
      obtain ⟨a22, hr23, hw⟩ := hw
      refine q_getR flX10_36 rfl hs19 hr23 eX10_mostAlike_15 ?_
      refine q_iload_n eX10_mostAlike_18 rfl ?_
      obtain ⟨n25, hs24, hw⟩ := hw
      obtain ⟨hi26, hw⟩ := hw
      refine q_iald hs24 hi26 eX10_mostAlike_19 ?_
      refine q_iload_n eX10_mostAlike_20 rfl ?_
      refine q_callV (b := 0) (t := 0) (gX10_costOf _ _ _ _ _ hw) mlX10_251 kX10_costOf vX10_costOf rfl hs19 ⟨rfl, rfl⟩ (by decide) rfl (Nat.le_of_ble_eq_true rfl) eX10_mostAlike_21 (kI fun r27 h28 hw => ?_)
      obtain ⟨n30, hs29, hw⟩ := hw
      obtain ⟨hi31, hw⟩ := hw
      have hw := hw _ rfl
      refine q_iast hs29 hi31 eX10_mostAlike_24 ?_
      refine x_iinc (v := (x3 + nI 1)) (ls' := [_, _, _, _, _, _, _]) eX10_mostAlike_25 rfl rfl rfl rfl ?_
      refine q_goto (tgt := 2) eX10_mostAlike_28 (by decide) ?_
      refine q_le (ls' := [some _, some _, some _, some _, none, none, none]) ⟨rfl, rfl, rfl, rfl, trivial⟩ ?_
      exact ih _ _ _ _ _ hw
def wX10_mostAlike (x0 : Nat) (x1 : Int32) (x2 : Int32) (h : MH) (Q : Int32 → MH → Prop) : Prop := ∃ m33, wX10_mostAlike_2 Q m33 x0 x1 x2 (nI 0) h
set_option maxHeartbeats 4000000 in
set_option maxRecDepth 100000 in
theorem gX10_mostAlike (x0 : Nat) (x1 : Int32) (x2 : Int32) (h : MH) (Q : Int32 → MH → Prop) (hw : wX10_mostAlike x0 x1 x2 h Q) : Cm MX10_mostAlike 3 0 0 [.ref (x0), .int (x1), .int (x2)] h (pI Q) := by
  refine cm_of [some (.ref (x0)), some (.int (x1)), some (.int (x2)), none, none, none, none] rfl pnX10 (Nat.le_of_ble_eq_true rfl) rfl ?_
  unfold wX10_mostAlike at hw
  refine q_iconst (v := nI 0) eX10_mostAlike_0 (by decide) ?_
  refine x_istore_n (ls' := [_, _, _, _, _, _, _]) eX10_mostAlike_1 (by decide) rfl rfl ?_
  refine q_le (ls' := [some _, some _, some _, some _, none, none, none]) ⟨rfl, rfl, rfl, rfl, trivial⟩ ?_
  obtain ⟨m33, hw⟩ := hw
  exact tX10_mostAlike_2 m33 _ _ _ _ _ hw
def wX10_ask_34 (Q : Int32 → MH → Prop) : Nat → Nat → Int32 → Int32 → Int32 → Int32 → MH → Prop
  | 0, _, _, _, _, _, _ => False
  | n + 1, x0, x3, x4, x5, x6, h => hS h x0 = (1, 10) ∧ (hI h x0 23 ≤ x6 → Q (x4) h) ∧ (¬ (hI h x0 23 ≤ x6) → (x3 = 0 → Q (x4) h) ∧ (¬ (x3 = 0) → wX10_mostAlike x0 x3 x6 h (fun r9 h10 => (r9 < x5 → wX10_ask_34 Q n x0 x3 x6 r9 (x6 + nI 1) h10) ∧ (¬ (r9 < x5) → wX10_ask_34 Q n x0 x3 x4 x5 (x6 + nI 1) h10))))
set_option maxHeartbeats 4000000 in
set_option maxRecDepth 100000 in
theorem tX10_ask_34 {Q : Int32 → MH → Prop} : ∀ (n : Nat) (h : MH) (x0 : Nat) (x3 : Int32) (x4 : Int32) (x5 : Int32) (x6 : Int32), wX10_ask_34 Q n x0 x3 x4 x5 x6 h → Wm MX10_ask 4 0 0 34 [some (.ref (x0)), none, none, some (.int (x3)), some (.int (x4)), some (.int (x5)), some (.int (x6)), none] [] h (pI Q) := by
  intro n
  induction n with
  | zero => intro h x0 x3 x4 x5 x6 hw; exact hw.elim
  | succ n ih =>
    intro h x0 x3 x4 x5 x6 hw
    unfold wX10_ask_34 at hw
    refine q_iload eX10_ask_34 rfl ?_
    refine q_aload_nr eX10_ask_36 rfl ?_
    obtain ⟨hs8, hw⟩ := hw
    refine q_getI flX10_216 rfl hs8 eX10_ask_37 ?_
    obtain ⟨hw1, hw2⟩ := hw
    refine q_icmp_ge (tgt := 80) eX10_ask_40 (by decide) (fun c => ?_) (fun c => ?_)
    · have hw := hw1 c
      refine q_iload eX10_ask_80 rfl ?_
      exact q_ret rfl eX10_ask_82 ⟨_, rfl, hw⟩
    · have hw := hw2 c
      refine q_iload_n eX10_ask_43 rfl ?_
      obtain ⟨hw1, hw2⟩ := hw
      refine q_if_eq (tgt := 80) eX10_ask_44 (by decide) (fun c => ?_) (fun c => ?_)
      · have hw := hw1 c
        refine q_iload eX10_ask_80 rfl ?_
        exact q_ret rfl eX10_ask_82 ⟨_, rfl, hw⟩
      · have hw := hw2 c
        refine q_aload_nr eX10_ask_47 rfl ?_
        refine q_iload_n eX10_ask_48 rfl ?_
        refine q_iload eX10_ask_49 rfl ?_
        refine q_callV (b := 0) (t := 0) (gX10_mostAlike _ _ _ _ _ hw) mlX10_454 kX10_mostAlike vX10_mostAlike rfl hs8 ⟨rfl, rfl⟩ (by decide) rfl (Nat.le_of_ble_eq_true rfl) eX10_ask_51 (kI fun r9 h10 hw => ?_)
        refine x_istore (ls' := [_, _, _, _, _, _, _, _]) eX10_ask_54 (by decide) rfl rfl ?_
        refine q_iload eX10_ask_56 rfl ?_
        refine q_iload eX10_ask_58 rfl ?_
        obtain ⟨hw1, hw2⟩ := hw
        refine q_icmp_lt (tgt := 66) eX10_ask_60 (by decide) (fun c => ?_) (fun c => ?_)
        · have hw := hw1 c
          refine q_iload eX10_ask_66 rfl ?_
          refine x_istore (ls' := [_, _, _, _, _, _, _, _]) eX10_ask_68 (by decide) rfl rfl ?_
          refine q_iload eX10_ask_70 rfl ?_
          refine x_istore (ls' := [_, _, _, _, _, _, _, _]) eX10_ask_72 (by decide) rfl rfl ?_
          refine x_iinc (v := (x6 + nI 1)) (ls' := [_, _, _, _, _, _, _, _]) eX10_ask_74 rfl rfl rfl rfl ?_
          refine q_goto (tgt := 34) eX10_ask_77 (by decide) ?_
          refine q_le (ls' := [some _, none, none, some _, some _, some _, some _, none]) ⟨rfl, rfl, rfl, rfl, rfl, trivial⟩ ?_
          exact ih _ _ _ _ _ _ hw
        · have hw := hw2 c
          refine q_goto (tgt := 74) eX10_ask_63 (by decide) ?_
          refine x_iinc (v := (x6 + nI 1)) (ls' := [_, _, _, _, _, _, _, _]) eX10_ask_74 rfl rfl rfl rfl ?_
          refine q_goto (tgt := 34) eX10_ask_77 (by decide) ?_
          refine q_le (ls' := [some _, none, none, some _, some _, some _, some _, none]) ⟨rfl, rfl, rfl, rfl, rfl, trivial⟩ ?_
          exact ih _ _ _ _ _ _ hw
def wX10_ask (x0 : Nat) (x1 : Int32) (h : MH) (Q : Int32 → MH → Prop) : Prop := hS h x0 = (1, 10) ∧ ∀ h2, h2 = sI h x0 0 (nI 0) → wX10_noPriced x0 x1 h2 (fun r3 h4 => (r3 = 0 → hS h4 x0 = (1, 10) ∧ wX10_ratesOf x0 x1 h4 (fun r6 h7 => ∃ m11, wX10_ask_34 Q m11 x0 r6 (-1 : Int32) (268435456 : Int32) (nI 0) h7)) ∧ (¬ (r3 = 0) → Q (r3) h4))
set_option maxHeartbeats 4000000 in
set_option maxRecDepth 100000 in
theorem gX10_ask (x0 : Nat) (x1 : Int32) (h : MH) (Q : Int32 → MH → Prop) (hw : wX10_ask x0 x1 h Q) : Cm MX10_ask 4 0 0 [.ref (x0), .int (x1)] h (pI Q) := by
  refine cm_of [some (.ref (x0)), some (.int (x1)), none, none, none, none, none, none] rfl pnX10 (Nat.le_of_ble_eq_true rfl) rfl ?_
  unfold wX10_ask at hw
  refine q_aload_nr eX10_ask_0 rfl ?_
  refine q_iconst (v := nI 0) eX10_ask_1 (by decide) ?_
  obtain ⟨hs1, hw⟩ := hw
  have hw := hw _ rfl
  refine q_putI (fwX10_1 _) rfl hs1 eX10_ask_2 ?_
  refine q_aload_nr eX10_ask_5 rfl ?_
  refine q_iload_n eX10_ask_6 rfl ?_
  refine q_callV (b := 0) (t := 0) (gX10_noPriced _ _ _ _ hw) mlX10_448 kX10_noPriced vX10_noPriced rfl hs1 ⟨rfl, rfl⟩ (by decide) rfl (Nat.le_of_ble_eq_true rfl) eX10_ask_7 (kI fun r3 h4 hw => ?_)
  refine x_istore_n (ls' := [_, _, _, _, _, _, _, _]) eX10_ask_10 (by decide) rfl rfl ?_
  refine q_iload_n eX10_ask_11 rfl ?_
  obtain ⟨hw1, hw2⟩ := hw
  refine q_if_eq (tgt := 17) eX10_ask_12 (by decide) (fun c => ?_) (fun c => ?_)
  · have hw := hw1 c
    refine q_aload_nr eX10_ask_17 rfl ?_
    refine q_iload_n eX10_ask_18 rfl ?_
    obtain ⟨hs5, hw⟩ := hw
    refine q_callV (b := 0) (t := 0) (gX10_ratesOf _ _ _ _ hw) mlX10_451 kX10_ratesOf vX10_ratesOf rfl hs5 ⟨rfl, rfl⟩ (by decide) rfl (Nat.le_of_ble_eq_true rfl) eX10_ask_19 (kI fun r6 h7 hw => ?_)
    refine x_istore_n (ls' := [_, _, _, _, _, _, _, _]) eX10_ask_22 (by decide) rfl rfl ?_
    refine q_iconst (v := (-1 : Int32)) eX10_ask_23 (by decide) ?_
    refine x_istore (ls' := [_, _, _, _, _, _, _, _]) eX10_ask_24 (by decide) rfl rfl ?_
    refine q_ldcw coX10_394 eX10_ask_26 ?_
    refine x_istore (ls' := [_, _, _, _, _, _, _, _]) eX10_ask_29 (by decide) rfl rfl ?_
    refine q_iconst (v := nI 0) eX10_ask_31 (by decide) ?_
    refine x_istore (ls' := [_, _, _, _, _, _, _, _]) eX10_ask_32 (by decide) rfl rfl ?_
    refine q_le (ls' := [some _, none, none, some _, some _, some _, some _, none]) ⟨rfl, rfl, rfl, rfl, rfl, trivial⟩ ?_
    obtain ⟨m11, hw⟩ := hw
    exact tX10_ask_34 m11 _ _ _ _ _ _ hw
  · have hw := hw2 c
    refine q_iload_n eX10_ask_15 rfl ?_
    exact q_ret rfl eX10_ask_16 ⟨_, rfl, hw⟩
def wX10_goesLots_109 (Q : MH → Prop) (PX10_goesLots : Nat → Int32 → MH → (MH → Prop) → Prop) (K79 : Nat → Int32 → Int32 → Int32 → MH → Prop) : Nat → Nat → Int32 → Int32 → Int32 → Int32 → MH → Prop
  | 0, _, _, _, _, _, _ => False
  | n + 1, x0, x1, x2, x3, x4, h => (nI 126 ≤ x4 → K79 x0 x1 x2 (x3 + nI 1) h) ∧ (¬ (nI 126 ≤ x4) → hS h x0 = (1, 10) ∧ ∃ a8, hR h x0 1 = some a8 ∧ ∃ a10, hR h x0 31 = some a10 ∧ ∃ n13, hS h a10 = (2, n13) ∧ vp_in ((x2 + x4)) n13 ∧ ∃ n16, hS h a8 = (2, n16) ∧ vp_in ((nI 49 + x4)) n16 ∧ ∀ h18, h18 = sI h a8 ((nI 49 + x4)).toNatClampNeg (hI h a10 ((x2 + x4)).toNatClampNeg) → wX10_goesLots_109 Q PX10_goesLots K79 n x0 x1 x2 x3 (x4 + nI 1) h18)
set_option maxHeartbeats 4000000 in
set_option maxRecDepth 100000 in
theorem tX10_goesLots_109 {Q : MH → Prop} {PX10_goesLots : Nat → Int32 → MH → (MH → Prop) → Prop} {K79 : Nat → Int32 → Int32 → Int32 → MH → Prop} {d d2 : Nat} (hd : 7 ≤ d) (hd2 : d2 < d) (hPX10_goesLots : ∀ (y0 : Nat) (y1 : Int32) (h : MH) (Q : MH → Prop), PX10_goesLots y0 y1 h Q → Cm MX10_goesLots d2 0 0 [.ref (y0), .int (y1)] h (pV Q)) (hK79 : ∀ (h : MH) (x0 : Nat) (x1 : Int32) (x2 : Int32) (x3 : Int32), K79 x0 x1 x2 x3 h → Wm MX10_goesLots d 0 0 79 [some (.ref (x0)), some (.int (x1)), some (.int (x2)), some (.int (x3)), none] [] h (pV Q)) : ∀ (n : Nat) (h : MH) (x0 : Nat) (x1 : Int32) (x2 : Int32) (x3 : Int32) (x4 : Int32), wX10_goesLots_109 Q PX10_goesLots K79 n x0 x1 x2 x3 x4 h → Wm MX10_goesLots d 0 0 109 [some (.ref (x0)), some (.int (x1)), some (.int (x2)), some (.int (x3)), some (.int (x4))] [] h (pV Q) := by
  intro n
  induction n with
  | zero => intro h x0 x1 x2 x3 x4 hw; exact hw.elim
  | succ n ih =>
    intro h x0 x1 x2 x3 x4 hw
    unfold wX10_goesLots_109 at hw
    refine q_iload eX10_goesLots_109 rfl ?_
    refine q_bipush (v := nI 126) eX10_goesLots_111 (by decide) ?_
    obtain ⟨hw1, hw2⟩ := hw
    refine q_icmp_ge (tgt := 141) eX10_goesLots_113 (by decide) (fun c => ?_) (fun c => ?_)
    · have hw := hw1 c
      refine x_iinc (v := (x3 + nI 1)) (ls' := [_, _, _, _, _]) eX10_goesLots_141 rfl rfl rfl rfl ?_
      refine q_goto (tgt := 79) eX10_goesLots_144 (by decide) ?_
      refine q_le (ls' := [some _, some _, some _, some _, none]) ⟨rfl, rfl, rfl, rfl, trivial⟩ ?_
      exact hK79 _ _ _ _ _ hw
    · have hw := hw2 c
      refine q_aload_nr eX10_goesLots_116 rfl ?_
      obtain ⟨hs7, hw⟩ := hw
      obtain ⟨a8, hr9, hw⟩ := hw
      refine q_getR flX10_13 rfl hs7 hr9 eX10_goesLots_117 ?_
      refine q_bipush (v := nI 49) eX10_goesLots_120 (by decide) ?_
      refine q_iload eX10_goesLots_122 rfl ?_
      refine q_iadd eX10_goesLots_124 ?_
      refine q_aload_nr eX10_goesLots_125 rfl ?_
      obtain ⟨a10, hr11, hw⟩ := hw
      refine q_getR flX10_67 rfl hs7 hr11 eX10_goesLots_126 ?_
      refine q_iload_n eX10_goesLots_129 rfl ?_
      refine q_iload eX10_goesLots_130 rfl ?_
      refine q_iadd eX10_goesLots_132 ?_
      obtain ⟨n13, hs12, hw⟩ := hw
      obtain ⟨hi14, hw⟩ := hw
      refine q_iald hs12 hi14 eX10_goesLots_133 ?_
      obtain ⟨n16, hs15, hw⟩ := hw
      obtain ⟨hi17, hw⟩ := hw
      have hw := hw _ rfl
      refine q_iast hs15 hi17 eX10_goesLots_134 ?_
      refine x_iinc (v := (x4 + nI 1)) (ls' := [_, _, _, _, _]) eX10_goesLots_135 rfl rfl rfl rfl ?_
      refine q_goto (tgt := 109) eX10_goesLots_138 (by decide) ?_
      refine q_le (ls' := [some _, some _, some _, some _, some _]) ⟨rfl, rfl, rfl, rfl, rfl, trivial⟩ ?_
      exact ih _ _ _ _ _ _ hw
def wX10_goesLots_99 (Q : MH → Prop) (PX10_goesLots : Nat → Int32 → MH → (MH → Prop) → Prop) (K79 : Nat → Int32 → Int32 → Int32 → MH → Prop) (x0 : Nat) (x1 : Int32) (x2 : Int32) (x3 : Int32) (h : MH) : Prop := hS h x0 = (1, 10) ∧ PX10_goesLots x0 (x1 - nI 1) h (fun h6 => ∃ m19, wX10_goesLots_109 Q PX10_goesLots K79 m19 x0 x1 x2 x3 (nI 0) h6)
set_option maxHeartbeats 4000000 in
set_option maxRecDepth 100000 in
theorem tX10_goesLots_99 {Q : MH → Prop} {PX10_goesLots : Nat → Int32 → MH → (MH → Prop) → Prop} {K79 : Nat → Int32 → Int32 → Int32 → MH → Prop} {d d2 : Nat} (hd : 7 ≤ d) (hd2 : d2 < d) (hPX10_goesLots : ∀ (y0 : Nat) (y1 : Int32) (h : MH) (Q : MH → Prop), PX10_goesLots y0 y1 h Q → Cm MX10_goesLots d2 0 0 [.ref (y0), .int (y1)] h (pV Q)) (hK79 : ∀ (h : MH) (x0 : Nat) (x1 : Int32) (x2 : Int32) (x3 : Int32), K79 x0 x1 x2 x3 h → Wm MX10_goesLots d 0 0 79 [some (.ref (x0)), some (.int (x1)), some (.int (x2)), some (.int (x3)), none] [] h (pV Q)) (h : MH) (x0 : Nat) (x1 : Int32) (x2 : Int32) (x3 : Int32) (hw : wX10_goesLots_99 Q PX10_goesLots K79 x0 x1 x2 x3 h) : Wm MX10_goesLots d 0 0 99 [some (.ref (x0)), some (.int (x1)), some (.int (x2)), some (.int (x3)), none] [] h (pV Q) := by
  unfold wX10_goesLots_99 at hw
  refine q_aload_nr eX10_goesLots_99 rfl ?_
  refine q_iload_n eX10_goesLots_100 rfl ?_
  refine q_iconst (v := nI 1) eX10_goesLots_101 (by decide) ?_
  refine q_isub eX10_goesLots_102 ?_
  obtain ⟨hs4, hw⟩ := hw
  refine q_callV (b := 0) (t := 0) (hPX10_goesLots _ _ _ _ hw) mlX10_464 kX10_goesLots vX10_goesLots rfl hs4 ⟨rfl, rfl⟩ (by omega) rfl (Nat.le_of_ble_eq_true rfl) eX10_goesLots_103 (kV fun h6 hw => ?_)
  refine q_iconst (v := nI 0) eX10_goesLots_106 (by decide) ?_
  refine x_istore (ls' := [_, _, _, _, _]) eX10_goesLots_107 (by decide) rfl rfl ?_
  refine q_le (ls' := [some _, some _, some _, some _, some _]) ⟨rfl, rfl, rfl, rfl, rfl, trivial⟩ ?_
  obtain ⟨m19, hw⟩ := hw
  exact tX10_goesLots_109 hd hd2 hPX10_goesLots hK79 m19 _ _ _ _ _ _ hw
def wX10_goesLots_79 (Q : MH → Prop) (PX10_goesLots : Nat → Int32 → MH → (MH → Prop) → Prop) : Nat → Nat → Int32 → Int32 → Int32 → MH → Prop
  | 0, _, _, _, _, _ => False
  | n + 1, x0, x1, x2, x3, h => (nI 10 ≤ x3 → Q h) ∧ (¬ (nI 10 ≤ x3) → hS h x0 = (1, 10) ∧ wX10_whyFail x0 ((x3).toInt64) h (fun r2 h3 => (¬ (r2 = 0) → wX10_goesLots_99 Q PX10_goesLots (wX10_goesLots_79 Q PX10_goesLots n) x0 x1 x2 x3 h3) ∧ (r2 = 0 → hS h3 x0 = (1, 10) ∧ wX10_goesFail x0 x3 h3 (fun h22 => wX10_goesLots_99 Q PX10_goesLots (wX10_goesLots_79 Q PX10_goesLots n) x0 x1 x2 x3 h22))))
set_option maxHeartbeats 4000000 in
set_option maxRecDepth 100000 in
theorem tX10_goesLots_79 {Q : MH → Prop} {PX10_goesLots : Nat → Int32 → MH → (MH → Prop) → Prop} {d d2 : Nat} (hd : 7 ≤ d) (hd2 : d2 < d) (hPX10_goesLots : ∀ (y0 : Nat) (y1 : Int32) (h : MH) (Q : MH → Prop), PX10_goesLots y0 y1 h Q → Cm MX10_goesLots d2 0 0 [.ref (y0), .int (y1)] h (pV Q)) : ∀ (n : Nat) (h : MH) (x0 : Nat) (x1 : Int32) (x2 : Int32) (x3 : Int32), wX10_goesLots_79 Q PX10_goesLots n x0 x1 x2 x3 h → Wm MX10_goesLots d 0 0 79 [some (.ref (x0)), some (.int (x1)), some (.int (x2)), some (.int (x3)), none] [] h (pV Q) := by
  intro n
  induction n with
  | zero => intro h x0 x1 x2 x3 hw; exact hw.elim
  | succ n ih =>
    intro h x0 x1 x2 x3 hw
    unfold wX10_goesLots_79 at hw
    refine q_iload_n eX10_goesLots_79 rfl ?_
    refine q_bipush (v := nI 10) eX10_goesLots_80 (by decide) ?_
    obtain ⟨hw1, hw2⟩ := hw
    refine q_icmp_ge (tgt := 147) eX10_goesLots_82 (by decide) (fun c => ?_) (fun c => ?_)
    · have hw := hw1 c
      exact q_retV rfl eX10_goesLots_147 ⟨rfl, hw⟩
    · have hw := hw2 c
      refine q_aload_nr eX10_goesLots_85 rfl ?_
      refine q_iload_n eX10_goesLots_86 rfl ?_
      refine q_i2l eX10_goesLots_87 ?_
      obtain ⟨hs1, hw⟩ := hw
      refine q_callV (b := 0) (t := 0) (gX10_whyFail _ _ _ _ hw) mlX10_319 kX10_whyFail vX10_whyFail rfl hs1 ⟨rfl, rfl⟩ (by omega) rfl (Nat.le_of_ble_eq_true rfl) eX10_goesLots_88 (kI fun r2 h3 hw => ?_)
      obtain ⟨hw1, hw2⟩ := hw
      refine q_if_ne (tgt := 99) eX10_goesLots_91 (by decide) (fun c => ?_) (fun c => ?_)
      · have hw := hw1 c
        refine q_le (ls' := [some _, some _, some _, some _, none]) ⟨rfl, rfl, rfl, rfl, trivial⟩ ?_
        exact tX10_goesLots_99 hd hd2 hPX10_goesLots ih _ _ _ _ _ hw
      · have hw := hw2 c
        refine q_aload_nr eX10_goesLots_94 rfl ?_
        refine q_iload_n eX10_goesLots_95 rfl ?_
        obtain ⟨hs20, hw⟩ := hw
        refine q_callV (b := 0) (t := 0) (gX10_goesFail _ _ _ _ hw) mlX10_322 kX10_goesFail vX10_goesFail rfl hs20 ⟨rfl, rfl⟩ (by omega) rfl (Nat.le_of_ble_eq_true rfl) eX10_goesLots_96 (kV fun h22 hw => ?_)
        refine q_le (ls' := [some _, some _, some _, some _, none]) ⟨rfl, rfl, rfl, rfl, trivial⟩ ?_
        exact tX10_goesLots_99 hd hd2 hPX10_goesLots ih _ _ _ _ _ hw
def wX10_goesLots_48 (Q : MH → Prop) (PX10_goesLots : Nat → Int32 → MH → (MH → Prop) → Prop) : Nat → Nat → Int32 → Int32 → Int32 → MH → Prop
  | 0, _, _, _, _, _ => False
  | n + 1, x0, x1, x2, x3, h => (nI 126 ≤ x3 → ∃ m23, wX10_goesLots_79 Q PX10_goesLots m23 x0 x1 x2 (nI 0) h) ∧ (¬ (nI 126 ≤ x3) → hS h x0 = (1, 10) ∧ ∃ a25, hR h x0 31 = some a25 ∧ ∃ a27, hR h x0 1 = some a27 ∧ ∃ n30, hS h a27 = (2, n30) ∧ vp_in ((nI 49 + x3)) n30 ∧ ∃ n33, hS h a25 = (2, n33) ∧ vp_in ((x2 + x3)) n33 ∧ ∀ h35, h35 = sI h a25 ((x2 + x3)).toNatClampNeg (hI h a27 ((nI 49 + x3)).toNatClampNeg) → wX10_goesLots_48 Q PX10_goesLots n x0 x1 x2 (x3 + nI 1) h35)
set_option maxHeartbeats 4000000 in
set_option maxRecDepth 100000 in
theorem tX10_goesLots_48 {Q : MH → Prop} {PX10_goesLots : Nat → Int32 → MH → (MH → Prop) → Prop} {d d2 : Nat} (hd : 7 ≤ d) (hd2 : d2 < d) (hPX10_goesLots : ∀ (y0 : Nat) (y1 : Int32) (h : MH) (Q : MH → Prop), PX10_goesLots y0 y1 h Q → Cm MX10_goesLots d2 0 0 [.ref (y0), .int (y1)] h (pV Q)) : ∀ (n : Nat) (h : MH) (x0 : Nat) (x1 : Int32) (x2 : Int32) (x3 : Int32), wX10_goesLots_48 Q PX10_goesLots n x0 x1 x2 x3 h → Wm MX10_goesLots d 0 0 48 [some (.ref (x0)), some (.int (x1)), some (.int (x2)), some (.int (x3)), none] [] h (pV Q) := by
  intro n
  induction n with
  | zero => intro h x0 x1 x2 x3 hw; exact hw.elim
  | succ n ih =>
    intro h x0 x1 x2 x3 hw
    unfold wX10_goesLots_48 at hw
    refine q_iload_n eX10_goesLots_48 rfl ?_
    refine q_bipush (v := nI 126) eX10_goesLots_49 (by decide) ?_
    obtain ⟨hw1, hw2⟩ := hw
    refine q_icmp_ge (tgt := 77) eX10_goesLots_51 (by decide) (fun c => ?_) (fun c => ?_)
    · have hw := hw1 c
      refine q_iconst (v := nI 0) eX10_goesLots_77 (by decide) ?_
      refine x_istore_n (ls' := [_, _, _, _, _]) eX10_goesLots_78 (by decide) rfl rfl ?_
      refine q_le (ls' := [some _, some _, some _, some _, none]) ⟨rfl, rfl, rfl, rfl, trivial⟩ ?_
      obtain ⟨m23, hw⟩ := hw
      exact tX10_goesLots_79 hd hd2 hPX10_goesLots m23 _ _ _ _ _ hw
    · have hw := hw2 c
      refine q_aload_nr eX10_goesLots_54 rfl ?_
      obtain ⟨hs24, hw⟩ := hw
      obtain ⟨a25, hr26, hw⟩ := hw
      refine q_getR flX10_67 rfl hs24 hr26 eX10_goesLots_55 ?_
      refine q_iload_n eX10_goesLots_58 rfl ?_
      refine q_iload_n eX10_goesLots_59 rfl ?_
      refine q_iadd eX10_goesLots_60 ?_
      refine q_aload_nr eX10_goesLots_61 rfl ?_
      obtain ⟨a27, hr28, hw⟩ := hw
      refine q_getR flX10_13 rfl hs24 hr28 eX10_goesLots_62 ?_
      refine q_bipush (v := nI 49) eX10_goesLots_65 (by decide) ?_
      refine q_iload_n eX10_goesLots_67 rfl ?_
      refine q_iadd eX10_goesLots_68 ?_
      obtain ⟨n30, hs29, hw⟩ := hw
      obtain ⟨hi31, hw⟩ := hw
      refine q_iald hs29 hi31 eX10_goesLots_69 ?_
      obtain ⟨n33, hs32, hw⟩ := hw
      obtain ⟨hi34, hw⟩ := hw
      have hw := hw _ rfl
      refine q_iast hs32 hi34 eX10_goesLots_70 ?_
      refine x_iinc (v := (x3 + nI 1)) (ls' := [_, _, _, _, _]) eX10_goesLots_71 rfl rfl rfl rfl ?_
      refine q_goto (tgt := 48) eX10_goesLots_74 (by decide) ?_
      refine q_le (ls' := [some _, some _, some _, some _, none]) ⟨rfl, rfl, rfl, rfl, trivial⟩ ?_
      exact ih _ _ _ _ _ hw
def wX10_goesLots_23 (Q : MH → Prop) (PX10_goesLots : Nat → Int32 → MH → (MH → Prop) → Prop) (x0 : Nat) (x2 : Int32) (s0 : Int64) (s1 : Int64) (s2 : Nat) (h : MH) : Prop := hS h s2 = (1, 10) ∧ ∀ h43, h43 = sL h s2 32 ((s1 + s0)) → hS h43 x0 = (1, 10) ∧ ∀ h45, h45 = sL h43 x0 33 ((hL h43 x0 33 + (x2).toInt64)) → Q h45
set_option maxHeartbeats 4000000 in
set_option maxRecDepth 100000 in
theorem tX10_goesLots_23 {Q : MH → Prop} {PX10_goesLots : Nat → Int32 → MH → (MH → Prop) → Prop} {d d2 : Nat} (hd : 7 ≤ d) (hd2 : d2 < d) (hPX10_goesLots : ∀ (y0 : Nat) (y1 : Int32) (h : MH) (Q : MH → Prop), PX10_goesLots y0 y1 h Q → Cm MX10_goesLots d2 0 0 [.ref (y0), .int (y1)] h (pV Q)) (h : MH) (x0 : Nat) (x2 : Int32) (s0 : Int64) (s1 : Int64) (s2 : Nat) (hw : wX10_goesLots_23 Q PX10_goesLots x0 x2 s0 s1 s2 h) : Wm MX10_goesLots d 0 0 23 [some (.ref (x0)), none, some (.int (x2)), none, none] [.long (s0), .long (s1), .ref (s2)] h (pV Q) := by
  unfold wX10_goesLots_23 at hw
  refine q_ladd eX10_goesLots_23 ?_
  obtain ⟨hs42, hw⟩ := hw
  have hw := hw _ rfl
  refine q_putL (fwX10_457 _) rfl hs42 eX10_goesLots_24 ?_
  refine q_aload_nr eX10_goesLots_27 rfl ?_
  refine q_dup eX10_goesLots_28 rfl ?_
  obtain ⟨hs44, hw⟩ := hw
  refine q_getL flX10_461 rfl hs44 eX10_goesLots_29 ?_
  refine q_iload_n eX10_goesLots_32 rfl ?_
  refine q_i2l eX10_goesLots_33 ?_
  refine q_ladd eX10_goesLots_34 ?_
  have hw := hw _ rfl
  refine q_putL (fwX10_461 _) rfl hs44 eX10_goesLots_35 ?_
  exact q_retV rfl eX10_goesLots_38 ⟨rfl, hw⟩
def wX10_goesLots (PX10_goesLots : Nat → Int32 → MH → (MH → Prop) → Prop) (x0 : Nat) (x1 : Int32) (h : MH) (Q : MH → Prop) : Prop := (¬ (x1 = 0) → ∃ m36, wX10_goesLots_48 Q PX10_goesLots m36 x0 x1 (nI 126 * (x1 - nI 1)) (nI 0) h) ∧ (x1 = 0 → hS h x0 = (1, 10) ∧ wX10_lostNow x0 h (fun r38 h39 => hS h39 x0 = (1, 10) ∧ wX10_goesLots_23 Q PX10_goesLots x0 r38 (if r38 = 0 then (1 : Int64) else (0 : Int64)) (hL h39 x0 32) x0 h39))
set_option maxHeartbeats 4000000 in
set_option maxRecDepth 100000 in
theorem gX10_goesLots {PX10_goesLots : Nat → Int32 → MH → (MH → Prop) → Prop} {d d2 : Nat} (hd : 7 ≤ d) (hd2 : d2 < d) (hPX10_goesLots : ∀ (y0 : Nat) (y1 : Int32) (h : MH) (Q : MH → Prop), PX10_goesLots y0 y1 h Q → Cm MX10_goesLots d2 0 0 [.ref (y0), .int (y1)] h (pV Q)) (x0 : Nat) (x1 : Int32) (h : MH) (Q : MH → Prop) (hw : wX10_goesLots PX10_goesLots x0 x1 h Q) : Cm MX10_goesLots d 0 0 [.ref (x0), .int (x1)] h (pV Q) := by
  refine cm_of [some (.ref (x0)), some (.int (x1)), none, none, none] rfl pnX10 (Nat.le_of_ble_eq_true rfl) rfl ?_
  unfold wX10_goesLots at hw
  refine q_iload_n eX10_goesLots_0 rfl ?_
  obtain ⟨hw1, hw2⟩ := hw
  refine q_if_ne (tgt := 39) eX10_goesLots_1 (by decide) (fun c => ?_) (fun c => ?_)
  · have hw := hw1 c
    refine q_bipush (v := nI 126) eX10_goesLots_39 (by decide) ?_
    refine q_iload_n eX10_goesLots_41 rfl ?_
    refine q_iconst (v := nI 1) eX10_goesLots_42 (by decide) ?_
    refine q_isub eX10_goesLots_43 ?_
    refine q_imul eX10_goesLots_44 ?_
    refine x_istore_n (ls' := [_, _, _, _, _]) eX10_goesLots_45 (by decide) rfl rfl ?_
    refine q_iconst (v := nI 0) eX10_goesLots_46 (by decide) ?_
    refine x_istore_n (ls' := [_, _, _, _, _]) eX10_goesLots_47 (by decide) rfl rfl ?_
    refine q_le (ls' := [some _, some _, some _, some _, none]) ⟨rfl, rfl, rfl, rfl, trivial⟩ ?_
    obtain ⟨m36, hw⟩ := hw
    exact tX10_goesLots_48 hd hd2 hPX10_goesLots m36 _ _ _ _ _ hw
  · have hw := hw2 c
    refine q_aload_nr eX10_goesLots_4 rfl ?_
    obtain ⟨hs37, hw⟩ := hw
    refine q_callV (b := 0) (t := 0) (gX10_lostNow _ _ _ hw) mlX10_325 kX10_lostNow vX10_lostNow rfl hs37 ⟨rfl, rfl⟩ (by omega) rfl (Nat.le_of_ble_eq_true rfl) eX10_goesLots_5 (kI fun r38 h39 hw => ?_)
    refine x_istore_n (ls' := [_, _, _, _, _]) eX10_goesLots_8 (by decide) rfl rfl ?_
    refine q_aload_nr eX10_goesLots_9 rfl ?_
    refine q_dup eX10_goesLots_10 rfl ?_
    obtain ⟨hs40, hw⟩ := hw
    refine q_getL flX10_457 rfl hs40 eX10_goesLots_11 ?_
    refine q_iload_n eX10_goesLots_14 rfl ?_
    have hj46 : Wm MX10_goesLots d 0 0 23 [some (.ref (x0)), some (.int (x1)), some (.int (r38)), none, none] [.long ((if r38 = 0 then (1 : Int64) else (0 : Int64))), .long (hL h39 x0 32), .ref (x0)] h39 (pV Q) := by
      refine q_le (ls' := [some _, none, some _, none, none]) ⟨rfl, rfl, trivial⟩ ?_
      exact tX10_goesLots_23 hd hd2 hPX10_goesLots _ _ _ _ _ _ hw
    refine q_if_ne (tgt := 22) eX10_goesLots_15 (by decide) (fun c => ?_) (fun c => ?_)
    · refine q_lconst (v := (0 : Int64)) eX10_goesLots_22 (by decide) ?_
      rw [if_neg c] at hj46
      exact hj46
    · refine q_lconst (v := (1 : Int64)) eX10_goesLots_18 (by decide) ?_
      refine q_goto (tgt := 23) eX10_goesLots_19 (by decide) ?_
      rw [if_pos c] at hj46
      exact hj46
def wX10_wholeOf_4 (Q : Int64 → MH → Prop) : Nat → Int32 → Int64 → Int32 → MH → Prop
  | 0, _, _, _, _ => False
  | n + 1, x0, x1, x3, h => (x0 ≤ x3 → Q (x1) h) ∧ (¬ (x0 ≤ x3) → wX10_wholeOf_4 Q n x0 (x1 * (10 : Int64)) (x3 + nI 1) h)
set_option maxHeartbeats 4000000 in
set_option maxRecDepth 100000 in
theorem tX10_wholeOf_4 {Q : Int64 → MH → Prop} : ∀ (n : Nat) (h : MH) (x0 : Int32) (x1 : Int64) (x3 : Int32), wX10_wholeOf_4 Q n x0 x1 x3 h → Wm MX10_wholeOf 0 0 0 4 [some (.int (x0)), some (.long (x1)), none, some (.int (x3))] [] h (pL Q) := by
  intro n
  induction n with
  | zero => intro h x0 x1 x3 hw; exact hw.elim
  | succ n ih =>
    intro h x0 x1 x3 hw
    unfold wX10_wholeOf_4 at hw
    refine q_iload_n eX10_wholeOf_4 rfl ?_
    refine q_iload_n eX10_wholeOf_5 rfl ?_
    obtain ⟨hw1, hw2⟩ := hw
    refine q_icmp_ge (tgt := 21) eX10_wholeOf_6 (by decide) (fun c => ?_) (fun c => ?_)
    · have hw := hw1 c
      refine q_lload_n eX10_wholeOf_21 rfl ?_
      exact q_retL rfl eX10_wholeOf_22 ⟨_, rfl, hw⟩
    · have hw := hw2 c
      refine q_lload_n eX10_wholeOf_9 rfl ?_
      refine q_ldc2 coX10_339 eX10_wholeOf_10 ?_
      refine q_lmul eX10_wholeOf_13 ?_
      refine x_lstore_n (ls' := [_, _, _, _]) eX10_wholeOf_14 (by decide) rfl rfl ?_
      refine x_iinc (v := (x3 + nI 1)) (ls' := [_, _, _, _]) eX10_wholeOf_15 rfl rfl rfl rfl ?_
      refine q_goto (tgt := 4) eX10_wholeOf_18 (by decide) ?_
      refine q_le (ls' := [some _, some _, none, some _]) ⟨rfl, rfl, rfl, trivial⟩ ?_
      exact ih _ _ _ _ hw
def wX10_wholeOf (x0 : Int32) (h : MH) (Q : Int64 → MH → Prop) : Prop := ∃ m1, wX10_wholeOf_4 Q m1 x0 (1 : Int64) (nI 0) h
set_option maxHeartbeats 4000000 in
set_option maxRecDepth 100000 in
theorem gX10_wholeOf (x0 : Int32) (h : MH) (Q : Int64 → MH → Prop) (hw : wX10_wholeOf x0 h Q) : Cm MX10_wholeOf 0 0 0 [.int (x0)] h (pL Q) := by
  refine cm_of [some (.int (x0)), none, none, none] rfl pnX10 (Nat.le_of_ble_eq_true rfl) rfl ?_
  unfold wX10_wholeOf at hw
  refine q_lconst (v := (1 : Int64)) eX10_wholeOf_0 (by decide) ?_
  refine x_lstore_n (ls' := [_, _, _, _]) eX10_wholeOf_1 (by decide) rfl rfl ?_
  refine q_iconst (v := nI 0) eX10_wholeOf_2 (by decide) ?_
  refine x_istore_n (ls' := [_, _, _, _]) eX10_wholeOf_3 (by decide) rfl rfl ?_
  refine q_le (ls' := [some _, some _, none, some _]) ⟨rfl, rfl, rfl, trivial⟩ ?_
  obtain ⟨m1, hw⟩ := hw
  exact tX10_wholeOf_4 m1 _ _ _ _ hw
def wX10_part_45 (Q : Int32 → MH → Prop) (x2 : Int32) (x4 : Int64) (s0 : Int64) (h : MH) : Prop := wX10_wholeOf x2 h (fun r9 h10 => Cm MX10_common 300 0 0 [.long (x4), .long (r9)] h10 (pL fun r11 h12 => ¬ r11 = 0 ∧ Q (((s0 / r11)).toInt32) h12))
set_option maxHeartbeats 4000000 in
set_option maxRecDepth 100000 in
theorem tX10_part_45 {Q : Int32 → MH → Prop} (h : MH) (x2 : Int32) (x4 : Int64) (s0 : Int64) (hw : wX10_part_45 Q x2 x4 s0 h) : Wm MX10_part 301 0 0 45 [none, none, some (.int (x2)), none, some (.long (x4)), none] [.long (s0)] h (pI Q) := by
  unfold wX10_part_45 at hw
  refine q_lload eX10_part_45 rfl ?_
  refine q_iload_n eX10_part_47 rfl ?_
  refine q_callS (b := 0) (t := 0) (gX10_wholeOf _ _ _ hw) mlX10_467 kX10_wholeOf sX10_wholeOf rfl (by decide) rfl (Nat.le_of_ble_eq_true rfl) eX10_part_48 (kL fun r9 h10 hw => ?_)
  refine q_callS (b := 0) (t := 0) hw mlX10_416 kX10_common sX10_common rfl (by decide) rfl (Nat.le_of_ble_eq_true rfl) eX10_part_51 (kL fun r11 h12 hw => ?_)
  obtain ⟨hz13, hw⟩ := hw
  refine q_ldiv eX10_part_54 hz13 ?_
  refine q_l2i eX10_part_55 ?_
  exact q_ret rfl eX10_part_56 ⟨_, rfl, hw⟩
def wX10_part_30 (Q : Int32 → MH → Prop) (x2 : Int32) (x3 : Int32) (s0 : Int64) (h : MH) : Prop := (¬ (x3 = 0) → wX10_wholeOf x2 h (fun r7 h8 => wX10_part_45 Q x2 s0 r7 h8)) ∧ (x3 = 0 → wX10_part_45 Q x2 s0 s0 h)
set_option maxHeartbeats 4000000 in
set_option maxRecDepth 100000 in
theorem tX10_part_30 {Q : Int32 → MH → Prop} (h : MH) (x2 : Int32) (x3 : Int32) (s0 : Int64) (hw : wX10_part_30 Q x2 x3 s0 h) : Wm MX10_part 301 0 0 30 [none, none, some (.int (x2)), some (.int (x3)), none, none] [.long (s0)] h (pI Q) := by
  unfold wX10_part_30 at hw
  refine x_lstore (ls' := [_, _, _, _, _, _]) eX10_part_30 (by decide) rfl rfl ?_
  refine q_iload_n eX10_part_32 rfl ?_
  obtain ⟨hw1, hw2⟩ := hw
  refine q_if_ne (tgt := 41) eX10_part_33 (by decide) (fun c => ?_) (fun c => ?_)
  · have hw := hw1 c
    refine q_iload_n eX10_part_41 rfl ?_
    refine q_callS (b := 0) (t := 0) (gX10_wholeOf _ _ _ hw) mlX10_467 kX10_wholeOf sX10_wholeOf rfl (by decide) rfl (Nat.le_of_ble_eq_true rfl) eX10_part_42 (kL fun r7 h8 hw => ?_)
    refine q_le (ls' := [none, none, some _, none, some _, none]) ⟨rfl, rfl, trivial⟩ ?_
    exact tX10_part_45 _ _ _ _ hw
  · have hw := hw2 c
    refine q_lload eX10_part_36 rfl ?_
    refine q_goto (tgt := 45) eX10_part_38 (by decide) ?_
    refine q_le (ls' := [none, none, some _, none, some _, none]) ⟨rfl, rfl, trivial⟩ ?_
    exact tX10_part_45 _ _ _ _ hw
def wX10_part (x0 : Nat) (x1 : Int32) (x2 : Int32) (x3 : Int32) (h : MH) (Q : Int32 → MH → Prop) : Prop := hS h x0 = (1, 10) ∧ ∀ h2, h2 = sL h x0 32 ((0 : Int64)) → ∀ h3, h3 = sL h2 x0 33 ((0 : Int64)) → Cm MX10_goesLots 300 0 0 [.ref (x0), .int (x2)] h3 (pV fun h5 => (x1 = 0 → hS h5 x0 = (1, 10) ∧ wX10_part_30 Q x2 x3 (hL h5 x0 33) h5) ∧ (¬ (x1 = 0) → hS h5 x0 = (1, 10) ∧ wX10_part_30 Q x2 x3 (hL h5 x0 32) h5))
set_option maxHeartbeats 4000000 in
set_option maxRecDepth 100000 in
theorem gX10_part (x0 : Nat) (x1 : Int32) (x2 : Int32) (x3 : Int32) (h : MH) (Q : Int32 → MH → Prop) (hw : wX10_part x0 x1 x2 x3 h Q) : Cm MX10_part 301 0 0 [.ref (x0), .int (x1), .int (x2), .int (x3)] h (pI Q) := by
  refine cm_of [some (.ref (x0)), some (.int (x1)), some (.int (x2)), some (.int (x3)), none, none] rfl pnX10 (Nat.le_of_ble_eq_true rfl) rfl ?_
  unfold wX10_part at hw
  refine q_aload_nr eX10_part_0 rfl ?_
  refine q_lconst (v := (0 : Int64)) eX10_part_1 (by decide) ?_
  obtain ⟨hs1, hw⟩ := hw
  have hw := hw _ rfl
  refine q_putL (fwX10_457 _) rfl hs1 eX10_part_2 ?_
  refine q_aload_nr eX10_part_5 rfl ?_
  refine q_lconst (v := (0 : Int64)) eX10_part_6 (by decide) ?_
  have hw := hw _ rfl
  refine q_putL (fwX10_461 _) rfl hs1 eX10_part_7 ?_
  refine q_aload_nr eX10_part_10 rfl ?_
  refine q_iload_n eX10_part_11 rfl ?_
  refine q_callV (b := 0) (t := 0) hw mlX10_464 kX10_goesLots vX10_goesLots rfl hs1 ⟨rfl, rfl⟩ (by decide) rfl (Nat.le_of_ble_eq_true rfl) eX10_part_12 (kV fun h5 hw => ?_)
  refine q_iload_n eX10_part_15 rfl ?_
  obtain ⟨hw1, hw2⟩ := hw
  refine q_if_eq (tgt := 26) eX10_part_16 (by decide) (fun c => ?_) (fun c => ?_)
  · have hw := hw1 c
    refine q_aload_nr eX10_part_26 rfl ?_
    obtain ⟨hs6, hw⟩ := hw
    refine q_getL flX10_461 rfl hs6 eX10_part_27 ?_
    refine q_le (ls' := [none, none, some _, some _, none, none]) ⟨rfl, rfl, trivial⟩ ?_
    exact tX10_part_30 _ _ _ _ hw
  · have hw := hw2 c
    refine q_aload_nr eX10_part_19 rfl ?_
    obtain ⟨hs14, hw⟩ := hw
    refine q_getL flX10_457 rfl hs14 eX10_part_20 ?_
    refine q_goto (tgt := 30) eX10_part_23 (by decide) ?_
    refine q_le (ls' := [none, none, some _, some _, none, none]) ⟨rfl, rfl, trivial⟩ ?_
    exact tX10_part_30 _ _ _ _ hw
def wX10_chance (x0 : Nat) (x1 : Int32) (x2 : Int32) (h : MH) (Q : Int32 → MH → Prop) : Prop := hS h x0 = (1, 10) ∧ ∀ h2, h2 = sI h x0 0 (nI 0) → wX10_within ((x2).toInt64) (0 : Int64) (1 : Int64) h2 (fun r3 h4 => (¬ (r3 = 0) → wX10_within ((x1).toInt64) (0 : Int64) (3 : Int64) h4 (fun r5 h6 => (r5 = 0 → Q ((-3 : Int32)) h6) ∧ (¬ (r5 = 0) → hS h6 x0 = (1, 10) ∧ wX10_part x0 (nI 1) x1 x2 h6 (fun r8 h9 => Q (r8) h9)))) ∧ (r3 = 0 → Q ((-2 : Int32)) h4))
set_option maxHeartbeats 4000000 in
set_option maxRecDepth 100000 in
theorem gX10_chance (x0 : Nat) (x1 : Int32) (x2 : Int32) (h : MH) (Q : Int32 → MH → Prop) (hw : wX10_chance x0 x1 x2 h Q) : Cm MX10_chance 302 0 0 [.ref (x0), .int (x1), .int (x2)] h (pI Q) := by
  refine cm_of [some (.ref (x0)), some (.int (x1)), some (.int (x2))] rfl pnX10 (Nat.le_of_ble_eq_true rfl) rfl ?_
  unfold wX10_chance at hw
  refine q_aload_nr eX10_chance_0 rfl ?_
  refine q_iconst (v := nI 0) eX10_chance_1 (by decide) ?_
  obtain ⟨hs1, hw⟩ := hw
  have hw := hw _ rfl
  refine q_putI (fwX10_1 _) rfl hs1 eX10_chance_2 ?_
  refine q_iload_n eX10_chance_5 rfl ?_
  refine q_i2l eX10_chance_6 ?_
  refine q_lconst (v := (0 : Int64)) eX10_chance_7 (by decide) ?_
  refine q_lconst (v := (1 : Int64)) eX10_chance_8 (by decide) ?_
  refine q_callS (b := 0) (t := 0) (gX10_within _ _ _ _ _ hw) mlX10_149 kX10_within sX10_within rfl (by decide) rfl (Nat.le_of_ble_eq_true rfl) eX10_chance_9 (kI fun r3 h4 hw => ?_)
  obtain ⟨hw1, hw2⟩ := hw
  refine q_if_ne (tgt := 18) eX10_chance_12 (by decide) (fun c => ?_) (fun c => ?_)
  · have hw := hw1 c
    refine q_iload_n eX10_chance_18 rfl ?_
    refine q_i2l eX10_chance_19 ?_
    refine q_lconst (v := (0 : Int64)) eX10_chance_20 (by decide) ?_
    refine q_ldc2 coX10_371 eX10_chance_21 ?_
    refine q_callS (b := 0) (t := 0) (gX10_within _ _ _ _ _ hw) mlX10_149 kX10_within sX10_within rfl (by decide) rfl (Nat.le_of_ble_eq_true rfl) eX10_chance_24 (kI fun r5 h6 hw => ?_)
    obtain ⟨hw1, hw2⟩ := hw
    refine q_if_eq (tgt := 40) eX10_chance_27 (by decide) (fun c => ?_) (fun c => ?_)
    · have hw := hw1 c
      refine q_bipush (v := (-3 : Int32)) eX10_chance_40 (by decide) ?_
      exact q_ret rfl eX10_chance_42 ⟨_, rfl, hw⟩
    · have hw := hw2 c
      refine q_aload_nr eX10_chance_30 rfl ?_
      refine q_iconst (v := nI 1) eX10_chance_31 (by decide) ?_
      refine q_iload_n eX10_chance_32 rfl ?_
      refine q_iload_n eX10_chance_33 rfl ?_
      obtain ⟨hs7, hw⟩ := hw
      refine q_callV (b := 0) (t := 0) (gX10_part _ _ _ _ _ _ hw) mlX10_471 kX10_part vX10_part rfl hs7 ⟨rfl, rfl⟩ (by decide) rfl (Nat.le_of_ble_eq_true rfl) eX10_chance_34 (kI fun r8 h9 hw => ?_)
      refine q_goto (tgt := 42) eX10_chance_37 (by decide) ?_
      exact q_ret rfl eX10_chance_42 ⟨_, rfl, hw⟩
  · have hw := hw2 c
    refine q_bipush (v := (-2 : Int32)) eX10_chance_15 (by decide) ?_
    exact q_ret rfl eX10_chance_17 ⟨_, rfl, hw⟩
def wX10_mean (x0 : Nat) (x1 : Int32) (x2 : Int32) (h : MH) (Q : Int32 → MH → Prop) : Prop := hS h x0 = (1, 10) ∧ ∀ h2, h2 = sI h x0 0 (nI 0) → wX10_within ((x2).toInt64) (0 : Int64) (1 : Int64) h2 (fun r3 h4 => (¬ (r3 = 0) → wX10_within ((x1).toInt64) (0 : Int64) (3 : Int64) h4 (fun r5 h6 => (r5 = 0 → Q ((-3 : Int32)) h6) ∧ (¬ (r5 = 0) → hS h6 x0 = (1, 10) ∧ wX10_part x0 (nI 0) x1 x2 h6 (fun r8 h9 => Q (r8) h9)))) ∧ (r3 = 0 → Q ((-2 : Int32)) h4))
set_option maxHeartbeats 4000000 in
set_option maxRecDepth 100000 in
theorem gX10_mean (x0 : Nat) (x1 : Int32) (x2 : Int32) (h : MH) (Q : Int32 → MH → Prop) (hw : wX10_mean x0 x1 x2 h Q) : Cm MX10_mean 302 0 0 [.ref (x0), .int (x1), .int (x2)] h (pI Q) := by
  refine cm_of [some (.ref (x0)), some (.int (x1)), some (.int (x2))] rfl pnX10 (Nat.le_of_ble_eq_true rfl) rfl ?_
  unfold wX10_mean at hw
  refine q_aload_nr eX10_mean_0 rfl ?_
  refine q_iconst (v := nI 0) eX10_mean_1 (by decide) ?_
  obtain ⟨hs1, hw⟩ := hw
  have hw := hw _ rfl
  refine q_putI (fwX10_1 _) rfl hs1 eX10_mean_2 ?_
  refine q_iload_n eX10_mean_5 rfl ?_
  refine q_i2l eX10_mean_6 ?_
  refine q_lconst (v := (0 : Int64)) eX10_mean_7 (by decide) ?_
  refine q_lconst (v := (1 : Int64)) eX10_mean_8 (by decide) ?_
  refine q_callS (b := 0) (t := 0) (gX10_within _ _ _ _ _ hw) mlX10_149 kX10_within sX10_within rfl (by decide) rfl (Nat.le_of_ble_eq_true rfl) eX10_mean_9 (kI fun r3 h4 hw => ?_)
  obtain ⟨hw1, hw2⟩ := hw
  refine q_if_ne (tgt := 18) eX10_mean_12 (by decide) (fun c => ?_) (fun c => ?_)
  · have hw := hw1 c
    refine q_iload_n eX10_mean_18 rfl ?_
    refine q_i2l eX10_mean_19 ?_
    refine q_lconst (v := (0 : Int64)) eX10_mean_20 (by decide) ?_
    refine q_ldc2 coX10_371 eX10_mean_21 ?_
    refine q_callS (b := 0) (t := 0) (gX10_within _ _ _ _ _ hw) mlX10_149 kX10_within sX10_within rfl (by decide) rfl (Nat.le_of_ble_eq_true rfl) eX10_mean_24 (kI fun r5 h6 hw => ?_)
    obtain ⟨hw1, hw2⟩ := hw
    refine q_if_eq (tgt := 40) eX10_mean_27 (by decide) (fun c => ?_) (fun c => ?_)
    · have hw := hw1 c
      refine q_bipush (v := (-3 : Int32)) eX10_mean_40 (by decide) ?_
      exact q_ret rfl eX10_mean_42 ⟨_, rfl, hw⟩
    · have hw := hw2 c
      refine q_aload_nr eX10_mean_30 rfl ?_
      refine q_iconst (v := nI 0) eX10_mean_31 (by decide) ?_
      refine q_iload_n eX10_mean_32 rfl ?_
      refine q_iload_n eX10_mean_33 rfl ?_
      obtain ⟨hs7, hw⟩ := hw
      refine q_callV (b := 0) (t := 0) (gX10_part _ _ _ _ _ _ hw) mlX10_471 kX10_part vX10_part rfl hs7 ⟨rfl, rfl⟩ (by decide) rfl (Nat.le_of_ble_eq_true rfl) eX10_mean_34 (kI fun r8 h9 hw => ?_)
      refine q_goto (tgt := 42) eX10_mean_37 (by decide) ?_
      exact q_ret rfl eX10_mean_42 ⟨_, rfl, hw⟩
  · have hw := hw2 c
    refine q_bipush (v := (-2 : Int32)) eX10_mean_15 (by decide) ?_
    exact q_ret rfl eX10_mean_17 ⟨_, rfl, hw⟩
def wX10_cutTo (x0 : Int64) (x2 : Int32) (h : MH) (Q : Int64 → MH → Prop) : Prop := Q ((if x2 = 0 then (((x0).toInt32).toInt8.toInt32).toInt64 else (if x2 = nI 1 then (((x0).toInt32).toInt16.toInt32).toInt64 else (if x2 = nI 2 then ((x0).toInt32).toInt64 else x0)))) h
set_option maxHeartbeats 4000000 in
set_option maxRecDepth 100000 in
theorem gX10_cutTo (x0 : Int64) (x2 : Int32) (h : MH) (Q : Int64 → MH → Prop) (hw : wX10_cutTo x0 x2 h Q) : Cm MX10_cutTo 0 0 0 [.long (x0), .int (x2)] h (pL Q) := by
  refine cm_of [some (.long (x0)), none, some (.int (x2))] rfl pnX10 (Nat.le_of_ble_eq_true rfl) rfl ?_
  unfold wX10_cutTo at hw
  refine q_iload_n eX10_cutTo_0 rfl ?_
  have hj2 : Wm MX10_cutTo 0 0 0 35 [some (.long (x0)), none, some (.int (x2))] [.long ((if x2 = 0 then (((x0).toInt32).toInt8.toInt32).toInt64 else (if x2 = nI 1 then (((x0).toInt32).toInt16.toInt32).toInt64 else (if x2 = nI 2 then ((x0).toInt32).toInt64 else x0))))] h (pL Q) := by
    exact q_retL rfl eX10_cutTo_35 ⟨_, rfl, hw⟩
  refine q_if_ne (tgt := 11) eX10_cutTo_1 (by decide) (fun c => ?_) (fun c => ?_)
  · refine q_iload_n eX10_cutTo_11 rfl ?_
    refine q_iconst (v := nI 1) eX10_cutTo_12 (by decide) ?_
    have hj3 : Wm MX10_cutTo 0 0 0 35 [some (.long (x0)), none, some (.int (x2))] [.long ((if x2 = nI 1 then (((x0).toInt32).toInt16.toInt32).toInt64 else (if x2 = nI 2 then ((x0).toInt32).toInt64 else x0)))] h (pL Q) := by
      rw [if_neg c] at hj2
      exact hj2
    refine q_icmp_ne (tgt := 23) eX10_cutTo_13 (by decide) (fun c => ?_) (fun c => ?_)
    · refine q_iload_n eX10_cutTo_23 rfl ?_
      refine q_iconst (v := nI 2) eX10_cutTo_24 (by decide) ?_
      have hj4 : Wm MX10_cutTo 0 0 0 35 [some (.long (x0)), none, some (.int (x2))] [.long ((if x2 = nI 2 then ((x0).toInt32).toInt64 else x0))] h (pL Q) := by
        rw [if_neg c] at hj3
        exact hj3
      refine q_icmp_ne (tgt := 34) eX10_cutTo_25 (by decide) (fun c => ?_) (fun c => ?_)
      · refine q_lload_n eX10_cutTo_34 rfl ?_
        rw [if_neg c] at hj4
        exact hj4
      · refine q_lload_n eX10_cutTo_28 rfl ?_
        refine q_l2i eX10_cutTo_29 ?_
        refine q_i2l eX10_cutTo_30 ?_
        refine q_goto (tgt := 35) eX10_cutTo_31 (by decide) ?_
        rw [if_pos c] at hj4
        exact hj4
    · refine q_lload_n eX10_cutTo_16 rfl ?_
      refine q_l2i eX10_cutTo_17 ?_
      refine q_i2s eX10_cutTo_18 ?_
      refine q_i2l eX10_cutTo_19 ?_
      refine q_goto (tgt := 35) eX10_cutTo_20 (by decide) ?_
      rw [if_pos c] at hj3
      exact hj3
  · refine q_lload_n eX10_cutTo_4 rfl ?_
    refine q_l2i eX10_cutTo_5 ?_
    refine q_i2b eX10_cutTo_6 ?_
    refine q_i2l eX10_cutTo_7 ?_
    refine q_goto (tgt := 35) eX10_cutTo_8 (by decide) ?_
    rw [if_pos c] at hj2
    exact hj2
def wX10_numbers_64 (Q : Int32 → MH → Prop) : Nat → Nat → Int32 → Int32 → Int32 → MH → Prop
  | 0, _, _, _, _, _ => False
  | n + 1, x0, x1, x3, x4, h => (x3 ≤ x4 → Q (nI 0) h) ∧ (¬ (x3 ≤ x4) → hS h x0 = (1, 10) ∧ ∃ a23, hR h x0 36 = some a23 ∧ ∃ n26, hS h a23 = (3, n26) ∧ vp_in (((nI 40 * x1) + x4)) n26 ∧ ∀ h28, h28 = sL h a23 (((nI 40 * x1) + x4)).toNatClampNeg ((0 : Int64)) → wX10_numbers_64 Q n x0 x1 x3 (x4 + nI 1) h28)
set_option maxHeartbeats 4000000 in
set_option maxRecDepth 100000 in
theorem tX10_numbers_64 {Q : Int32 → MH → Prop} : ∀ (n : Nat) (h : MH) (x0 : Nat) (x1 : Int32) (x3 : Int32) (x4 : Int32), wX10_numbers_64 Q n x0 x1 x3 x4 h → Wm MX10_numbers 1 0 0 64 [some (.ref (x0)), some (.int (x1)), none, some (.int (x3)), some (.int (x4))] [] h (pI Q) := by
  intro n
  induction n with
  | zero => intro h x0 x1 x3 x4 hw; exact hw.elim
  | succ n ih =>
    intro h x0 x1 x3 x4 hw
    unfold wX10_numbers_64 at hw
    refine q_iload eX10_numbers_64 rfl ?_
    refine q_iload_n eX10_numbers_66 rfl ?_
    obtain ⟨hw1, hw2⟩ := hw
    refine q_icmp_ge (tgt := 89) eX10_numbers_67 (by decide) (fun c => ?_) (fun c => ?_)
    · have hw := hw1 c
      refine q_iconst (v := nI 0) eX10_numbers_89 (by decide) ?_
      exact q_ret rfl eX10_numbers_90 ⟨_, rfl, hw⟩
    · have hw := hw2 c
      refine q_aload_nr eX10_numbers_70 rfl ?_
      obtain ⟨hs22, hw⟩ := hw
      obtain ⟨a23, hr24, hw⟩ := hw
      refine q_getR flX10_76 rfl hs22 hr24 eX10_numbers_71 ?_
      refine q_bipush (v := nI 40) eX10_numbers_74 (by decide) ?_
      refine q_iload_n eX10_numbers_76 rfl ?_
      refine q_imul eX10_numbers_77 ?_
      refine q_iload eX10_numbers_78 rfl ?_
      refine q_iadd eX10_numbers_80 ?_
      refine q_lconst (v := (0 : Int64)) eX10_numbers_81 (by decide) ?_
      obtain ⟨n26, hs25, hw⟩ := hw
      obtain ⟨hi27, hw⟩ := hw
      have hw := hw _ rfl
      refine q_last hs25 hi27 eX10_numbers_82 ?_
      refine x_iinc (v := (x4 + nI 1)) (ls' := [_, _, _, _, _]) eX10_numbers_83 rfl rfl rfl rfl ?_
      refine q_goto (tgt := 64) eX10_numbers_86 (by decide) ?_
      refine q_le (ls' := [some _, some _, none, some _, some _]) ⟨rfl, rfl, rfl, rfl, trivial⟩ ?_
      exact ih _ _ _ _ _ hw
def wX10_numbers (x0 : Nat) (x1 : Int32) (x2 : Int32) (x3 : Int32) (h : MH) (Q : Int32 → MH → Prop) : Prop := hS h x0 = (1, 10) ∧ ∀ h2, h2 = sI h x0 0 (nI 0) → wX10_within ((x1).toInt64) (0 : Int64) (3 : Int64) h2 (fun r3 h4 => (r3 = 0 → Q ((-2 : Int32)) h4) ∧ (¬ (r3 = 0) → wX10_within ((x2).toInt64) (0 : Int64) (3 : Int64) h4 (fun r5 h6 => (¬ (r5 = 0) → wX10_within ((x3).toInt64) (0 : Int64) (40 : Int64) h6 (fun r7 h8 => (¬ (r7 = 0) → hS h8 x0 = (1, 10) ∧ ∃ a10, hR h8 x0 34 = some a10 ∧ ∃ n13, hS h8 a10 = (2, n13) ∧ vp_in (x1) n13 ∧ ∀ h15, h15 = sI h8 a10 (x1).toNatClampNeg (x2) → ∃ a16, hR h15 x0 35 = some a16 ∧ ∃ n19, hS h15 a16 = (2, n19) ∧ vp_in (x1) n19 ∧ ∀ h21, h21 = sI h15 a16 (x1).toNatClampNeg (x3) → ∃ m29, wX10_numbers_64 Q m29 x0 x1 x3 (nI 0) h21) ∧ (r7 = 0 → Q ((-3 : Int32)) h8))) ∧ (r5 = 0 → Q ((-2 : Int32)) h6))))
set_option maxHeartbeats 4000000 in
set_option maxRecDepth 100000 in
theorem gX10_numbers (x0 : Nat) (x1 : Int32) (x2 : Int32) (x3 : Int32) (h : MH) (Q : Int32 → MH → Prop) (hw : wX10_numbers x0 x1 x2 x3 h Q) : Cm MX10_numbers 1 0 0 [.ref (x0), .int (x1), .int (x2), .int (x3)] h (pI Q) := by
  refine cm_of [some (.ref (x0)), some (.int (x1)), some (.int (x2)), some (.int (x3)), none] rfl pnX10 (Nat.le_of_ble_eq_true rfl) rfl ?_
  unfold wX10_numbers at hw
  refine q_aload_nr eX10_numbers_0 rfl ?_
  refine q_iconst (v := nI 0) eX10_numbers_1 (by decide) ?_
  obtain ⟨hs1, hw⟩ := hw
  have hw := hw _ rfl
  refine q_putI (fwX10_1 _) rfl hs1 eX10_numbers_2 ?_
  refine q_iload_n eX10_numbers_5 rfl ?_
  refine q_i2l eX10_numbers_6 ?_
  refine q_lconst (v := (0 : Int64)) eX10_numbers_7 (by decide) ?_
  refine q_ldc2 coX10_371 eX10_numbers_8 ?_
  refine q_callS (b := 0) (t := 0) (gX10_within _ _ _ _ _ hw) mlX10_149 kX10_within sX10_within rfl (by decide) rfl (Nat.le_of_ble_eq_true rfl) eX10_numbers_11 (kI fun r3 h4 hw => ?_)
  obtain ⟨hw1, hw2⟩ := hw
  refine q_if_eq (tgt := 29) eX10_numbers_14 (by decide) (fun c => ?_) (fun c => ?_)
  · have hw := hw1 c
    refine q_bipush (v := (-2 : Int32)) eX10_numbers_29 (by decide) ?_
    exact q_ret rfl eX10_numbers_31 ⟨_, rfl, hw⟩
  · have hw := hw2 c
    refine q_iload_n eX10_numbers_17 rfl ?_
    refine q_i2l eX10_numbers_18 ?_
    refine q_lconst (v := (0 : Int64)) eX10_numbers_19 (by decide) ?_
    refine q_ldc2 coX10_371 eX10_numbers_20 ?_
    refine q_callS (b := 0) (t := 0) (gX10_within _ _ _ _ _ hw) mlX10_149 kX10_within sX10_within rfl (by decide) rfl (Nat.le_of_ble_eq_true rfl) eX10_numbers_23 (kI fun r5 h6 hw => ?_)
    obtain ⟨hw1, hw2⟩ := hw
    refine q_if_ne (tgt := 32) eX10_numbers_26 (by decide) (fun c => ?_) (fun c => ?_)
    · have hw := hw1 c
      refine q_iload_n eX10_numbers_32 rfl ?_
      refine q_i2l eX10_numbers_33 ?_
      refine q_lconst (v := (0 : Int64)) eX10_numbers_34 (by decide) ?_
      refine q_ldc2 coX10_386 eX10_numbers_35 ?_
      refine q_callS (b := 0) (t := 0) (gX10_within _ _ _ _ _ hw) mlX10_149 kX10_within sX10_within rfl (by decide) rfl (Nat.le_of_ble_eq_true rfl) eX10_numbers_38 (kI fun r7 h8 hw => ?_)
      obtain ⟨hw1, hw2⟩ := hw
      refine q_if_ne (tgt := 47) eX10_numbers_41 (by decide) (fun c => ?_) (fun c => ?_)
      · have hw := hw1 c
        refine q_aload_nr eX10_numbers_47 rfl ?_
        obtain ⟨hs9, hw⟩ := hw
        obtain ⟨a10, hr11, hw⟩ := hw
        refine q_getR flX10_70 rfl hs9 hr11 eX10_numbers_48 ?_
        refine q_iload_n eX10_numbers_51 rfl ?_
        refine q_iload_n eX10_numbers_52 rfl ?_
        obtain ⟨n13, hs12, hw⟩ := hw
        obtain ⟨hi14, hw⟩ := hw
        have hw := hw _ rfl
        refine q_iast hs12 hi14 eX10_numbers_53 ?_
        refine q_aload_nr eX10_numbers_54 rfl ?_
        obtain ⟨a16, hr17, hw⟩ := hw
        refine q_getR flX10_73 rfl hs9 hr17 eX10_numbers_55 ?_
        refine q_iload_n eX10_numbers_58 rfl ?_
        refine q_iload_n eX10_numbers_59 rfl ?_
        obtain ⟨n19, hs18, hw⟩ := hw
        obtain ⟨hi20, hw⟩ := hw
        have hw := hw _ rfl
        refine q_iast hs18 hi20 eX10_numbers_60 ?_
        refine q_iconst (v := nI 0) eX10_numbers_61 (by decide) ?_
        refine x_istore (ls' := [_, _, _, _, _]) eX10_numbers_62 (by decide) rfl rfl ?_
        refine q_le (ls' := [some _, some _, none, some _, some _]) ⟨rfl, rfl, rfl, rfl, trivial⟩ ?_
        obtain ⟨m29, hw⟩ := hw
        exact tX10_numbers_64 m29 _ _ _ _ _ hw
      · have hw := hw2 c
        refine q_bipush (v := (-3 : Int32)) eX10_numbers_44 (by decide) ?_
        exact q_ret rfl eX10_numbers_46 ⟨_, rfl, hw⟩
    · have hw := hw2 c
      refine q_bipush (v := (-2 : Int32)) eX10_numbers_29 (by decide) ?_
      exact q_ret rfl eX10_numbers_31 ⟨_, rfl, hw⟩
def wX10_write (x0 : Nat) (x1 : Int32) (x2 : Int32) (x3 : Int64) (h : MH) (Q : Int64 → MH → Prop) : Prop := hS h x0 = (1, 10) ∧ ∀ h2, h2 = sI h x0 0 (nI 0) → wX10_noTray x0 x1 h2 (fun r3 h4 => (r3 = 0 → hS h4 x0 = (1, 10) ∧ ∃ a6, hR h4 x0 35 = some a6 ∧ ∃ n9, hS h4 a6 = (2, n9) ∧ vp_in (x1) n9 ∧ wX10_within ((x2).toInt64) (0 : Int64) (((hI h4 a6 (x1).toNatClampNeg - nI 1)).toInt64) h4 (fun r11 h12 => (¬ (r11 = 0) → hS h12 x0 = (1, 10) ∧ ∃ a14, hR h12 x0 36 = some a14 ∧ ∃ a16, hR h12 x0 34 = some a16 ∧ ∃ n19, hS h12 a16 = (2, n19) ∧ vp_in (x1) n19 ∧ wX10_cutTo x3 (hI h12 a16 (x1).toNatClampNeg) h12 (fun r21 h22 => ∃ n24, hS h22 a14 = (3, n24) ∧ vp_in (((nI 40 * x1) + x2)) n24 ∧ ∀ h26, h26 = sL h22 a14 (((nI 40 * x1) + x2)).toNatClampNeg (r21) → hS h26 x0 = (1, 10) ∧ ∃ a28, hR h26 x0 36 = some a28 ∧ ∃ n31, hS h26 a28 = (3, n31) ∧ vp_in (((nI 40 * x1) + x2)) n31 ∧ Q (hL h26 a28 (((nI 40 * x1) + x2)).toNatClampNeg) h26)) ∧ (r11 = 0 → Q ((-7 : Int64)) h12))) ∧ (¬ (r3 = 0) → Q ((r3).toInt64) h4))
set_option maxHeartbeats 4000000 in
set_option maxRecDepth 100000 in
theorem gX10_write (x0 : Nat) (x1 : Int32) (x2 : Int32) (x3 : Int64) (h : MH) (Q : Int64 → MH → Prop) (hw : wX10_write x0 x1 x2 x3 h Q) : Cm MX10_write 2 0 0 [.ref (x0), .int (x1), .int (x2), .long (x3)] h (pL Q) := by
  refine cm_of [some (.ref (x0)), some (.int (x1)), some (.int (x2)), some (.long (x3)), none, none] rfl pnX10 (Nat.le_of_ble_eq_true rfl) rfl ?_
  unfold wX10_write at hw
  refine q_aload_nr eX10_write_0 rfl ?_
  refine q_iconst (v := nI 0) eX10_write_1 (by decide) ?_
  obtain ⟨hs1, hw⟩ := hw
  have hw := hw _ rfl
  refine q_putI (fwX10_1 _) rfl hs1 eX10_write_2 ?_
  refine q_aload_nr eX10_write_5 rfl ?_
  refine q_iload_n eX10_write_6 rfl ?_
  refine q_callV (b := 0) (t := 0) (gX10_noTray _ _ _ _ hw) mlX10_373 kX10_noTray vX10_noTray rfl hs1 ⟨rfl, rfl⟩ (by decide) rfl (Nat.le_of_ble_eq_true rfl) eX10_write_7 (kI fun r3 h4 hw => ?_)
  refine x_istore (ls' := [_, _, _, _, _, _]) eX10_write_10 (by decide) rfl rfl ?_
  refine q_iload eX10_write_12 rfl ?_
  obtain ⟨hw1, hw2⟩ := hw
  refine q_if_eq (tgt := 21) eX10_write_14 (by decide) (fun c => ?_) (fun c => ?_)
  · have hw := hw1 c
    refine q_iload_n eX10_write_21 rfl ?_
    refine q_i2l eX10_write_22 ?_
    refine q_lconst (v := (0 : Int64)) eX10_write_23 (by decide) ?_
    refine q_aload_nr eX10_write_24 rfl ?_
    obtain ⟨hs5, hw⟩ := hw
    obtain ⟨a6, hr7, hw⟩ := hw
    refine q_getR flX10_73 rfl hs5 hr7 eX10_write_25 ?_
    refine q_iload_n eX10_write_28 rfl ?_
    obtain ⟨n9, hs8, hw⟩ := hw
    obtain ⟨hi10, hw⟩ := hw
    refine q_iald hs8 hi10 eX10_write_29 ?_
    refine q_iconst (v := nI 1) eX10_write_30 (by decide) ?_
    refine q_isub eX10_write_31 ?_
    refine q_i2l eX10_write_32 ?_
    refine q_callS (b := 0) (t := 0) (gX10_within _ _ _ _ _ hw) mlX10_149 kX10_within sX10_within rfl (by decide) rfl (Nat.le_of_ble_eq_true rfl) eX10_write_33 (kI fun r11 h12 hw => ?_)
    obtain ⟨hw1, hw2⟩ := hw
    refine q_if_ne (tgt := 43) eX10_write_36 (by decide) (fun c => ?_) (fun c => ?_)
    · have hw := hw1 c
      refine q_aload_nr eX10_write_43 rfl ?_
      obtain ⟨hs13, hw⟩ := hw
      obtain ⟨a14, hr15, hw⟩ := hw
      refine q_getR flX10_76 rfl hs13 hr15 eX10_write_44 ?_
      refine q_bipush (v := nI 40) eX10_write_47 (by decide) ?_
      refine q_iload_n eX10_write_49 rfl ?_
      refine q_imul eX10_write_50 ?_
      refine q_iload_n eX10_write_51 rfl ?_
      refine q_iadd eX10_write_52 ?_
      refine q_lload_n eX10_write_53 rfl ?_
      refine q_aload_nr eX10_write_54 rfl ?_
      obtain ⟨a16, hr17, hw⟩ := hw
      refine q_getR flX10_70 rfl hs13 hr17 eX10_write_55 ?_
      refine q_iload_n eX10_write_58 rfl ?_
      obtain ⟨n19, hs18, hw⟩ := hw
      obtain ⟨hi20, hw⟩ := hw
      refine q_iald hs18 hi20 eX10_write_59 ?_
      refine q_callS (b := 0) (t := 0) (gX10_cutTo _ _ _ _ hw) mlX10_477 kX10_cutTo sX10_cutTo rfl (by decide) rfl (Nat.le_of_ble_eq_true rfl) eX10_write_60 (kL fun r21 h22 hw => ?_)
      obtain ⟨n24, hs23, hw⟩ := hw
      obtain ⟨hi25, hw⟩ := hw
      have hw := hw _ rfl
      refine q_last hs23 hi25 eX10_write_63 ?_
      refine q_aload_nr eX10_write_64 rfl ?_
      obtain ⟨hs27, hw⟩ := hw
      obtain ⟨a28, hr29, hw⟩ := hw
      refine q_getR flX10_76 rfl hs27 hr29 eX10_write_65 ?_
      refine q_bipush (v := nI 40) eX10_write_68 (by decide) ?_
      refine q_iload_n eX10_write_70 rfl ?_
      refine q_imul eX10_write_71 ?_
      refine q_iload_n eX10_write_72 rfl ?_
      refine q_iadd eX10_write_73 ?_
      obtain ⟨n31, hs30, hw⟩ := hw
      obtain ⟨hi32, hw⟩ := hw
      refine q_lald hs30 hi32 eX10_write_74 ?_
      exact q_retL rfl eX10_write_75 ⟨_, rfl, hw⟩
    · have hw := hw2 c
      refine q_ldc2 coX10_475 eX10_write_39 ?_
      exact q_retL rfl eX10_write_42 ⟨_, rfl, hw⟩
  · have hw := hw2 c
    refine q_iload eX10_write_17 rfl ?_
    refine q_i2l eX10_write_19 ?_
    exact q_retL rfl eX10_write_20 ⟨_, rfl, hw⟩
