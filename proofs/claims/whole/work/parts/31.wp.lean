/-! ===== methods: what each needs and does (by program) ===== -/
def wX0_init (b t : Nat) (x0 : Nat) (h : MH) (Q : MH → Prop) : Prop := 1 ≤ b ∧ 40 ≤ t ∧ ∀ a1, a1 = hN h → ∀ h2, h2 = al h (2, 40) → hS h2 x0 = (1, 0) ∧ ∀ h6, h6 = sR h2 x0 3 (some a1) → 1 ≤ (b - 1) ∧ 40 ≤ (t - 40) ∧ ∀ a7, a7 = hN h6 → ∀ h8, h8 = al h6 (2, 40) → hS h8 x0 = (1, 0) ∧ ∀ h12, h12 = sR h8 x0 4 (some a7) → 1 ≤ (b - 2) ∧ 40 ≤ (t - 80) ∧ ∀ a13, a13 = hN h12 → ∀ h14, h14 = al h12 (2, 40) → hS h14 x0 = (1, 0) ∧ ∀ h18, h18 = sR h14 x0 5 (some a13) → 1 ≤ (b - 3) ∧ 0 ≤ (t - 120) ∧ ∀ a19, a19 = hN h18 → ∀ h20, h20 = al h18 (3, 0) → hS h20 x0 = (1, 0) ∧ ∀ h24, h24 = sR h20 x0 7 (some a19) → ∀ h25, h25 = sL h24 x0 8 ((0 : Int64)) → 1 ≤ (b - 4) ∧ 40 ≤ (t - 120) ∧ ∀ a26, a26 = hN h25 → ∀ h27, h27 = al h25 (2, 40) → hS h27 x0 = (1, 0) ∧ ∀ h31, h31 = sR h27 x0 9 (some a26) → Q h31
set_option maxHeartbeats 4000000 in
set_option maxRecDepth 100000 in
theorem gX0_init (b t : Nat) (x0 : Nat) (h : MH) (Q : MH → Prop) (hw : wX0_init b t x0 h Q) : Cm MX0_init 1 b t [.ref (x0)] h (pV Q) := by
  refine cm_of [some (.ref (x0))] rfl pnX0 (Nat.le_of_ble_eq_true rfl) rfl ?_
  unfold wX0_init at hw
  refine q_aload_nr eX0_init_0 rfl ?_
  refine q_objI mlX0_3 iOi cOi (by decide) (Nat.le_of_ble_eq_true rfl) eX0_init_1 ?_
  refine q_aload_nr eX0_init_4 rfl ?_
  refine q_bipush (v := nI 40) eX0_init_5 (by decide) ?_
  obtain ⟨hc3, hc4, hw⟩ := hw
  have hw := hw _ rfl _ rfl
  refine q_bud (b' := (b - 1) + 1) (t' := (t - 40) + 40) (by omega) (by omega) ?_
  refine q_newa (k := 2) (Or.inl rfl) rfl aC_int (by decide) (by decide) (by decide) eX0_init_7 ?_
  obtain ⟨hs5, hw⟩ := hw
  have hw := hw _ rfl
  refine q_putR fwX0_9 rfl hs5 eX0_init_9 ?_
  refine q_aload_nr eX0_init_12 rfl ?_
  refine q_bipush (v := nI 40) eX0_init_13 (by decide) ?_
  obtain ⟨hc9, hc10, hw⟩ := hw
  have hw := hw _ rfl _ rfl
  refine q_bud (b' := (b - 2) + 1) (t' := (t - 80) + 40) (by omega) (by omega) ?_
  refine q_newa (k := 2) (Or.inl rfl) rfl aC_int (by decide) (by decide) (by decide) eX0_init_15 ?_
  obtain ⟨hs11, hw⟩ := hw
  have hw := hw _ rfl
  refine q_putR fwX0_15 rfl hs11 eX0_init_17 ?_
  refine q_aload_nr eX0_init_20 rfl ?_
  refine q_bipush (v := nI 40) eX0_init_21 (by decide) ?_
  obtain ⟨hc15, hc16, hw⟩ := hw
  have hw := hw _ rfl _ rfl
  refine q_bud (b' := (b - 3) + 1) (t' := (t - 120) + 40) (by omega) (by omega) ?_
  refine q_newa (k := 2) (Or.inl rfl) rfl aC_int (by decide) (by decide) (by decide) eX0_init_23 ?_
  obtain ⟨hs17, hw⟩ := hw
  have hw := hw _ rfl
  refine q_putR fwX0_18 rfl hs17 eX0_init_25 ?_
  refine q_aload_nr eX0_init_28 rfl ?_
  refine q_iconst (v := nI 0) eX0_init_29 (by decide) ?_
  obtain ⟨hc21, hc22, hw⟩ := hw
  have hw := hw _ rfl _ rfl
  refine q_bud (b' := (b - 4) + 1) (t' := (t - 120) + 0) (by omega) (by omega) ?_
  refine q_newa (k := 3) (Or.inr (Or.inl rfl)) rfl aC_long (by decide) (by decide) (by decide) eX0_init_30 ?_
  obtain ⟨hs23, hw⟩ := hw
  have hw := hw _ rfl
  refine q_putR (fwX0_21 _) rfl hs23 eX0_init_32 ?_
  refine q_aload_nr eX0_init_35 rfl ?_
  refine q_lconst (v := (0 : Int64)) eX0_init_36 (by decide) ?_
  have hw := hw _ rfl
  refine q_putL (fwX0_25 _) rfl hs23 eX0_init_37 ?_
  refine q_aload_nr eX0_init_40 rfl ?_
  refine q_bipush (v := nI 40) eX0_init_41 (by decide) ?_
  obtain ⟨hc28, hc29, hw⟩ := hw
  have hw := hw _ rfl _ rfl
  refine q_bud (b' := (b - 5) + 1) (t' := (t - 160) + 40) (by omega) (by omega) ?_
  refine q_newa (k := 2) (Or.inl rfl) rfl aC_int (by decide) (by decide) (by decide) eX0_init_43 ?_
  obtain ⟨hs30, hw⟩ := hw
  have hw := hw _ rfl
  refine q_putR fwX0_29 rfl hs30 eX0_init_45 ?_
  exact q_retV rfl eX0_init_48 ⟨rfl, hw⟩
def wX4_cycleOf_5 (Q : Int32 → MH → Prop) : Nat → Nat → Int32 → Int32 → Int32 → Int32 → MH → Prop
  | 0, _, _, _, _, _, _ => False
  | n + 1, x0, x1, x2, x3, x4, h => hS h x0 = (1, 4) ∧ (hI h x0 10 ≤ x4 → Q ((-1 : Int32)) h) ∧ (¬ (hI h x0 10 ≤ x4) → ∃ a2, hR h x0 9 = some a2 ∧ ∃ n5, hS h a2 = (3, n5) ∧ vp_in (x1) n5 ∧ ((lg_cmp ((((hL h a2 (x1).toNatClampNeg).toUInt64 >>> ((x4).toInt64.toUInt64 &&& Int64.toUInt64 63)).toInt64 &&& (1 : Int64))) ((0 : Int64))) = 0 → wX4_cycleOf_5 Q n x0 x1 x2 x3 (x4 + nI 1) h) ∧ (¬ ((lg_cmp ((((hL h a2 (x1).toNatClampNeg).toUInt64 >>> ((x4).toInt64.toUInt64 &&& Int64.toUInt64 63)).toInt64 &&& (1 : Int64))) ((0 : Int64))) = 0) → (¬ (x3 = x2) → wX4_cycleOf_5 Q n x0 x1 x2 (x3 + nI 1) (x4 + nI 1) h) ∧ (x3 = x2 → Q (x4) h)))
set_option maxHeartbeats 4000000 in
set_option maxRecDepth 100000 in
theorem tX4_cycleOf_5 {Q : Int32 → MH → Prop} : ∀ (n : Nat) (h : MH) (x0 : Nat) (x1 : Int32) (x2 : Int32) (x3 : Int32) (x4 : Int32), wX4_cycleOf_5 Q n x0 x1 x2 x3 x4 h → Wm MX4_cycleOf 0 0 0 5 [some (.ref (x0)), some (.int (x1)), some (.int (x2)), some (.int (x3)), some (.int (x4))] [] h (pI Q) := by
  intro n
  induction n with
  | zero => intro h x0 x1 x2 x3 x4 hw; exact hw.elim
  | succ n ih =>
    intro h x0 x1 x2 x3 x4 hw
    unfold wX4_cycleOf_5 at hw
    refine q_iload eX4_cycleOf_5 rfl ?_
    refine q_aload_nr eX4_cycleOf_7 rfl ?_
    obtain ⟨hs1, hw⟩ := hw
    refine q_getI flX4_44 rfl hs1 eX4_cycleOf_8 ?_
    obtain ⟨hw1, hw2⟩ := hw
    refine q_icmp_ge (tgt := 47) eX4_cycleOf_11 (by decide) (fun c => ?_) (fun c => ?_)
    · have hw := hw1 c
      refine q_iconst (v := (-1 : Int32)) eX4_cycleOf_47 (by decide) ?_
      exact q_ret rfl eX4_cycleOf_48 ⟨_, rfl, hw⟩
    · have hw := hw2 c
      refine q_aload_nr eX4_cycleOf_14 rfl ?_
      obtain ⟨a2, hr3, hw⟩ := hw
      refine q_getR flX4_40 rfl hs1 hr3 eX4_cycleOf_15 ?_
      refine q_iload_n eX4_cycleOf_18 rfl ?_
      obtain ⟨n5, hs4, hw⟩ := hw
      obtain ⟨hi6, hw⟩ := hw
      refine q_lald hs4 hi6 eX4_cycleOf_19 ?_
      refine q_iload eX4_cycleOf_20 rfl ?_
      refine q_lushr eX4_cycleOf_22 ?_
      refine q_lconst (v := (1 : Int64)) eX4_cycleOf_23 (by decide) ?_
      refine q_land eX4_cycleOf_24 ?_
      refine q_lconst (v := (0 : Int64)) eX4_cycleOf_25 (by decide) ?_
      refine q_lcmp eX4_cycleOf_26 ?_
      obtain ⟨hw1, hw2⟩ := hw
      refine q_if_eq (tgt := 41) eX4_cycleOf_27 (by decide) (fun c => ?_) (fun c => ?_)
      · have hw := hw1 c
        refine x_iinc (v := (x4 + nI 1)) (ls' := [_, _, _, _, _]) eX4_cycleOf_41 rfl rfl rfl rfl ?_
        refine q_goto (tgt := 5) eX4_cycleOf_44 (by decide) ?_
        refine q_le (ls' := [some _, some _, some _, some _, some _]) ⟨rfl, rfl, rfl, rfl, rfl, trivial⟩ ?_
        exact ih _ _ _ _ _ _ hw
      · have hw := hw2 c
        refine q_iload_n eX4_cycleOf_30 rfl ?_
        refine q_iload_n eX4_cycleOf_31 rfl ?_
        obtain ⟨hw1, hw2⟩ := hw
        refine q_icmp_ne (tgt := 38) eX4_cycleOf_32 (by decide) (fun c => ?_) (fun c => ?_)
        · have hw := hw1 c
          refine x_iinc (v := (x3 + nI 1)) (ls' := [_, _, _, _, _]) eX4_cycleOf_38 rfl rfl rfl rfl ?_
          refine x_iinc (v := (x4 + nI 1)) (ls' := [_, _, _, _, _]) eX4_cycleOf_41 rfl rfl rfl rfl ?_
          refine q_goto (tgt := 5) eX4_cycleOf_44 (by decide) ?_
          refine q_le (ls' := [some _, some _, some _, some _, some _]) ⟨rfl, rfl, rfl, rfl, rfl, trivial⟩ ?_
          exact ih _ _ _ _ _ _ hw
        · have hw := hw2 c
          refine q_iload eX4_cycleOf_35 rfl ?_
          exact q_ret rfl eX4_cycleOf_37 ⟨_, rfl, hw⟩
def wX4_cycleOf (x0 : Nat) (x1 : Int32) (x2 : Int32) (h : MH) (Q : Int32 → MH → Prop) : Prop := ∃ m7, wX4_cycleOf_5 Q m7 x0 x1 x2 (nI 0) (nI 0) h
set_option maxHeartbeats 4000000 in
set_option maxRecDepth 100000 in
theorem gX4_cycleOf (x0 : Nat) (x1 : Int32) (x2 : Int32) (h : MH) (Q : Int32 → MH → Prop) (hw : wX4_cycleOf x0 x1 x2 h Q) : Cm MX4_cycleOf 0 0 0 [.ref (x0), .int (x1), .int (x2)] h (pI Q) := by
  refine cm_of [some (.ref (x0)), some (.int (x1)), some (.int (x2)), none, none] rfl pnX4 (Nat.le_of_ble_eq_true rfl) rfl ?_
  unfold wX4_cycleOf at hw
  refine q_iconst (v := nI 0) eX4_cycleOf_0 (by decide) ?_
  refine x_istore_n (ls' := [_, _, _, _, _]) eX4_cycleOf_1 (by decide) rfl rfl ?_
  refine q_iconst (v := nI 0) eX4_cycleOf_2 (by decide) ?_
  refine x_istore (ls' := [_, _, _, _, _]) eX4_cycleOf_3 (by decide) rfl rfl ?_
  refine q_le (ls' := [some _, some _, some _, some _, some _]) ⟨rfl, rfl, rfl, rfl, rfl, trivial⟩ ?_
  obtain ⟨m7, hw⟩ := hw
  exact tX4_cycleOf_5 m7 _ _ _ _ _ _ hw
def wX4_priceOf_5 (Q : Int32 → MH → Prop) : Nat → Nat → Int32 → Int32 → Int32 → Int32 → MH → Prop
  | 0, _, _, _, _, _, _ => False
  | n + 1, x0, x1, x2, x3, x4, h => hS h x0 = (1, 4) ∧ (hI h x0 3 ≤ x4 → Q (x3) h) ∧ (¬ (hI h x0 3 ≤ x4) → ∃ a2, hR h x0 11 = some a2 ∧ ∃ n5, hS h a2 = (2, n5) ∧ vp_in (x1) n5 ∧ ∃ a7, hR h x0 8 = some a7 ∧ ∃ n10, hS h a7 = (2, n10) ∧ vp_in (((x2 * nI 10) + x4)) n10 ∧ ∀ v12, v12 = (x3 + (((hI h a2 (x1).toNatClampNeg >>> (x4 &&& 31)) &&& nI 1) * hI h a7 (((x2 * nI 10) + x4)).toNatClampNeg)) → wX4_priceOf_5 Q n x0 x1 x2 v12 (x4 + nI 1) h)
set_option maxHeartbeats 4000000 in
set_option maxRecDepth 100000 in
theorem tX4_priceOf_5 {Q : Int32 → MH → Prop} : ∀ (n : Nat) (h : MH) (x0 : Nat) (x1 : Int32) (x2 : Int32) (x3 : Int32) (x4 : Int32), wX4_priceOf_5 Q n x0 x1 x2 x3 x4 h → Wm MX4_priceOf 0 0 0 5 [some (.ref (x0)), some (.int (x1)), some (.int (x2)), some (.int (x3)), some (.int (x4))] [] h (pI Q) := by
  intro n
  induction n with
  | zero => intro h x0 x1 x2 x3 x4 hw; exact hw.elim
  | succ n ih =>
    intro h x0 x1 x2 x3 x4 hw
    unfold wX4_priceOf_5 at hw
    refine q_iload eX4_priceOf_5 rfl ?_
    refine q_aload_nr eX4_priceOf_7 rfl ?_
    obtain ⟨hs1, hw⟩ := hw
    refine q_getI flX4_21 rfl hs1 eX4_priceOf_8 ?_
    obtain ⟨hw1, hw2⟩ := hw
    refine q_icmp_ge (tgt := 47) eX4_priceOf_11 (by decide) (fun c => ?_) (fun c => ?_)
    · have hw := hw1 c
      refine q_iload_n eX4_priceOf_47 rfl ?_
      exact q_ret rfl eX4_priceOf_48 ⟨_, rfl, hw⟩
    · have hw := hw2 c
      refine q_iload_n eX4_priceOf_14 rfl ?_
      refine q_aload_nr eX4_priceOf_15 rfl ?_
      obtain ⟨a2, hr3, hw⟩ := hw
      refine q_getR flX4_47 rfl hs1 hr3 eX4_priceOf_16 ?_
      refine q_iload_n eX4_priceOf_19 rfl ?_
      obtain ⟨n5, hs4, hw⟩ := hw
      obtain ⟨hi6, hw⟩ := hw
      refine q_iald hs4 hi6 eX4_priceOf_20 ?_
      refine q_iload eX4_priceOf_21 rfl ?_
      refine q_ishr eX4_priceOf_23 ?_
      refine q_iconst (v := nI 1) eX4_priceOf_24 (by decide) ?_
      refine q_iand eX4_priceOf_25 ?_
      refine q_aload_nr eX4_priceOf_26 rfl ?_
      obtain ⟨a7, hr8, hw⟩ := hw
      refine q_getR flX4_37 rfl hs1 hr8 eX4_priceOf_27 ?_
      refine q_iload_n eX4_priceOf_30 rfl ?_
      refine q_bipush (v := nI 10) eX4_priceOf_31 (by decide) ?_
      refine q_imul eX4_priceOf_33 ?_
      refine q_iload eX4_priceOf_34 rfl ?_
      refine q_iadd eX4_priceOf_36 ?_
      obtain ⟨n10, hs9, hw⟩ := hw
      obtain ⟨hi11, hw⟩ := hw
      refine q_iald hs9 hi11 eX4_priceOf_37 ?_
      refine q_imul eX4_priceOf_38 ?_
      refine q_iadd eX4_priceOf_39 ?_
      have hw := hw _ rfl
      refine x_istore_n (ls' := [_, _, _, _, _]) eX4_priceOf_40 (by decide) rfl rfl ?_
      refine x_iinc (v := (x4 + nI 1)) (ls' := [_, _, _, _, _]) eX4_priceOf_41 rfl rfl rfl rfl ?_
      refine q_goto (tgt := 5) eX4_priceOf_44 (by decide) ?_
      refine q_le (ls' := [some _, some _, some _, some _, some _]) ⟨rfl, rfl, rfl, rfl, rfl, trivial⟩ ?_
      exact ih _ _ _ _ _ _ hw
def wX4_priceOf (x0 : Nat) (x1 : Int32) (x2 : Int32) (h : MH) (Q : Int32 → MH → Prop) : Prop := ∃ m13, wX4_priceOf_5 Q m13 x0 x1 x2 (nI 0) (nI 0) h
set_option maxHeartbeats 4000000 in
set_option maxRecDepth 100000 in
theorem gX4_priceOf (x0 : Nat) (x1 : Int32) (x2 : Int32) (h : MH) (Q : Int32 → MH → Prop) (hw : wX4_priceOf x0 x1 x2 h Q) : Cm MX4_priceOf 0 0 0 [.ref (x0), .int (x1), .int (x2)] h (pI Q) := by
  refine cm_of [some (.ref (x0)), some (.int (x1)), some (.int (x2)), none, none] rfl pnX4 (Nat.le_of_ble_eq_true rfl) rfl ?_
  unfold wX4_priceOf at hw
  refine q_iconst (v := nI 0) eX4_priceOf_0 (by decide) ?_
  refine x_istore_n (ls' := [_, _, _, _, _]) eX4_priceOf_1 (by decide) rfl rfl ?_
  refine q_iconst (v := nI 0) eX4_priceOf_2 (by decide) ?_
  refine x_istore (ls' := [_, _, _, _, _]) eX4_priceOf_3 (by decide) rfl rfl ?_
  refine q_le (ls' := [some _, some _, some _, some _, some _]) ⟨rfl, rfl, rfl, rfl, rfl, trivial⟩ ?_
  obtain ⟨m13, hw⟩ := hw
  exact tX4_priceOf_5 m13 _ _ _ _ _ _ hw
def wJ13_bitCount_95d88 (x0 : Int64) (h : MH) (Q : Int32 → MH → Prop) : Prop := ∀ v1, v1 = (x0 - (((x0).toUInt64 >>> ((nI 1).toInt64.toUInt64 &&& Int64.toUInt64 63)).toInt64 &&& (6148914691236517205 : Int64))) → ∀ v2, v2 = ((v1 &&& (3689348814741910323 : Int64)) + (((v1).toUInt64 >>> ((nI 2).toInt64.toUInt64 &&& Int64.toUInt64 63)).toInt64 &&& (3689348814741910323 : Int64))) → ∀ v3, v3 = ((v2 + ((v2).toUInt64 >>> ((nI 4).toInt64.toUInt64 &&& Int64.toUInt64 63)).toInt64) &&& (1085102592571150095 : Int64)) → ∀ v4, v4 = (v3 + ((v3).toUInt64 >>> ((nI 8).toInt64.toUInt64 &&& Int64.toUInt64 63)).toInt64) → ∀ v5, v5 = (v4 + ((v4).toUInt64 >>> ((nI 16).toInt64.toUInt64 &&& Int64.toUInt64 63)).toInt64) → ∀ v6, v6 = (v5 + ((v5).toUInt64 >>> ((nI 32).toInt64.toUInt64 &&& Int64.toUInt64 63)).toInt64) → Q (((v6).toInt32 &&& nI 127)) h
set_option maxHeartbeats 4000000 in
set_option maxRecDepth 100000 in
theorem gJ13_bitCount_95d88 (x0 : Int64) (h : MH) (Q : Int32 → MH → Prop) (hw : wJ13_bitCount_95d88 x0 h Q) : Cm MJ13_bitCount_95d88 0 0 0 [.long (x0)] h (pI Q) := by
  refine cm_of [some (.long (x0)), none] rfl pnJ13 (Nat.le_of_ble_eq_true rfl) rfl ?_
  unfold wJ13_bitCount_95d88 at hw
  refine q_lload_n eJ13_bitCount_95d88_0 rfl ?_
  refine q_lload_n eJ13_bitCount_95d88_1 rfl ?_
  refine q_iconst (v := nI 1) eJ13_bitCount_95d88_2 (by decide) ?_
  refine q_lushr eJ13_bitCount_95d88_3 ?_
  refine q_ldc2 coJ13_314 eJ13_bitCount_95d88_4 ?_
  refine q_land eJ13_bitCount_95d88_7 ?_
  refine q_lsub eJ13_bitCount_95d88_8 ?_
  have hw := hw _ rfl
  refine x_lstore_n (ls' := [_, _]) eJ13_bitCount_95d88_9 (by decide) rfl rfl ?_
  refine q_lload_n eJ13_bitCount_95d88_10 rfl ?_
  refine q_ldc2 coJ13_316 eJ13_bitCount_95d88_11 ?_
  refine q_land eJ13_bitCount_95d88_14 ?_
  refine q_lload_n eJ13_bitCount_95d88_15 rfl ?_
  refine q_iconst (v := nI 2) eJ13_bitCount_95d88_16 (by decide) ?_
  refine q_lushr eJ13_bitCount_95d88_17 ?_
  refine q_ldc2 coJ13_316 eJ13_bitCount_95d88_18 ?_
  refine q_land eJ13_bitCount_95d88_21 ?_
  refine q_ladd eJ13_bitCount_95d88_22 ?_
  have hw := hw _ rfl
  refine x_lstore_n (ls' := [_, _]) eJ13_bitCount_95d88_23 (by decide) rfl rfl ?_
  refine q_lload_n eJ13_bitCount_95d88_24 rfl ?_
  refine q_lload_n eJ13_bitCount_95d88_25 rfl ?_
  refine q_iconst (v := nI 4) eJ13_bitCount_95d88_26 (by decide) ?_
  refine q_lushr eJ13_bitCount_95d88_27 ?_
  refine q_ladd eJ13_bitCount_95d88_28 ?_
  refine q_ldc2 coJ13_318 eJ13_bitCount_95d88_29 ?_
  refine q_land eJ13_bitCount_95d88_32 ?_
  have hw := hw _ rfl
  refine x_lstore_n (ls' := [_, _]) eJ13_bitCount_95d88_33 (by decide) rfl rfl ?_
  refine q_lload_n eJ13_bitCount_95d88_34 rfl ?_
  refine q_lload_n eJ13_bitCount_95d88_35 rfl ?_
  refine q_bipush (v := nI 8) eJ13_bitCount_95d88_36 (by decide) ?_
  refine q_lushr eJ13_bitCount_95d88_38 ?_
  refine q_ladd eJ13_bitCount_95d88_39 ?_
  have hw := hw _ rfl
  refine x_lstore_n (ls' := [_, _]) eJ13_bitCount_95d88_40 (by decide) rfl rfl ?_
  refine q_lload_n eJ13_bitCount_95d88_41 rfl ?_
  refine q_lload_n eJ13_bitCount_95d88_42 rfl ?_
  refine q_bipush (v := nI 16) eJ13_bitCount_95d88_43 (by decide) ?_
  refine q_lushr eJ13_bitCount_95d88_45 ?_
  refine q_ladd eJ13_bitCount_95d88_46 ?_
  have hw := hw _ rfl
  refine x_lstore_n (ls' := [_, _]) eJ13_bitCount_95d88_47 (by decide) rfl rfl ?_
  refine q_lload_n eJ13_bitCount_95d88_48 rfl ?_
  refine q_lload_n eJ13_bitCount_95d88_49 rfl ?_
  refine q_bipush (v := nI 32) eJ13_bitCount_95d88_50 (by decide) ?_
  refine q_lushr eJ13_bitCount_95d88_52 ?_
  refine q_ladd eJ13_bitCount_95d88_53 ?_
  have hw := hw _ rfl
  refine x_lstore_n (ls' := [_, _]) eJ13_bitCount_95d88_54 (by decide) rfl rfl ?_
  refine q_lload_n eJ13_bitCount_95d88_55 rfl ?_
  refine q_l2i eJ13_bitCount_95d88_56 ?_
  refine q_bipush (v := nI 127) eJ13_bitCount_95d88_57 (by decide) ?_
  refine q_iand eJ13_bitCount_95d88_59 ?_
  exact q_ret rfl eJ13_bitCount_95d88_60 ⟨_, rfl, hw⟩
def wX4_ringCount (x0 : Nat) (x1 : Int32) (h : MH) (Q : Int32 → MH → Prop) : Prop := hS h x0 = (1, 4) ∧ ∃ a2, hR h x0 9 = some a2 ∧ ∃ n5, hS h a2 = (3, n5) ∧ vp_in (x1) n5 ∧ wJ13_bitCount_95d88 (hL h a2 (x1).toNatClampNeg) h (fun r7 h8 => Q (r7) h8)
set_option maxHeartbeats 4000000 in
set_option maxRecDepth 100000 in
theorem gX4_ringCount (x0 : Nat) (x1 : Int32) (h : MH) (Q : Int32 → MH → Prop) (hw : wX4_ringCount x0 x1 h Q) : Cm MX4_ringCount 1 0 0 [.ref (x0), .int (x1)] h (pI Q) := by
  refine cm_of [some (.ref (x0)), some (.int (x1))] rfl pnX4 (Nat.le_of_ble_eq_true rfl) rfl ?_
  unfold wX4_ringCount at hw
  refine q_aload_nr eX4_ringCount_0 rfl ?_
  obtain ⟨hs1, hw⟩ := hw
  obtain ⟨a2, hr3, hw⟩ := hw
  refine q_getR flX4_40 rfl hs1 hr3 eX4_ringCount_1 ?_
  refine q_iload_n eX4_ringCount_4 rfl ?_
  obtain ⟨n5, hs4, hw⟩ := hw
  obtain ⟨hi6, hw⟩ := hw
  refine q_lald hs4 hi6 eX4_ringCount_5 ?_
  refine q_callS (b := 0) (t := 0) (gJ13_bitCount_95d88 _ _ _ hw) mlX4_113 kJ13_bitCount_95d88 sJ13_bitCount_95d88 rfl (by decide) rfl (Nat.le_of_ble_eq_true rfl) eX4_ringCount_6 (kI fun r7 h8 hw => ?_)
  exact q_ret rfl eX4_ringCount_9 ⟨_, rfl, hw⟩
def wX0_lookAt_64 (Q : MH → Prop) : Nat → Nat → Int32 → MH → Prop
  | 0, _, _, _ => False
  | n + 1, x0, x3, h => hS h x0 = (1, 0) ∧ (hI h x0 2 ≤ x3 → Q h) ∧ (¬ (hI h x0 2 ≤ x3) → ∃ a17, hR h x0 0 = some a17 ∧ hS h a17 = (1, 4) ∧ wX4_cycleOf a17 (hI h x0 1) x3 h (fun r20 h21 => (r20 < 0 → wX0_lookAt_64 Q n x0 (x3 + nI 1) h21) ∧ (¬ (r20 < 0) → hS h21 x0 = (1, 0) ∧ ∃ a23, hR h21 x0 3 = some a23 ∧ ∃ a25, hR h21 x0 0 = some a25 ∧ hS h21 a25 = (1, 4) ∧ ∃ a28, hR h21 a25 11 = some a28 ∧ ∃ n31, hS h21 a28 = (2, n31) ∧ vp_in (r20) n31 ∧ ∃ n34, hS h21 a23 = (2, n34) ∧ vp_in (x3) n34 ∧ ∀ h36, h36 = sI h21 a23 (x3).toNatClampNeg (hI h21 a28 (r20).toNatClampNeg) → ∃ a37, hR h36 x0 4 = some a37 ∧ ∃ a39, hR h36 a25 13 = some a39 ∧ ∃ n42, hS h36 a39 = (2, n42) ∧ vp_in (r20) n42 ∧ ∃ n45, hS h36 a37 = (2, n45) ∧ vp_in (x3) n45 ∧ ∀ h47, h47 = sI h36 a37 (x3).toNatClampNeg (hI h36 a39 (r20).toNatClampNeg) → ∃ a48, hR h47 x0 5 = some a48 ∧ wX4_priceOf a25 r20 (hI h47 x0 1) h47 (fun r50 h51 => ∃ n53, hS h51 a48 = (2, n53) ∧ vp_in (x3) n53 ∧ ∀ h55, h55 = sI h51 a48 (x3).toNatClampNeg (r50) → hS h55 x0 = (1, 0) ∧ ∃ a57, hR h55 x0 3 = some a57 ∧ ∃ n60, hS h55 a57 = (2, n60) ∧ vp_in (x3) n60 ∧ ∃ a62, hR h55 x0 4 = some a62 ∧ ∃ n65, hS h55 a62 = (2, n65) ∧ vp_in (x3) n65 ∧ ∀ h67, h67 = sI h55 x0 6 ((hI h55 x0 6 ||| (hI h55 a57 (x3).toNatClampNeg ||| hI h55 a62 (x3).toNatClampNeg))) → wX0_lookAt_64 Q n x0 (x3 + nI 1) h67))))
set_option maxHeartbeats 4000000 in
set_option maxRecDepth 100000 in
theorem tX0_lookAt_64 {Q : MH → Prop} : ∀ (n : Nat) (h : MH) (x0 : Nat) (x3 : Int32), wX0_lookAt_64 Q n x0 x3 h → Wm MX0_lookAt 2 0 0 64 [some (.ref (x0)), none, none, some (.int (x3)), none] [] h (pV Q) := by
  intro n
  induction n with
  | zero => intro h x0 x3 hw; exact hw.elim
  | succ n ih =>
    intro h x0 x3 hw
    unfold wX0_lookAt_64 at hw
    refine q_iload_n eX0_lookAt_64 rfl ?_
    refine q_aload_nr eX0_lookAt_65 rfl ?_
    obtain ⟨hs16, hw⟩ := hw
    refine q_getI flX0_52 rfl hs16 eX0_lookAt_66 ?_
    obtain ⟨hw1, hw2⟩ := hw
    refine q_icmp_ge (tgt := 170) eX0_lookAt_69 (by decide) (fun c => ?_) (fun c => ?_)
    · have hw := hw1 c
      exact q_retV rfl eX0_lookAt_170 ⟨rfl, hw⟩
    · have hw := hw2 c
      refine q_aload_nr eX0_lookAt_72 rfl ?_
      obtain ⟨a17, hr18, hw⟩ := hw
      refine q_getR flX0_32 rfl hs16 hr18 eX0_lookAt_73 ?_
      refine q_aload_nr eX0_lookAt_76 rfl ?_
      refine q_getI flX0_36 rfl hs16 eX0_lookAt_77 ?_
      refine q_iload_n eX0_lookAt_80 rfl ?_
      obtain ⟨hs19, hw⟩ := hw
      refine q_callV (b := 0) (t := 0) (gX4_cycleOf _ _ _ _ _ hw) mlX0_58 kX4_cycleOf vX4_cycleOf rfl hs19 ⟨rfl, rfl⟩ (by decide) rfl (Nat.le_of_ble_eq_true rfl) eX0_lookAt_81 (kI fun r20 h21 hw => ?_)
      refine x_istore (ls' := [_, _, _, _, _]) eX0_lookAt_84 (by decide) rfl rfl ?_
      refine q_iload eX0_lookAt_86 rfl ?_
      obtain ⟨hw1, hw2⟩ := hw
      refine q_if_lt (tgt := 164) eX0_lookAt_88 (by decide) (fun c => ?_) (fun c => ?_)
      · have hw := hw1 c
        refine x_iinc (v := (x3 + nI 1)) (ls' := [_, _, _, _, _]) eX0_lookAt_164 rfl rfl rfl rfl ?_
        refine q_goto (tgt := 64) eX0_lookAt_167 (by decide) ?_
        refine q_le (ls' := [some _, none, none, some _, none]) ⟨rfl, rfl, trivial⟩ ?_
        exact ih _ _ _ hw
      · have hw := hw2 c
        refine q_aload_nr eX0_lookAt_91 rfl ?_
        obtain ⟨hs22, hw⟩ := hw
        obtain ⟨a23, hr24, hw⟩ := hw
        refine q_getR flX0_9 rfl hs22 hr24 eX0_lookAt_92 ?_
        refine q_iload_n eX0_lookAt_95 rfl ?_
        refine q_aload_nr eX0_lookAt_96 rfl ?_
        obtain ⟨a25, hr26, hw⟩ := hw
        refine q_getR flX0_32 rfl hs22 hr26 eX0_lookAt_97 ?_
        obtain ⟨hs27, hw⟩ := hw
        obtain ⟨a28, hr29, hw⟩ := hw
        refine q_getR flX0_61 rfl hs27 hr29 eX0_lookAt_100 ?_
        refine q_iload eX0_lookAt_103 rfl ?_
        obtain ⟨n31, hs30, hw⟩ := hw
        obtain ⟨hi32, hw⟩ := hw
        refine q_iald hs30 hi32 eX0_lookAt_105 ?_
        obtain ⟨n34, hs33, hw⟩ := hw
        obtain ⟨hi35, hw⟩ := hw
        have hw := hw _ rfl
        refine q_iast hs33 hi35 eX0_lookAt_106 ?_
        refine q_aload_nr eX0_lookAt_107 rfl ?_
        obtain ⟨a37, hr38, hw⟩ := hw
        refine q_getR flX0_15 rfl hs22 hr38 eX0_lookAt_108 ?_
        refine q_iload_n eX0_lookAt_111 rfl ?_
        refine q_aload_nr eX0_lookAt_112 rfl ?_
        refine q_getR flX0_32 rfl hs22 hr26 eX0_lookAt_113 ?_
        obtain ⟨a39, hr40, hw⟩ := hw
        refine q_getR flX0_62 rfl hs27 hr40 eX0_lookAt_116 ?_
        refine q_iload eX0_lookAt_119 rfl ?_
        obtain ⟨n42, hs41, hw⟩ := hw
        obtain ⟨hi43, hw⟩ := hw
        refine q_iald hs41 hi43 eX0_lookAt_121 ?_
        obtain ⟨n45, hs44, hw⟩ := hw
        obtain ⟨hi46, hw⟩ := hw
        have hw := hw _ rfl
        refine q_iast hs44 hi46 eX0_lookAt_122 ?_
        refine q_aload_nr eX0_lookAt_123 rfl ?_
        obtain ⟨a48, hr49, hw⟩ := hw
        refine q_getR flX0_18 rfl hs22 hr49 eX0_lookAt_124 ?_
        refine q_iload_n eX0_lookAt_127 rfl ?_
        refine q_aload_nr eX0_lookAt_128 rfl ?_
        refine q_getR flX0_32 rfl hs22 hr26 eX0_lookAt_129 ?_
        refine q_iload eX0_lookAt_132 rfl ?_
        refine q_aload_nr eX0_lookAt_134 rfl ?_
        refine q_getI flX0_36 rfl hs22 eX0_lookAt_135 ?_
        refine q_callV (b := 0) (t := 0) (gX4_priceOf _ _ _ _ _ hw) mlX0_65 kX4_priceOf vX4_priceOf rfl hs27 ⟨rfl, rfl⟩ (by decide) rfl (Nat.le_of_ble_eq_true rfl) eX0_lookAt_138 (kI fun r50 h51 hw => ?_)
        obtain ⟨n53, hs52, hw⟩ := hw
        obtain ⟨hi54, hw⟩ := hw
        have hw := hw _ rfl
        refine q_iast hs52 hi54 eX0_lookAt_141 ?_
        refine q_aload_nr eX0_lookAt_142 rfl ?_
        refine q_dup eX0_lookAt_143 rfl ?_
        obtain ⟨hs56, hw⟩ := hw
        refine q_getI flX0_55 rfl hs56 eX0_lookAt_144 ?_
        refine q_aload_nr eX0_lookAt_147 rfl ?_
        obtain ⟨a57, hr58, hw⟩ := hw
        refine q_getR flX0_9 rfl hs56 hr58 eX0_lookAt_148 ?_
        refine q_iload_n eX0_lookAt_151 rfl ?_
        obtain ⟨n60, hs59, hw⟩ := hw
        obtain ⟨hi61, hw⟩ := hw
        refine q_iald hs59 hi61 eX0_lookAt_152 ?_
        refine q_aload_nr eX0_lookAt_153 rfl ?_
        obtain ⟨a62, hr63, hw⟩ := hw
        refine q_getR flX0_15 rfl hs56 hr63 eX0_lookAt_154 ?_
        refine q_iload_n eX0_lookAt_157 rfl ?_
        obtain ⟨n65, hs64, hw⟩ := hw
        obtain ⟨hi66, hw⟩ := hw
        refine q_iald hs64 hi66 eX0_lookAt_158 ?_
        refine q_ior eX0_lookAt_159 ?_
        refine q_ior eX0_lookAt_160 ?_
        have hw := hw _ rfl
        refine q_putI (fwX0_55 _) rfl hs56 eX0_lookAt_161 ?_
        refine x_iinc (v := (x3 + nI 1)) (ls' := [_, _, _, _, _]) eX0_lookAt_164 rfl rfl rfl rfl ?_
        refine q_goto (tgt := 64) eX0_lookAt_167 (by decide) ?_
        refine q_le (ls' := [some _, none, none, some _, none]) ⟨rfl, rfl, trivial⟩ ?_
        exact ih _ _ _ hw
def wX0_lookAt_17 (Q : MH → Prop) (x0 : Nat) (x1 : Nat) (x2 : Int32) (h : MH) : Prop := hS h x0 = (1, 0) ∧ ∀ h5, h5 = sR h x0 0 (some x1) → ∀ h6, h6 = sI h5 x0 1 (x2) → ∃ a7, hR h6 x0 0 = some a7 ∧ hS h6 a7 = (1, 4) ∧ wX4_ringCount a7 (hI h6 x0 1) h6 (fun r10 h11 => hS h11 x0 = (1, 0) ∧ ∀ h13, h13 = sI h11 x0 2 ((if r10 < nI 40 then r10 else nI 40)) → ∀ h14, h14 = sI h13 x0 6 (nI 0) → ∀ h15, h15 = sL h14 x0 8 ((hL h14 x0 8 + (1 : Int64))) → ∃ m68, wX0_lookAt_64 Q m68 x0 (nI 0) h15)
set_option maxHeartbeats 4000000 in
set_option maxRecDepth 100000 in
theorem tX0_lookAt_17 {Q : MH → Prop} (h : MH) (x0 : Nat) (x1 : Nat) (x2 : Int32) (hw : wX0_lookAt_17 Q x0 x1 x2 h) : Wm MX0_lookAt 2 0 0 17 [some (.ref (x0)), some (.ref (x1)), some (.int (x2)), none, none] [] h (pV Q) := by
  unfold wX0_lookAt_17 at hw
  refine q_aload_nr eX0_lookAt_17 rfl ?_
  refine q_aload_nr eX0_lookAt_18 rfl ?_
  obtain ⟨hs4, hw⟩ := hw
  have hw := hw _ rfl
  refine q_putR (fwX0_32 _) rfl hs4 eX0_lookAt_19 ?_
  refine q_aload_nr eX0_lookAt_22 rfl ?_
  refine q_iload_n eX0_lookAt_23 rfl ?_
  have hw := hw _ rfl
  refine q_putI (fwX0_36 _) rfl hs4 eX0_lookAt_24 ?_
  refine q_aload_nr eX0_lookAt_27 rfl ?_
  refine q_bipush (v := nI 40) eX0_lookAt_28 (by decide) ?_
  refine q_aload_nr eX0_lookAt_30 rfl ?_
  obtain ⟨a7, hr8, hw⟩ := hw
  refine q_getR flX0_32 rfl hs4 hr8 eX0_lookAt_31 ?_
  refine q_aload_nr eX0_lookAt_34 rfl ?_
  refine q_getI flX0_36 rfl hs4 eX0_lookAt_35 ?_
  obtain ⟨hs9, hw⟩ := hw
  refine q_callV (b := 0) (t := 0) (gX4_ringCount _ _ _ _ hw) mlX0_40 kX4_ringCount vX4_ringCount rfl hs9 ⟨rfl, rfl⟩ (by decide) rfl (Nat.le_of_ble_eq_true rfl) eX0_lookAt_38 (kI fun r10 h11 hw => ?_)
  refine q_mmin mlX0_46 sMmin iNMath cMmin (by decide) (Nat.le_of_ble_eq_true rfl) eX0_lookAt_41 ?_
  obtain ⟨hs12, hw⟩ := hw
  have hw := hw _ rfl
  refine q_putI (fwX0_52 _) rfl hs12 eX0_lookAt_44 ?_
  refine q_aload_nr eX0_lookAt_47 rfl ?_
  refine q_iconst (v := nI 0) eX0_lookAt_48 (by decide) ?_
  have hw := hw _ rfl
  refine q_putI (fwX0_55 _) rfl hs12 eX0_lookAt_49 ?_
  refine q_aload_nr eX0_lookAt_52 rfl ?_
  refine q_dup eX0_lookAt_53 rfl ?_
  refine q_getL flX0_25 rfl hs12 eX0_lookAt_54 ?_
  refine q_lconst (v := (1 : Int64)) eX0_lookAt_57 (by decide) ?_
  refine q_ladd eX0_lookAt_58 ?_
  have hw := hw _ rfl
  refine q_putL (fwX0_25 _) rfl hs12 eX0_lookAt_59 ?_
  refine q_iconst (v := nI 0) eX0_lookAt_62 (by decide) ?_
  refine x_istore_n (ls' := [_, _, _, _, _]) eX0_lookAt_63 (by decide) rfl rfl ?_
  refine q_le (ls' := [some _, none, none, some _, none]) ⟨rfl, rfl, trivial⟩ ?_
  obtain ⟨m68, hw⟩ := hw
  exact tX0_lookAt_64 m68 _ _ _ hw
def wX0_lookAt (x0 : Nat) (x1 : Nat) (x2 : Int32) (h : MH) (Q : MH → Prop) : Prop := hS h x0 = (1, 0) ∧ (∀ x, hR h x0 0 = some x → 128 ≤ x) ∧ (∀ x, some x1 = some x → 128 ≤ x) ∧ (¬ (hR h x0 0 = some x1) → wX0_lookAt_17 Q x0 x1 x2 h) ∧ (hR h x0 0 = some x1 → (¬ (hI h x0 1 = x2) → wX0_lookAt_17 Q x0 x1 x2 h) ∧ (hI h x0 1 = x2 → Q h))
set_option maxHeartbeats 4000000 in
set_option maxRecDepth 100000 in
theorem gX0_lookAt (x0 : Nat) (x1 : Nat) (x2 : Int32) (h : MH) (Q : MH → Prop) (hw : wX0_lookAt x0 x1 x2 h Q) : Cm MX0_lookAt 2 0 0 [.ref (x0), .ref (x1), .int (x2)] h (pV Q) := by
  refine cm_of [some (.ref (x0)), some (.ref (x1)), some (.int (x2)), none, none] rfl pnX0 (Nat.le_of_ble_eq_true rfl) rfl ?_
  unfold wX0_lookAt at hw
  refine q_aload_nr eX0_lookAt_0 rfl ?_
  obtain ⟨hs1, hw⟩ := hw
  refine q_getRq flX0_32 rfl hs1 eX0_lookAt_1 ?_
  refine q_aload_nr eX0_lookAt_4 rfl ?_
  obtain ⟨hq2, hq3, hw1, hw2⟩ := hw
  refine q_acmp_ne (rx := hR h x0 0) (ry := some x1) (tgt := 17) hq2 hq3 eX0_lookAt_5 (by decide) (fun c => ?_) (fun c => ?_)
  · have hw := hw1 c
    refine q_le (ls' := [some _, some _, some _, none, none]) ⟨rfl, rfl, rfl, trivial⟩ ?_
    exact tX0_lookAt_17 _ _ _ _ hw
  · have hw := hw2 c
    refine q_aload_nr eX0_lookAt_8 rfl ?_
    refine q_getI flX0_36 rfl hs1 eX0_lookAt_9 ?_
    refine q_iload_n eX0_lookAt_12 rfl ?_
    obtain ⟨hw1, hw2⟩ := hw
    refine q_icmp_ne (tgt := 17) eX0_lookAt_13 (by decide) (fun c => ?_) (fun c => ?_)
    · have hw := hw1 c
      refine q_le (ls' := [some _, some _, some _, none, none]) ⟨rfl, rfl, rfl, trivial⟩ ?_
      exact tX0_lookAt_17 _ _ _ _ hw
    · have hw := hw2 c
      exact q_retV rfl eX0_lookAt_16 ⟨rfl, hw⟩
def wX0_onceBehind (x0 : Nat) (x1 : Int32) (x2 : Int32) (x3 : Int32) (h : MH) (Q : Int32 → MH → Prop) : Prop := hS h x0 = (1, 0) ∧ ∃ a2, hR h x0 3 = some a2 ∧ ∃ n5, hS h a2 = (2, n5) ∧ vp_in (x1) n5 ∧ ∃ a7, hR h x0 4 = some a7 ∧ ∃ n10, hS h a7 = (2, n10) ∧ vp_in (x1) n10 ∧ vp_in (x1) n5 ∧ Q (((x2 &&& ((hI h a2 (x1).toNatClampNeg ||| hI h a7 (x1).toNatClampNeg) ^^^ (-1 : Int32))) ||| (x3 &&& hI h a2 (x1).toNatClampNeg))) h
set_option maxHeartbeats 4000000 in
set_option maxRecDepth 100000 in
theorem gX0_onceBehind (x0 : Nat) (x1 : Int32) (x2 : Int32) (x3 : Int32) (h : MH) (Q : Int32 → MH → Prop) (hw : wX0_onceBehind x0 x1 x2 x3 h Q) : Cm MX0_onceBehind 0 0 0 [.ref (x0), .int (x1), .int (x2), .int (x3)] h (pI Q) := by
  refine cm_of [some (.ref (x0)), some (.int (x1)), some (.int (x2)), some (.int (x3))] rfl pnX0 (Nat.le_of_ble_eq_true rfl) rfl ?_
  unfold wX0_onceBehind at hw
  refine q_iload_n eX0_onceBehind_0 rfl ?_
  refine q_aload_nr eX0_onceBehind_1 rfl ?_
  obtain ⟨hs1, hw⟩ := hw
  obtain ⟨a2, hr3, hw⟩ := hw
  refine q_getR flX0_9 rfl hs1 hr3 eX0_onceBehind_2 ?_
  refine q_iload_n eX0_onceBehind_5 rfl ?_
  obtain ⟨n5, hs4, hw⟩ := hw
  obtain ⟨hi6, hw⟩ := hw
  refine q_iald hs4 hi6 eX0_onceBehind_6 ?_
  refine q_aload_nr eX0_onceBehind_7 rfl ?_
  obtain ⟨a7, hr8, hw⟩ := hw
  refine q_getR flX0_15 rfl hs1 hr8 eX0_onceBehind_8 ?_
  refine q_iload_n eX0_onceBehind_11 rfl ?_
  obtain ⟨n10, hs9, hw⟩ := hw
  obtain ⟨hi11, hw⟩ := hw
  refine q_iald hs9 hi11 eX0_onceBehind_12 ?_
  refine q_ior eX0_onceBehind_13 ?_
  refine q_iconst (v := (-1 : Int32)) eX0_onceBehind_14 (by decide) ?_
  refine q_ixor eX0_onceBehind_15 ?_
  refine q_iand eX0_onceBehind_16 ?_
  refine q_iload_n eX0_onceBehind_17 rfl ?_
  refine q_aload_nr eX0_onceBehind_18 rfl ?_
  refine q_getR flX0_9 rfl hs1 hr3 eX0_onceBehind_19 ?_
  refine q_iload_n eX0_onceBehind_22 rfl ?_
  obtain ⟨hi12, hw⟩ := hw
  refine q_iald hs4 hi12 eX0_onceBehind_23 ?_
  refine q_iand eX0_onceBehind_24 ?_
  refine q_ior eX0_onceBehind_25 ?_
  exact q_ret rfl eX0_onceBehind_26 ⟨_, rfl, hw⟩
def wX0_twiceBehind (x0 : Nat) (x1 : Int32) (x2 : Int32) (h : MH) (Q : Int32 → MH → Prop) : Prop := hS h x0 = (1, 0) ∧ ∃ a2, hR h x0 3 = some a2 ∧ ∃ n5, hS h a2 = (2, n5) ∧ vp_in (x1) n5 ∧ ∃ a7, hR h x0 4 = some a7 ∧ ∃ n10, hS h a7 = (2, n10) ∧ vp_in (x1) n10 ∧ Q ((x2 &&& ((hI h a2 (x1).toNatClampNeg ||| hI h a7 (x1).toNatClampNeg) ^^^ (-1 : Int32)))) h
set_option maxHeartbeats 4000000 in
set_option maxRecDepth 100000 in
theorem gX0_twiceBehind (x0 : Nat) (x1 : Int32) (x2 : Int32) (h : MH) (Q : Int32 → MH → Prop) (hw : wX0_twiceBehind x0 x1 x2 h Q) : Cm MX0_twiceBehind 0 0 0 [.ref (x0), .int (x1), .int (x2)] h (pI Q) := by
  refine cm_of [some (.ref (x0)), some (.int (x1)), some (.int (x2))] rfl pnX0 (Nat.le_of_ble_eq_true rfl) rfl ?_
  unfold wX0_twiceBehind at hw
  refine q_iload_n eX0_twiceBehind_0 rfl ?_
  refine q_aload_nr eX0_twiceBehind_1 rfl ?_
  obtain ⟨hs1, hw⟩ := hw
  obtain ⟨a2, hr3, hw⟩ := hw
  refine q_getR flX0_9 rfl hs1 hr3 eX0_twiceBehind_2 ?_
  refine q_iload_n eX0_twiceBehind_5 rfl ?_
  obtain ⟨n5, hs4, hw⟩ := hw
  obtain ⟨hi6, hw⟩ := hw
  refine q_iald hs4 hi6 eX0_twiceBehind_6 ?_
  refine q_aload_nr eX0_twiceBehind_7 rfl ?_
  obtain ⟨a7, hr8, hw⟩ := hw
  refine q_getR flX0_15 rfl hs1 hr8 eX0_twiceBehind_8 ?_
  refine q_iload_n eX0_twiceBehind_11 rfl ?_
  obtain ⟨n10, hs9, hw⟩ := hw
  obtain ⟨hi11, hw⟩ := hw
  refine q_iald hs9 hi11 eX0_twiceBehind_12 ?_
  refine q_ior eX0_twiceBehind_13 ?_
  refine q_iconst (v := (-1 : Int32)) eX0_twiceBehind_14 (by decide) ?_
  refine q_ixor eX0_twiceBehind_15 ?_
  refine q_iand eX0_twiceBehind_16 ?_
  exact q_ret rfl eX0_twiceBehind_17 ⟨_, rfl, hw⟩
def wX0_paidFrom_24 (Q : Int32 → MH → Prop) (PX0_leastPrice : Nat → Int32 → Int32 → Int32 → Int32 → MH → (Int32 → MH → Prop) → Prop) (x0 : Nat) (x1 : Int32) (x3 : Int32) (x4 : Int32) (x5 : Int32) (x6 : Int32) (s0 : Int32) (h : MH) : Prop := hS h x0 = (1, 0) ∧ wX0_twiceBehind x0 x1 x3 h (fun r5 h6 => hS h6 x0 = (1, 0) ∧ PX0_leastPrice x0 x6 r5 x4 (x5 + nI 1) h6 (fun r8 h9 => Q ((s0 + r8)) h9))
set_option maxHeartbeats 4000000 in
set_option maxRecDepth 100000 in
theorem tX0_paidFrom_24 {Q : Int32 → MH → Prop} {PX0_leastPrice : Nat → Int32 → Int32 → Int32 → Int32 → MH → (Int32 → MH → Prop) → Prop} {d d2 : Nat} (hd : 2 ≤ d) (hd2 : d2 < d) (hPX0_leastPrice : ∀ (y0 : Nat) (y1 : Int32) (y2 : Int32) (y3 : Int32) (y4 : Int32) (h : MH) (Q : Int32 → MH → Prop), PX0_leastPrice y0 y1 y2 y3 y4 h Q → Cm MX0_leastPrice d2 0 0 [.ref (y0), .int (y1), .int (y2), .int (y3), .int (y4)] h (pI Q)) (h : MH) (x0 : Nat) (x1 : Int32) (x3 : Int32) (x4 : Int32) (x5 : Int32) (x6 : Int32) (s0 : Int32) (hw : wX0_paidFrom_24 Q PX0_leastPrice x0 x1 x3 x4 x5 x6 s0 h) : Wm MX0_paidFrom d 0 0 24 [some (.ref (x0)), some (.int (x1)), none, some (.int (x3)), some (.int (x4)), some (.int (x5)), some (.int (x6))] [.int (s0)] h (pI Q) := by
  unfold wX0_paidFrom_24 at hw
  refine q_aload_nr eX0_paidFrom_24 rfl ?_
  refine q_iload eX0_paidFrom_25 rfl ?_
  refine q_aload_nr eX0_paidFrom_27 rfl ?_
  refine q_iload_n eX0_paidFrom_28 rfl ?_
  refine q_iload_n eX0_paidFrom_29 rfl ?_
  obtain ⟨hs4, hw⟩ := hw
  refine q_callV (b := 0) (t := 0) (gX0_twiceBehind _ _ _ _ _ hw) mlX0_92 kX0_twiceBehind vX0_twiceBehind rfl hs4 ⟨rfl, rfl⟩ (by omega) rfl (Nat.le_of_ble_eq_true rfl) eX0_paidFrom_30 (kI fun r5 h6 hw => ?_)
  refine q_iload eX0_paidFrom_33 rfl ?_
  refine q_iload eX0_paidFrom_35 rfl ?_
  refine q_iconst (v := nI 1) eX0_paidFrom_37 (by decide) ?_
  refine q_iadd eX0_paidFrom_38 ?_
  obtain ⟨hs7, hw⟩ := hw
  refine q_callV (b := 0) (t := 0) (hPX0_leastPrice _ _ _ _ _ _ _ hw) mlX0_99 kX0_leastPrice vX0_leastPrice rfl hs7 ⟨rfl, rfl⟩ (by omega) rfl (Nat.le_of_ble_eq_true rfl) eX0_paidFrom_39 (kI fun r8 h9 hw => ?_)
  refine q_iadd eX0_paidFrom_42 ?_
  exact q_ret rfl eX0_paidFrom_43 ⟨_, rfl, hw⟩
def wX0_paidFrom (PX0_leastPrice : Nat → Int32 → Int32 → Int32 → Int32 → MH → (Int32 → MH → Prop) → Prop) (x0 : Nat) (x1 : Int32) (x2 : Int32) (x3 : Int32) (x4 : Int32) (x5 : Int32) (h : MH) (Q : Int32 → MH → Prop) : Prop := hS h x0 = (1, 0) ∧ wX0_onceBehind x0 x1 x2 x3 h (fun r2 h3 => (¬ (x4 = 0) → wX0_paidFrom_24 Q PX0_leastPrice x0 x1 x3 x4 x5 r2 (nI 1) h3) ∧ (x4 = 0 → hS h3 x0 = (1, 0) ∧ ∃ a11, hR h3 x0 5 = some a11 ∧ ∃ n14, hS h3 a11 = (2, n14) ∧ vp_in (x1) n14 ∧ wX0_paidFrom_24 Q PX0_leastPrice x0 x1 x3 x4 x5 r2 (hI h3 a11 (x1).toNatClampNeg) h3))
set_option maxHeartbeats 4000000 in
set_option maxRecDepth 100000 in
theorem gX0_paidFrom {PX0_leastPrice : Nat → Int32 → Int32 → Int32 → Int32 → MH → (Int32 → MH → Prop) → Prop} {d d2 : Nat} (hd : 2 ≤ d) (hd2 : d2 < d) (hPX0_leastPrice : ∀ (y0 : Nat) (y1 : Int32) (y2 : Int32) (y3 : Int32) (y4 : Int32) (h : MH) (Q : Int32 → MH → Prop), PX0_leastPrice y0 y1 y2 y3 y4 h Q → Cm MX0_leastPrice d2 0 0 [.ref (y0), .int (y1), .int (y2), .int (y3), .int (y4)] h (pI Q)) (x0 : Nat) (x1 : Int32) (x2 : Int32) (x3 : Int32) (x4 : Int32) (x5 : Int32) (h : MH) (Q : Int32 → MH → Prop) (hw : wX0_paidFrom PX0_leastPrice x0 x1 x2 x3 x4 x5 h Q) : Cm MX0_paidFrom d 0 0 [.ref (x0), .int (x1), .int (x2), .int (x3), .int (x4), .int (x5)] h (pI Q) := by
  refine cm_of [some (.ref (x0)), some (.int (x1)), some (.int (x2)), some (.int (x3)), some (.int (x4)), some (.int (x5)), none] rfl pnX0 (Nat.le_of_ble_eq_true rfl) rfl ?_
  unfold wX0_paidFrom at hw
  refine q_aload_nr eX0_paidFrom_0 rfl ?_
  refine q_iload_n eX0_paidFrom_1 rfl ?_
  refine q_iload_n eX0_paidFrom_2 rfl ?_
  refine q_iload_n eX0_paidFrom_3 rfl ?_
  obtain ⟨hs1, hw⟩ := hw
  refine q_callV (b := 0) (t := 0) (gX0_onceBehind _ _ _ _ _ _ hw) mlX0_89 kX0_onceBehind vX0_onceBehind rfl hs1 ⟨rfl, rfl⟩ (by omega) rfl (Nat.le_of_ble_eq_true rfl) eX0_paidFrom_4 (kI fun r2 h3 hw => ?_)
  refine x_istore (ls' := [_, _, _, _, _, _, _]) eX0_paidFrom_7 (by decide) rfl rfl ?_
  refine q_iload eX0_paidFrom_9 rfl ?_
  obtain ⟨hw1, hw2⟩ := hw
  refine q_if_ne (tgt := 23) eX0_paidFrom_11 (by decide) (fun c => ?_) (fun c => ?_)
  · have hw := hw1 c
    refine q_iconst (v := nI 1) eX0_paidFrom_23 (by decide) ?_
    refine q_le (ls' := [some _, some _, none, some _, some _, some _, some _]) ⟨rfl, rfl, rfl, rfl, rfl, rfl, trivial⟩ ?_
    exact tX0_paidFrom_24 hd hd2 hPX0_leastPrice _ _ _ _ _ _ _ _ hw
  · have hw := hw2 c
    refine q_aload_nr eX0_paidFrom_14 rfl ?_
    obtain ⟨hs10, hw⟩ := hw
    obtain ⟨a11, hr12, hw⟩ := hw
    refine q_getR flX0_18 rfl hs10 hr12 eX0_paidFrom_15 ?_
    refine q_iload_n eX0_paidFrom_18 rfl ?_
    obtain ⟨n14, hs13, hw⟩ := hw
    obtain ⟨hi15, hw⟩ := hw
    refine q_iald hs13 hi15 eX0_paidFrom_19 ?_
    refine q_goto (tgt := 24) eX0_paidFrom_20 (by decide) ?_
    refine q_le (ls' := [some _, some _, none, some _, some _, some _, some _]) ⟨rfl, rfl, rfl, rfl, rfl, rfl, trivial⟩ ?_
    exact tX0_paidFrom_24 hd hd2 hPX0_leastPrice _ _ _ _ _ _ _ _ hw
def wX0_firstOfLeast_17 (Q : Int32 → MH → Prop) : Nat → Nat → Int32 → Int32 → Int32 → Int32 → Int32 → Int32 → Int32 → MH → Prop
  | 0, _, _, _, _, _, _, _, _, _ => False
  | n + 1, x0, x1, x2, x3, x4, x5, x6, x7, h => hS h x0 = (1, 0) ∧ (hI h x0 2 ≤ x7 → Q (x6) h) ∧ (¬ (hI h x0 2 ≤ x7) → ∃ a2, hR h x0 3 = some a2 ∧ ∃ n5, hS h a2 = (2, n5) ∧ vp_in (x7) n5 ∧ ∃ a7, hR h x0 4 = some a7 ∧ ∃ n10, hS h a7 = (2, n10) ∧ vp_in (x7) n10 ∧ (((hI h a2 (x7).toNatClampNeg ||| hI h a7 (x7).toNatClampNeg) &&& x4) = 0 → wX0_firstOfLeast_17 Q n x0 x1 x2 x3 x4 x5 x6 (x7 + nI 1) h) ∧ (¬ (((hI h a2 (x7).toNatClampNeg ||| hI h a7 (x7).toNatClampNeg) &&& x4) = 0) → Cm MX0_paidFrom 300 0 0 [.ref (x0), .int (x7), .int (x1), .int (x2), .int (x3), .int (nI 0)] h (pI fun r12 h13 => (x5 ≤ r12 → wX0_firstOfLeast_17 Q n x0 x1 x2 x3 x4 x5 x6 (x7 + nI 1) h13) ∧ (¬ (x5 ≤ r12) → wX0_firstOfLeast_17 Q n x0 x1 x2 x3 x4 r12 x7 (x7 + nI 1) h13))))
set_option maxHeartbeats 4000000 in
set_option maxRecDepth 100000 in
theorem tX0_firstOfLeast_17 {Q : Int32 → MH → Prop} : ∀ (n : Nat) (h : MH) (x0 : Nat) (x1 : Int32) (x2 : Int32) (x3 : Int32) (x4 : Int32) (x5 : Int32) (x6 : Int32) (x7 : Int32), wX0_firstOfLeast_17 Q n x0 x1 x2 x3 x4 x5 x6 x7 h → Wm MX0_firstOfLeast 301 0 0 17 [some (.ref (x0)), some (.int (x1)), some (.int (x2)), some (.int (x3)), some (.int (x4)), some (.int (x5)), some (.int (x6)), some (.int (x7)), none] [] h (pI Q) := by
  intro n
  induction n with
  | zero => intro h x0 x1 x2 x3 x4 x5 x6 x7 hw; exact hw.elim
  | succ n ih =>
    intro h x0 x1 x2 x3 x4 x5 x6 x7 hw
    unfold wX0_firstOfLeast_17 at hw
    refine q_iload eX0_firstOfLeast_17 rfl ?_
    refine q_aload_nr eX0_firstOfLeast_19 rfl ?_
    obtain ⟨hs1, hw⟩ := hw
    refine q_getI flX0_52 rfl hs1 eX0_firstOfLeast_20 ?_
    obtain ⟨hw1, hw2⟩ := hw
    refine q_icmp_ge (tgt := 80) eX0_firstOfLeast_23 (by decide) (fun c => ?_) (fun c => ?_)
    · have hw := hw1 c
      refine q_iload eX0_firstOfLeast_80 rfl ?_
      exact q_ret rfl eX0_firstOfLeast_82 ⟨_, rfl, hw⟩
    · have hw := hw2 c
      refine q_aload_nr eX0_firstOfLeast_26 rfl ?_
      obtain ⟨a2, hr3, hw⟩ := hw
      refine q_getR flX0_9 rfl hs1 hr3 eX0_firstOfLeast_27 ?_
      refine q_iload eX0_firstOfLeast_30 rfl ?_
      obtain ⟨n5, hs4, hw⟩ := hw
      obtain ⟨hi6, hw⟩ := hw
      refine q_iald hs4 hi6 eX0_firstOfLeast_32 ?_
      refine q_aload_nr eX0_firstOfLeast_33 rfl ?_
      obtain ⟨a7, hr8, hw⟩ := hw
      refine q_getR flX0_15 rfl hs1 hr8 eX0_firstOfLeast_34 ?_
      refine q_iload eX0_firstOfLeast_37 rfl ?_
      obtain ⟨n10, hs9, hw⟩ := hw
      obtain ⟨hi11, hw⟩ := hw
      refine q_iald hs9 hi11 eX0_firstOfLeast_39 ?_
      refine q_ior eX0_firstOfLeast_40 ?_
      refine q_iload eX0_firstOfLeast_41 rfl ?_
      refine q_iand eX0_firstOfLeast_43 ?_
      obtain ⟨hw1, hw2⟩ := hw
      refine q_if_eq (tgt := 74) eX0_firstOfLeast_44 (by decide) (fun c => ?_) (fun c => ?_)
      · have hw := hw1 c
        refine x_iinc (v := (x7 + nI 1)) (ls' := [_, _, _, _, _, _, _, _, _]) eX0_firstOfLeast_74 rfl rfl rfl rfl ?_
        refine q_goto (tgt := 17) eX0_firstOfLeast_77 (by decide) ?_
        refine q_le (ls' := [some _, some _, some _, some _, some _, some _, some _, some _, none]) ⟨rfl, rfl, rfl, rfl, rfl, rfl, rfl, rfl, trivial⟩ ?_
        exact ih _ _ _ _ _ _ _ _ _ hw
      · have hw := hw2 c
        refine q_aload_nr eX0_firstOfLeast_47 rfl ?_
        refine q_iload eX0_firstOfLeast_48 rfl ?_
        refine q_iload_n eX0_firstOfLeast_50 rfl ?_
        refine q_iload_n eX0_firstOfLeast_51 rfl ?_
        refine q_iload_n eX0_firstOfLeast_52 rfl ?_
        refine q_iconst (v := nI 0) eX0_firstOfLeast_53 (by decide) ?_
        refine q_callV (b := 0) (t := 0) hw mlX0_95 kX0_paidFrom vX0_paidFrom rfl hs1 ⟨rfl, rfl⟩ (by decide) rfl (Nat.le_of_ble_eq_true rfl) eX0_firstOfLeast_54 (kI fun r12 h13 hw => ?_)
        refine x_istore (ls' := [_, _, _, _, _, _, _, _, _]) eX0_firstOfLeast_57 (by decide) rfl rfl ?_
        refine q_iload eX0_firstOfLeast_59 rfl ?_
        refine q_iload eX0_firstOfLeast_61 rfl ?_
        obtain ⟨hw1, hw2⟩ := hw
        refine q_icmp_ge (tgt := 74) eX0_firstOfLeast_63 (by decide) (fun c => ?_) (fun c => ?_)
        · have hw := hw1 c
          refine x_iinc (v := (x7 + nI 1)) (ls' := [_, _, _, _, _, _, _, _, _]) eX0_firstOfLeast_74 rfl rfl rfl rfl ?_
          refine q_goto (tgt := 17) eX0_firstOfLeast_77 (by decide) ?_
          refine q_le (ls' := [some _, some _, some _, some _, some _, some _, some _, some _, none]) ⟨rfl, rfl, rfl, rfl, rfl, rfl, rfl, rfl, trivial⟩ ?_
          exact ih _ _ _ _ _ _ _ _ _ hw
        · have hw := hw2 c
          refine q_iload eX0_firstOfLeast_66 rfl ?_
          refine x_istore (ls' := [_, _, _, _, _, _, _, _, _]) eX0_firstOfLeast_68 (by decide) rfl rfl ?_
          refine q_iload eX0_firstOfLeast_70 rfl ?_
          refine x_istore (ls' := [_, _, _, _, _, _, _, _, _]) eX0_firstOfLeast_72 (by decide) rfl rfl ?_
          refine x_iinc (v := (x7 + nI 1)) (ls' := [_, _, _, _, _, _, _, _, _]) eX0_firstOfLeast_74 rfl rfl rfl rfl ?_
          refine q_goto (tgt := 17) eX0_firstOfLeast_77 (by decide) ?_
          refine q_le (ls' := [some _, some _, some _, some _, some _, some _, some _, some _, none]) ⟨rfl, rfl, rfl, rfl, rfl, rfl, rfl, rfl, trivial⟩ ?_
          exact ih _ _ _ _ _ _ _ _ _ hw
def wX0_firstOfLeast (x0 : Nat) (x1 : Int32) (x2 : Int32) (x3 : Int32) (h : MH) (Q : Int32 → MH → Prop) : Prop := ∃ m14, wX0_firstOfLeast_17 Q m14 x0 x1 x2 x3 (x1 &&& (-x1)) (nI 30000) (nI 0) (nI 0) h
set_option maxHeartbeats 4000000 in
set_option maxRecDepth 100000 in
theorem gX0_firstOfLeast (x0 : Nat) (x1 : Int32) (x2 : Int32) (x3 : Int32) (h : MH) (Q : Int32 → MH → Prop) (hw : wX0_firstOfLeast x0 x1 x2 x3 h Q) : Cm MX0_firstOfLeast 301 0 0 [.ref (x0), .int (x1), .int (x2), .int (x3)] h (pI Q) := by
  refine cm_of [some (.ref (x0)), some (.int (x1)), some (.int (x2)), some (.int (x3)), none, none, none, none, none] rfl pnX0 (Nat.le_of_ble_eq_true rfl) rfl ?_
  unfold wX0_firstOfLeast at hw
  refine q_iload_n eX0_firstOfLeast_0 rfl ?_
  refine q_iload_n eX0_firstOfLeast_1 rfl ?_
  refine q_ineg eX0_firstOfLeast_2 ?_
  refine q_iand eX0_firstOfLeast_3 ?_
  refine x_istore (ls' := [_, _, _, _, _, _, _, _, _]) eX0_firstOfLeast_4 (by decide) rfl rfl ?_
  refine q_sipush (v := nI 30000) eX0_firstOfLeast_6 (by decide) ?_
  refine x_istore (ls' := [_, _, _, _, _, _, _, _, _]) eX0_firstOfLeast_9 (by decide) rfl rfl ?_
  refine q_iconst (v := nI 0) eX0_firstOfLeast_11 (by decide) ?_
  refine x_istore (ls' := [_, _, _, _, _, _, _, _, _]) eX0_firstOfLeast_12 (by decide) rfl rfl ?_
  refine q_iconst (v := nI 0) eX0_firstOfLeast_14 (by decide) ?_
  refine x_istore (ls' := [_, _, _, _, _, _, _, _, _]) eX0_firstOfLeast_15 (by decide) rfl rfl ?_
  refine q_le (ls' := [some _, some _, some _, some _, some _, some _, some _, some _, none]) ⟨rfl, rfl, rfl, rfl, rfl, rfl, rfl, rfl, trivial⟩ ?_
  obtain ⟨m14, hw⟩ := hw
  exact tX0_firstOfLeast_17 m14 _ _ _ _ _ _ _ _ _ hw
def wX4_useOf (x0 : Nat) (x1 : Int32) (x2 : Int32) (h : MH) (Q : Int32 → MH → Prop) : Prop := hS h x0 = (1, 4) ∧ ∃ a2, hR h x0 11 = some a2 ∧ ∃ n5, hS h a2 = (2, n5) ∧ vp_in (x1) n5 ∧ ∃ a7, hR h x0 13 = some a7 ∧ ∃ n10, hS h a7 = (2, n10) ∧ vp_in (x1) n10 ∧ Q ((((hI h a2 (x1).toNatClampNeg >>> (x2 &&& 31)) &&& nI 1) + (nI 2 * ((hI h a7 (x1).toNatClampNeg >>> (x2 &&& 31)) &&& nI 1)))) h
set_option maxHeartbeats 4000000 in
set_option maxRecDepth 100000 in
theorem gX4_useOf (x0 : Nat) (x1 : Int32) (x2 : Int32) (h : MH) (Q : Int32 → MH → Prop) (hw : wX4_useOf x0 x1 x2 h Q) : Cm MX4_useOf 0 0 0 [.ref (x0), .int (x1), .int (x2)] h (pI Q) := by
  refine cm_of [some (.ref (x0)), some (.int (x1)), some (.int (x2))] rfl pnX4 (Nat.le_of_ble_eq_true rfl) rfl ?_
  unfold wX4_useOf at hw
  refine q_aload_nr eX4_useOf_0 rfl ?_
  obtain ⟨hs1, hw⟩ := hw
  obtain ⟨a2, hr3, hw⟩ := hw
  refine q_getR flX4_47 rfl hs1 hr3 eX4_useOf_1 ?_
  refine q_iload_n eX4_useOf_4 rfl ?_
  obtain ⟨n5, hs4, hw⟩ := hw
  obtain ⟨hi6, hw⟩ := hw
  refine q_iald hs4 hi6 eX4_useOf_5 ?_
  refine q_iload_n eX4_useOf_6 rfl ?_
  refine q_ishr eX4_useOf_7 ?_
  refine q_iconst (v := nI 1) eX4_useOf_8 (by decide) ?_
  refine q_iand eX4_useOf_9 ?_
  refine q_iconst (v := nI 2) eX4_useOf_10 (by decide) ?_
  refine q_aload_nr eX4_useOf_11 rfl ?_
  obtain ⟨a7, hr8, hw⟩ := hw
  refine q_getR flX4_53 rfl hs1 hr8 eX4_useOf_12 ?_
  refine q_iload_n eX4_useOf_15 rfl ?_
  obtain ⟨n10, hs9, hw⟩ := hw
  obtain ⟨hi11, hw⟩ := hw
  refine q_iald hs9 hi11 eX4_useOf_16 ?_
  refine q_iload_n eX4_useOf_17 rfl ?_
  refine q_ishr eX4_useOf_18 ?_
  refine q_iconst (v := nI 1) eX4_useOf_19 (by decide) ?_
  refine q_iand eX4_useOf_20 ?_
  refine q_imul eX4_useOf_21 ?_
  refine q_iadd eX4_useOf_22 ?_
  exact q_ret rfl eX4_useOf_23 ⟨_, rfl, hw⟩
def wX4_usesLaid_5 (Q : Int32 → MH → Prop) : Nat → Nat → Nat → Int32 → Int32 → Int32 → MH → Prop
  | 0, _, _, _, _, _, _ => False
  | n + 1, x0, x1, x2, x3, x4, h => hS h x0 = (1, 4) ∧ (hI h x0 10 ≤ x4 → Q (x3) h) ∧ (¬ (hI h x0 10 ≤ x4) → hS h x1 = (1, 6) ∧ ∃ a3, hR h x1 2 = some a3 ∧ ∃ n6, hS h a3 = (2, n6) ∧ vp_in (x4) n6 ∧ wX4_useOf x0 x4 x2 h (fun r8 h9 => wX4_usesLaid_5 Q n x0 x1 x2 (x3 + (hI h a3 (x4).toNatClampNeg * r8)) (x4 + nI 1) h9))
set_option maxHeartbeats 4000000 in
set_option maxRecDepth 100000 in
theorem tX4_usesLaid_5 {Q : Int32 → MH → Prop} : ∀ (n : Nat) (h : MH) (x0 : Nat) (x1 : Nat) (x2 : Int32) (x3 : Int32) (x4 : Int32), wX4_usesLaid_5 Q n x0 x1 x2 x3 x4 h → Wm MX4_usesLaid 1 0 0 5 [some (.ref (x0)), some (.ref (x1)), some (.int (x2)), some (.int (x3)), some (.int (x4))] [] h (pI Q) := by
  intro n
  induction n with
  | zero => intro h x0 x1 x2 x3 x4 hw; exact hw.elim
  | succ n ih =>
    intro h x0 x1 x2 x3 x4 hw
    unfold wX4_usesLaid_5 at hw
    refine q_iload eX4_usesLaid_5 rfl ?_
    refine q_aload_nr eX4_usesLaid_7 rfl ?_
    obtain ⟨hs1, hw⟩ := hw
    refine q_getI flX4_44 rfl hs1 eX4_usesLaid_8 ?_
    obtain ⟨hw1, hw2⟩ := hw
    refine q_icmp_ge (tgt := 38) eX4_usesLaid_11 (by decide) (fun c => ?_) (fun c => ?_)
    · have hw := hw1 c
      refine q_iload_n eX4_usesLaid_38 rfl ?_
      exact q_ret rfl eX4_usesLaid_39 ⟨_, rfl, hw⟩
    · have hw := hw2 c
      refine q_iload_n eX4_usesLaid_14 rfl ?_
      refine q_aload_nr eX4_usesLaid_15 rfl ?_
      obtain ⟨hs2, hw⟩ := hw
      obtain ⟨a3, hr4, hw⟩ := hw
      refine q_getR flX4_121 rfl hs2 hr4 eX4_usesLaid_16 ?_
      refine q_iload eX4_usesLaid_19 rfl ?_
      obtain ⟨n6, hs5, hw⟩ := hw
      obtain ⟨hi7, hw⟩ := hw
      refine q_iald hs5 hi7 eX4_usesLaid_21 ?_
      refine q_aload_nr eX4_usesLaid_22 rfl ?_
      refine q_iload eX4_usesLaid_23 rfl ?_
      refine q_iload_n eX4_usesLaid_25 rfl ?_
      refine q_callV (b := 0) (t := 0) (gX4_useOf _ _ _ _ _ hw) mlX4_126 kX4_useOf vX4_useOf rfl hs1 ⟨rfl, rfl⟩ (by decide) rfl (Nat.le_of_ble_eq_true rfl) eX4_usesLaid_26 (kI fun r8 h9 hw => ?_)
      refine q_imul eX4_usesLaid_29 ?_
      refine q_iadd eX4_usesLaid_30 ?_
      refine x_istore_n (ls' := [_, _, _, _, _]) eX4_usesLaid_31 (by decide) rfl rfl ?_
      refine x_iinc (v := (x4 + nI 1)) (ls' := [_, _, _, _, _]) eX4_usesLaid_32 rfl rfl rfl rfl ?_
      refine q_goto (tgt := 5) eX4_usesLaid_35 (by decide) ?_
      refine q_le (ls' := [some _, some _, some _, some _, some _]) ⟨rfl, rfl, rfl, rfl, rfl, trivial⟩ ?_
      exact ih _ _ _ _ _ _ hw
def wX4_usesLaid (x0 : Nat) (x1 : Nat) (x2 : Int32) (h : MH) (Q : Int32 → MH → Prop) : Prop := ∃ m10, wX4_usesLaid_5 Q m10 x0 x1 x2 (nI 0) (nI 0) h
set_option maxHeartbeats 4000000 in
set_option maxRecDepth 100000 in
theorem gX4_usesLaid (x0 : Nat) (x1 : Nat) (x2 : Int32) (h : MH) (Q : Int32 → MH → Prop) (hw : wX4_usesLaid x0 x1 x2 h Q) : Cm MX4_usesLaid 1 0 0 [.ref (x0), .ref (x1), .int (x2)] h (pI Q) := by
  refine cm_of [some (.ref (x0)), some (.ref (x1)), some (.int (x2)), none, none] rfl pnX4 (Nat.le_of_ble_eq_true rfl) rfl ?_
  unfold wX4_usesLaid at hw
  refine q_iconst (v := nI 0) eX4_usesLaid_0 (by decide) ?_
  refine x_istore_n (ls' := [_, _, _, _, _]) eX4_usesLaid_1 (by decide) rfl rfl ?_
  refine q_iconst (v := nI 0) eX4_usesLaid_2 (by decide) ?_
  refine x_istore (ls' := [_, _, _, _, _]) eX4_usesLaid_3 (by decide) rfl rfl ?_
  refine q_le (ls' := [some _, some _, some _, some _, some _]) ⟨rfl, rfl, rfl, rfl, rfl, trivial⟩ ?_
  obtain ⟨m10, hw⟩ := hw
  exact tX4_usesLaid_5 m10 _ _ _ _ _ _ hw
def wX4_lacking_5 (Q : Int32 → MH → Prop) : Nat → Nat → Nat → Int32 → Int32 → Int32 → MH → Prop
  | 0, _, _, _, _, _, _ => False
  | n + 1, x0, x1, x2, x3, x4, h => hS h x0 = (1, 4) ∧ (hI h x0 3 ≤ x4 → Q (x3) h) ∧ (¬ (hI h x0 3 ≤ x4) → ∃ a2, hR h x0 7 = some a2 ∧ ∃ n5, hS h a2 = (2, n5) ∧ vp_in (x4) n5 ∧ wX4_usesLaid x0 x1 x4 h (fun r7 h8 => ∀ v10, v10 = (x3 ||| (if (hI h a2 (x4).toNatClampNeg - r7) < x2 then nI 0 else (nI 1 <<< (x4 &&& 31)))) → wX4_lacking_5 Q n x0 x1 x2 v10 (x4 + nI 1) h8))
set_option maxHeartbeats 4000000 in
set_option maxRecDepth 100000 in
theorem tX4_lacking_5 {Q : Int32 → MH → Prop} : ∀ (n : Nat) (h : MH) (x0 : Nat) (x1 : Nat) (x2 : Int32) (x3 : Int32) (x4 : Int32), wX4_lacking_5 Q n x0 x1 x2 x3 x4 h → Wm MX4_lacking 2 0 0 5 [some (.ref (x0)), some (.ref (x1)), some (.int (x2)), some (.int (x3)), some (.int (x4))] [] h (pI Q) := by
  intro n
  induction n with
  | zero => intro h x0 x1 x2 x3 x4 hw; exact hw.elim
  | succ n ih =>
    intro h x0 x1 x2 x3 x4 hw
    unfold wX4_lacking_5 at hw
    refine q_iload eX4_lacking_5 rfl ?_
    refine q_aload_nr eX4_lacking_7 rfl ?_
    obtain ⟨hs1, hw⟩ := hw
    refine q_getI flX4_21 rfl hs1 eX4_lacking_8 ?_
    obtain ⟨hw1, hw2⟩ := hw
    refine q_icmp_ge (tgt := 50) eX4_lacking_11 (by decide) (fun c => ?_) (fun c => ?_)
    · have hw := hw1 c
      refine q_iload_n eX4_lacking_50 rfl ?_
      exact q_ret rfl eX4_lacking_51 ⟨_, rfl, hw⟩
    · have hw := hw2 c
      refine q_iload_n eX4_lacking_14 rfl ?_
      refine q_aload_nr eX4_lacking_15 rfl ?_
      obtain ⟨a2, hr3, hw⟩ := hw
      refine q_getR flX4_34 rfl hs1 hr3 eX4_lacking_16 ?_
      refine q_iload eX4_lacking_19 rfl ?_
      obtain ⟨n5, hs4, hw⟩ := hw
      obtain ⟨hi6, hw⟩ := hw
      refine q_iald hs4 hi6 eX4_lacking_21 ?_
      refine q_aload_nr eX4_lacking_22 rfl ?_
      refine q_aload_nr eX4_lacking_23 rfl ?_
      refine q_iload eX4_lacking_24 rfl ?_
      refine q_callV (b := 0) (t := 0) (gX4_usesLaid _ _ _ _ _ hw) mlX4_129 kX4_usesLaid vX4_usesLaid rfl hs1 ⟨rfl, rfl⟩ (by decide) rfl (Nat.le_of_ble_eq_true rfl) eX4_lacking_26 (kI fun r7 h8 hw => ?_)
      refine q_isub eX4_lacking_29 ?_
      refine q_iload_n eX4_lacking_30 rfl ?_
      have hj11 : Wm MX4_lacking 2 0 0 42 [some (.ref (x0)), some (.ref (x1)), some (.int (x2)), some (.int (x3)), some (.int (x4))] [.int ((if (hI h a2 (x4).toNatClampNeg - r7) < x2 then nI 0 else (nI 1 <<< (x4 &&& 31)))), .int (x3)] h8 (pI Q) := by
        refine q_ior eX4_lacking_42 ?_
        have hw := hw _ rfl
        refine x_istore_n (ls' := [_, _, _, _, _]) eX4_lacking_43 (by decide) rfl rfl ?_
        refine x_iinc (v := (x4 + nI 1)) (ls' := [_, _, _, _, _]) eX4_lacking_44 rfl rfl rfl rfl ?_
        refine q_goto (tgt := 5) eX4_lacking_47 (by decide) ?_
        refine q_le (ls' := [some _, some _, some _, some _, some _]) ⟨rfl, rfl, rfl, rfl, rfl, trivial⟩ ?_
        exact ih _ _ _ _ _ _ hw
      refine q_icmp_lt (tgt := 41) eX4_lacking_31 (by decide) (fun c => ?_) (fun c => ?_)
      · refine q_iconst (v := nI 0) eX4_lacking_41 (by decide) ?_
        rw [if_pos c] at hj11
        exact hj11
      · refine q_iconst (v := nI 1) eX4_lacking_34 (by decide) ?_
        refine q_iload eX4_lacking_35 rfl ?_
        refine q_ishl eX4_lacking_37 ?_
        refine q_goto (tgt := 42) eX4_lacking_38 (by decide) ?_
        rw [if_neg c] at hj11
        exact hj11
def wX4_lacking (x0 : Nat) (x1 : Nat) (x2 : Int32) (h : MH) (Q : Int32 → MH → Prop) : Prop := ∃ m12, wX4_lacking_5 Q m12 x0 x1 x2 (nI 0) (nI 0) h
set_option maxHeartbeats 4000000 in
set_option maxRecDepth 100000 in
theorem gX4_lacking (x0 : Nat) (x1 : Nat) (x2 : Int32) (h : MH) (Q : Int32 → MH → Prop) (hw : wX4_lacking x0 x1 x2 h Q) : Cm MX4_lacking 2 0 0 [.ref (x0), .ref (x1), .int (x2)] h (pI Q) := by
  refine cm_of [some (.ref (x0)), some (.ref (x1)), some (.int (x2)), none, none] rfl pnX4 (Nat.le_of_ble_eq_true rfl) rfl ?_
  unfold wX4_lacking at hw
  refine q_iconst (v := nI 0) eX4_lacking_0 (by decide) ?_
  refine x_istore_n (ls' := [_, _, _, _, _]) eX4_lacking_1 (by decide) rfl rfl ?_
  refine q_iconst (v := nI 0) eX4_lacking_2 (by decide) ?_
  refine x_istore (ls' := [_, _, _, _, _]) eX4_lacking_3 (by decide) rfl rfl ?_
  refine q_le (ls' := [some _, some _, some _, some _, some _]) ⟨rfl, rfl, rfl, rfl, rfl, trivial⟩ ?_
  obtain ⟨m12, hw⟩ := hw
  exact tX4_lacking_5 m12 _ _ _ _ _ _ hw
def wX0_solve_101 (Q : Int32 → MH → Prop) : Nat → Nat → Nat → Nat → Int32 → Int32 → Int32 → Int32 → MH → Prop
  | 0, _, _, _, _, _, _, _, _ => False
  | n + 1, b, t, x0, x3, x4, x5, x6, h => (nI 20 ≤ x6 → Q (nI 1) h) ∧ (¬ (nI 20 ≤ x6) → (x4 = 0 → Q (nI 1) h) ∧ (¬ (x4 = 0) → hS h x0 = (1, 0) ∧ wX0_firstOfLeast x0 x4 x5 x3 h (fun r27 h28 => hS h28 x0 = (1, 0) ∧ ∃ a30, hR h28 x0 9 = some a30 ∧ ∃ n33, hS h28 a30 = (2, n33) ∧ vp_in (r27) n33 ∧ vp_in (r27) n33 ∧ ∀ h36, h36 = sI h28 a30 (r27).toNatClampNeg ((hI h28 a30 (r27).toNatClampNeg + nI 1)) → ∀ h37, h37 = sI h36 x0 10 ((hI h36 x0 10 + nI 1)) → ∃ a38, hR h37 x0 5 = some a38 ∧ ∃ n41, hS h37 a38 = (2, n41) ∧ vp_in (r27) n41 ∧ ∀ h43, h43 = sI h37 x0 11 ((hI h37 x0 11 + hI h37 a38 (r27).toNatClampNeg)) → wX0_onceBehind x0 r27 x4 x5 h43 (fun r44 h45 => hS h45 x0 = (1, 0) ∧ wX0_twiceBehind x0 r27 x5 h45 (fun r47 h48 => wX0_solve_101 Q n b t x0 x3 r44 r47 (x6 + nI 1) h48)))))
set_option maxHeartbeats 4000000 in
set_option maxRecDepth 100000 in
theorem tX0_solve_101 {Q : Int32 → MH → Prop} : ∀ (n : Nat) (h : MH) (b t : Nat) (x0 : Nat) (x3 : Int32) (x4 : Int32) (x5 : Int32) (x6 : Int32), wX0_solve_101 Q n b t x0 x3 x4 x5 x6 h → Wm MX0_solve 302 b t 101 [some (.ref (x0)), none, none, some (.int (x3)), some (.int (x4)), some (.int (x5)), some (.int (x6)), none, none] [] h (pI Q) := by
  intro n
  induction n with
  | zero => intro h b t x0 x3 x4 x5 x6 hw; exact hw.elim
  | succ n ih =>
    intro h b t x0 x3 x4 x5 x6 hw
    unfold wX0_solve_101 at hw
    refine q_iload eX0_solve_101 rfl ?_
    refine q_bipush (v := nI 20) eX0_solve_103 (by decide) ?_
    obtain ⟨hw1, hw2⟩ := hw
    refine q_icmp_ge (tgt := 193) eX0_solve_105 (by decide) (fun c => ?_) (fun c => ?_)
    · have hw := hw1 c
      refine q_iconst (v := nI 1) eX0_solve_193 (by decide) ?_
      exact q_retZ rfl (by decide) eX0_solve_194 ⟨_, rfl, hw⟩
    · have hw := hw2 c
      refine q_iload eX0_solve_108 rfl ?_
      obtain ⟨hw1, hw2⟩ := hw
      refine q_if_eq (tgt := 193) eX0_solve_110 (by decide) (fun c => ?_) (fun c => ?_)
      · have hw := hw1 c
        refine q_iconst (v := nI 1) eX0_solve_193 (by decide) ?_
        exact q_retZ rfl (by decide) eX0_solve_194 ⟨_, rfl, hw⟩
      · have hw := hw2 c
        refine q_aload_nr eX0_solve_113 rfl ?_
        refine q_iload eX0_solve_114 rfl ?_
        refine q_iload eX0_solve_116 rfl ?_
        refine q_iload_n eX0_solve_118 rfl ?_
        obtain ⟨hs26, hw⟩ := hw
        refine q_bud (b' := b + 0) (t' := t + 0) (Nat.add_zero _) (Nat.add_zero _) ?_
        refine q_callV (b := b) (t := t) (gX0_firstOfLeast _ _ _ _ _ _ hw) mlX0_85 kX0_firstOfLeast vX0_firstOfLeast rfl hs26 ⟨rfl, rfl⟩ (by decide) rfl (Nat.le_of_ble_eq_true rfl) eX0_solve_119 (kI fun r27 h28 hw => ?_)
        refine x_istore (ls' := [_, _, _, _, _, _, _, _, _]) eX0_solve_122 (by decide) rfl rfl ?_
        refine q_aload_nr eX0_solve_124 rfl ?_
        obtain ⟨hs29, hw⟩ := hw
        obtain ⟨a30, hr31, hw⟩ := hw
        refine q_getR flX0_29 rfl hs29 hr31 eX0_solve_125 ?_
        refine q_iload eX0_solve_128 rfl ?_
        refine q_dup2 eX0_solve_130 rfl rfl ?_
        obtain ⟨n33, hs32, hw⟩ := hw
        obtain ⟨hi34, hw⟩ := hw
        refine q_iald hs32 hi34 eX0_solve_131 ?_
        refine q_iconst (v := nI 1) eX0_solve_132 (by decide) ?_
        refine q_iadd eX0_solve_133 ?_
        obtain ⟨hi35, hw⟩ := hw
        have hw := hw _ rfl
        refine q_iast hs32 hi35 eX0_solve_134 ?_
        refine q_aload_nr eX0_solve_135 rfl ?_
        refine q_dup eX0_solve_136 rfl ?_
        refine q_getI flX0_79 rfl hs29 eX0_solve_137 ?_
        refine q_iconst (v := nI 1) eX0_solve_140 (by decide) ?_
        refine q_iadd eX0_solve_141 ?_
        have hw := hw _ rfl
        refine q_putI (fwX0_79 _) rfl hs29 eX0_solve_142 ?_
        refine q_aload_nr eX0_solve_145 rfl ?_
        refine q_dup eX0_solve_146 rfl ?_
        refine q_getI flX0_82 rfl hs29 eX0_solve_147 ?_
        refine q_aload_nr eX0_solve_150 rfl ?_
        obtain ⟨a38, hr39, hw⟩ := hw
        refine q_getR flX0_18 rfl hs29 hr39 eX0_solve_151 ?_
        refine q_iload eX0_solve_154 rfl ?_
        obtain ⟨n41, hs40, hw⟩ := hw
        obtain ⟨hi42, hw⟩ := hw
        refine q_iald hs40 hi42 eX0_solve_156 ?_
        refine q_iadd eX0_solve_157 ?_
        have hw := hw _ rfl
        refine q_putI (fwX0_82 _) rfl hs29 eX0_solve_158 ?_
        refine q_aload_nr eX0_solve_161 rfl ?_
        refine q_iload eX0_solve_162 rfl ?_
        refine q_iload eX0_solve_164 rfl ?_
        refine q_iload eX0_solve_166 rfl ?_
        refine q_bud (b' := b + 0) (t' := t + 0) (Nat.add_zero _) (Nat.add_zero _) ?_
        refine q_callV (b := b) (t := t) (gX0_onceBehind _ _ _ _ _ _ hw) mlX0_89 kX0_onceBehind vX0_onceBehind rfl hs29 ⟨rfl, rfl⟩ (by decide) rfl (Nat.le_of_ble_eq_true rfl) eX0_solve_168 (kI fun r44 h45 hw => ?_)
        refine x_istore (ls' := [_, _, _, _, _, _, _, _, _]) eX0_solve_171 (by decide) rfl rfl ?_
        refine q_aload_nr eX0_solve_173 rfl ?_
        refine q_iload eX0_solve_174 rfl ?_
        refine q_iload eX0_solve_176 rfl ?_
        obtain ⟨hs46, hw⟩ := hw
        refine q_bud (b' := b + 0) (t' := t + 0) (Nat.add_zero _) (Nat.add_zero _) ?_
        refine q_callV (b := b) (t := t) (gX0_twiceBehind _ _ _ _ _ hw) mlX0_92 kX0_twiceBehind vX0_twiceBehind rfl hs46 ⟨rfl, rfl⟩ (by decide) rfl (Nat.le_of_ble_eq_true rfl) eX0_solve_178 (kI fun r47 h48 hw => ?_)
        refine x_istore (ls' := [_, _, _, _, _, _, _, _, _]) eX0_solve_181 (by decide) rfl rfl ?_
        refine q_iload eX0_solve_183 rfl ?_
        refine x_istore (ls' := [_, _, _, _, _, _, _, _, _]) eX0_solve_185 (by decide) rfl rfl ?_
        refine x_iinc (v := (x6 + nI 1)) (ls' := [_, _, _, _, _, _, _, _, _]) eX0_solve_187 rfl rfl rfl rfl ?_
        refine q_goto (tgt := 101) eX0_solve_190 (by decide) ?_
        refine q_le (ls' := [some _, none, none, some _, some _, some _, some _, none, none]) ⟨rfl, rfl, rfl, rfl, rfl, trivial⟩ ?_
        exact ih _ _ _ _ _ _ _ _ hw
def wX0_solve_75 (Q : Int32 → MH → Prop) : Nat → Nat → Nat → Nat → Int32 → Int32 → Int32 → Int32 → MH → Prop
  | 0, _, _, _, _, _, _, _, _ => False
  | n + 1, b, t, x0, x3, x4, x5, x6, h => hS h x0 = (1, 0) ∧ (hI h x0 2 ≤ x6 → ∃ m49, wX0_solve_101 Q m49 b t x0 x3 x4 x5 (nI 0) h) ∧ (¬ (hI h x0 2 ≤ x6) → ∃ a50, hR h x0 9 = some a50 ∧ ∃ n53, hS h a50 = (2, n53) ∧ vp_in (x6) n53 ∧ ∀ h55, h55 = sI h a50 (x6).toNatClampNeg (nI 0) → wX0_solve_75 Q n b t x0 x3 x4 x5 (x6 + nI 1) h55)
set_option maxHeartbeats 4000000 in
set_option maxRecDepth 100000 in
theorem tX0_solve_75 {Q : Int32 → MH → Prop} : ∀ (n : Nat) (h : MH) (b t : Nat) (x0 : Nat) (x3 : Int32) (x4 : Int32) (x5 : Int32) (x6 : Int32), wX0_solve_75 Q n b t x0 x3 x4 x5 x6 h → Wm MX0_solve 302 b t 75 [some (.ref (x0)), none, none, some (.int (x3)), some (.int (x4)), some (.int (x5)), some (.int (x6)), none, none] [] h (pI Q) := by
  intro n
  induction n with
  | zero => intro h b t x0 x3 x4 x5 x6 hw; exact hw.elim
  | succ n ih =>
    intro h b t x0 x3 x4 x5 x6 hw
    unfold wX0_solve_75 at hw
    refine q_iload eX0_solve_75 rfl ?_
    refine q_aload_nr eX0_solve_77 rfl ?_
    obtain ⟨hs25, hw⟩ := hw
    refine q_getI flX0_52 rfl hs25 eX0_solve_78 ?_
    obtain ⟨hw1, hw2⟩ := hw
    refine q_icmp_ge (tgt := 98) eX0_solve_81 (by decide) (fun c => ?_) (fun c => ?_)
    · have hw := hw1 c
      refine q_iconst (v := nI 0) eX0_solve_98 (by decide) ?_
      refine x_istore (ls' := [_, _, _, _, _, _, _, _, _]) eX0_solve_99 (by decide) rfl rfl ?_
      refine q_le (ls' := [some _, none, none, some _, some _, some _, some _, none, none]) ⟨rfl, rfl, rfl, rfl, rfl, trivial⟩ ?_
      obtain ⟨m49, hw⟩ := hw
      exact tX0_solve_101 m49 _ _ _ _ _ _ _ _ hw
    · have hw := hw2 c
      refine q_aload_nr eX0_solve_84 rfl ?_
      obtain ⟨a50, hr51, hw⟩ := hw
      refine q_getR flX0_29 rfl hs25 hr51 eX0_solve_85 ?_
      refine q_iload eX0_solve_88 rfl ?_
      refine q_iconst (v := nI 0) eX0_solve_90 (by decide) ?_
      obtain ⟨n53, hs52, hw⟩ := hw
      obtain ⟨hi54, hw⟩ := hw
      have hw := hw _ rfl
      refine q_iast hs52 hi54 eX0_solve_91 ?_
      refine x_iinc (v := (x6 + nI 1)) (ls' := [_, _, _, _, _, _, _, _, _]) eX0_solve_92 rfl rfl rfl rfl ?_
      refine q_goto (tgt := 75) eX0_solve_95 (by decide) ?_
      refine q_le (ls' := [some _, none, none, some _, some _, some _, some _, none, none]) ⟨rfl, rfl, rfl, rfl, rfl, trivial⟩ ?_
      exact ih _ _ _ _ _ _ _ _ hw
def wX0_solve_62 (Q : Int32 → MH → Prop) (b t : Nat) (x0 : Nat) (x3 : Int32) (x4 : Int32) (x5 : Int32) (h : MH) : Prop := hS h x0 = (1, 0) ∧ ∀ h23, h23 = sI h x0 10 (nI 0) → ∀ h24, h24 = sI h23 x0 11 (nI 0) → ∃ m56, wX0_solve_75 Q m56 b t x0 x3 x4 x5 (nI 0) h24
set_option maxHeartbeats 4000000 in
set_option maxRecDepth 100000 in
theorem tX0_solve_62 {Q : Int32 → MH → Prop} (h : MH) (b t : Nat) (x0 : Nat) (x3 : Int32) (x4 : Int32) (x5 : Int32) (hw : wX0_solve_62 Q b t x0 x3 x4 x5 h) : Wm MX0_solve 302 b t 62 [some (.ref (x0)), none, none, some (.int (x3)), some (.int (x4)), some (.int (x5)), none, none, none] [] h (pI Q) := by
  unfold wX0_solve_62 at hw
  refine q_aload_nr eX0_solve_62 rfl ?_
  refine q_iconst (v := nI 0) eX0_solve_63 (by decide) ?_
  obtain ⟨hs22, hw⟩ := hw
  have hw := hw _ rfl
  refine q_putI (fwX0_79 _) rfl hs22 eX0_solve_64 ?_
  refine q_aload_nr eX0_solve_67 rfl ?_
  refine q_iconst (v := nI 0) eX0_solve_68 (by decide) ?_
  have hw := hw _ rfl
  refine q_putI (fwX0_82 _) rfl hs22 eX0_solve_69 ?_
  refine q_iconst (v := nI 0) eX0_solve_72 (by decide) ?_
  refine x_istore (ls' := [_, _, _, _, _, _, _, _, _]) eX0_solve_73 (by decide) rfl rfl ?_
  refine q_le (ls' := [some _, none, none, some _, some _, some _, some _, none, none]) ⟨rfl, rfl, rfl, rfl, rfl, trivial⟩ ?_
  obtain ⟨m56, hw⟩ := hw
  exact tX0_solve_75 m56 _ _ _ _ _ _ _ _ hw
def wX0_solve (b t : Nat) (x0 : Nat) (x1 : Nat) (x2 : Nat) (x3 : Int32) (h : MH) (Q : Int32 → MH → Prop) : Prop := hS h x2 = (1, 6) ∧ hS h x0 = (1, 0) ∧ wX0_lookAt x0 x1 (hI h x2 0) h (fun h4 => hS h4 x0 = (1, 0) ∧ ∃ a6, hR h4 x0 0 = some a6 ∧ hS h4 a6 = (1, 4) ∧ wX4_lacking a6 x2 (nI 1) h4 (fun r9 h10 => hS h10 x0 = (1, 0) ∧ ∃ a12, hR h10 x0 0 = some a12 ∧ hS h10 a12 = (1, 4) ∧ wX4_lacking a12 x2 (nI 2) h10 (fun r15 h16 => hS h16 x0 = (1, 0) ∧ ((r9 &&& (hI h16 x0 6 ^^^ (-1 : Int32))) = 0 → ∃ a18, hR h16 x0 7 = some a18 ∧ ∃ n21, hS h16 a18 = (3, n21) ∧ (¬ (nI n21 = 0) → wX0_solve_62 Q b t x0 x3 r9 r15 h16) ∧ (nI n21 = 0 → 1 ≤ b ∧ 2048 ≤ t ∧ ∀ a57, a57 = hN h16 → ∀ h58, h58 = al h16 (3, 2048) → hS h58 x0 = (1, 0) ∧ ∀ h62, h62 = sR h58 x0 7 (some a57) → wX0_solve_62 Q (b - 1) (t - 2048) x0 x3 r9 r15 h62)) ∧ (¬ ((r9 &&& (hI h16 x0 6 ^^^ (-1 : Int32))) = 0) → Q (nI 0) h16))))
set_option maxHeartbeats 4000000 in
set_option maxRecDepth 100000 in
theorem gX0_solve (b t : Nat) (x0 : Nat) (x1 : Nat) (x2 : Nat) (x3 : Int32) (h : MH) (Q : Int32 → MH → Prop) (hw : wX0_solve b t x0 x1 x2 x3 h Q) : Cm MX0_solve 302 b t [.ref (x0), .ref (x1), .ref (x2), .int (x3)] h (pI Q) := by
  refine cm_of [some (.ref (x0)), some (.ref (x1)), some (.ref (x2)), some (.int (x3)), none, none, none, none, none] rfl pnX0 (Nat.le_of_ble_eq_true rfl) rfl ?_
  unfold wX0_solve at hw
  refine q_aload_nr eX0_solve_0 rfl ?_
  refine q_aload_nr eX0_solve_1 rfl ?_
  refine q_aload_nr eX0_solve_2 rfl ?_
  obtain ⟨hs1, hw⟩ := hw
  refine q_getI flX0_68 rfl hs1 eX0_solve_3 ?_
  obtain ⟨hs2, hw⟩ := hw
  refine q_bud (b' := b + 0) (t' := t + 0) (Nat.add_zero _) (Nat.add_zero _) ?_
  refine q_callV (b := b) (t := t) (gX0_lookAt _ _ _ _ _ hw) mlX0_71 kX0_lookAt vX0_lookAt rfl hs2 ⟨rfl, rfl⟩ (by decide) rfl (Nat.le_of_ble_eq_true rfl) eX0_solve_6 (kV fun h4 hw => ?_)
  refine q_aload_nr eX0_solve_9 rfl ?_
  obtain ⟨hs5, hw⟩ := hw
  obtain ⟨a6, hr7, hw⟩ := hw
  refine q_getR flX0_32 rfl hs5 hr7 eX0_solve_10 ?_
  refine q_aload_nr eX0_solve_13 rfl ?_
  refine q_iconst (v := nI 1) eX0_solve_14 (by decide) ?_
  obtain ⟨hs8, hw⟩ := hw
  refine q_bud (b' := b + 0) (t' := t + 0) (Nat.add_zero _) (Nat.add_zero _) ?_
  refine q_callV (b := b) (t := t) (gX4_lacking _ _ _ _ _ hw) mlX0_75 kX4_lacking vX4_lacking rfl hs8 ⟨rfl, rfl⟩ (by decide) rfl (Nat.le_of_ble_eq_true rfl) eX0_solve_15 (kI fun r9 h10 hw => ?_)
  refine x_istore (ls' := [_, _, _, _, _, _, _, _, _]) eX0_solve_18 (by decide) rfl rfl ?_
  refine q_aload_nr eX0_solve_20 rfl ?_
  obtain ⟨hs11, hw⟩ := hw
  obtain ⟨a12, hr13, hw⟩ := hw
  refine q_getR flX0_32 rfl hs11 hr13 eX0_solve_21 ?_
  refine q_aload_nr eX0_solve_24 rfl ?_
  refine q_iconst (v := nI 2) eX0_solve_25 (by decide) ?_
  obtain ⟨hs14, hw⟩ := hw
  refine q_bud (b' := b + 0) (t' := t + 0) (Nat.add_zero _) (Nat.add_zero _) ?_
  refine q_callV (b := b) (t := t) (gX4_lacking _ _ _ _ _ hw) mlX0_75 kX4_lacking vX4_lacking rfl hs14 ⟨rfl, rfl⟩ (by decide) rfl (Nat.le_of_ble_eq_true rfl) eX0_solve_26 (kI fun r15 h16 hw => ?_)
  refine x_istore (ls' := [_, _, _, _, _, _, _, _, _]) eX0_solve_29 (by decide) rfl rfl ?_
  refine q_iload eX0_solve_31 rfl ?_
  refine q_aload_nr eX0_solve_33 rfl ?_
  obtain ⟨hs17, hw⟩ := hw
  refine q_getI flX0_55 rfl hs17 eX0_solve_34 ?_
  refine q_iconst (v := (-1 : Int32)) eX0_solve_37 (by decide) ?_
  refine q_ixor eX0_solve_38 ?_
  refine q_iand eX0_solve_39 ?_
  obtain ⟨hw1, hw2⟩ := hw
  refine q_if_eq (tgt := 45) eX0_solve_40 (by decide) (fun c => ?_) (fun c => ?_)
  · have hw := hw1 c
    refine q_aload_nr eX0_solve_45 rfl ?_
    obtain ⟨a18, hr19, hw⟩ := hw
    refine q_getR flX0_21 rfl hs17 hr19 eX0_solve_46 ?_
    obtain ⟨n21, hs20, hw⟩ := hw
    refine q_alen (by decide) hs20 eX0_solve_49 ?_
    show Wm _ _ _ _ _ _ (.int (nI _) :: _) _ _
    obtain ⟨hw1, hw2⟩ := hw
    refine q_if_ne (tgt := 62) eX0_solve_50 (by decide) (fun c => ?_) (fun c => ?_)
    · have hw := hw1 c
      refine q_le (ls' := [some _, none, none, some _, some _, some _, none, none, none]) ⟨rfl, rfl, rfl, rfl, trivial⟩ ?_
      exact tX0_solve_62 _ _ _ _ _ _ _ hw
    · have hw := hw2 c
      refine q_aload_nr eX0_solve_53 rfl ?_
      refine q_sipush (v := nI 2048) eX0_solve_54 (by decide) ?_
      obtain ⟨hc59, hc60, hw⟩ := hw
      have hw := hw _ rfl _ rfl
      refine q_bud (b' := (b - 1) + 1) (t' := (t - 2048) + 2048) (by omega) (by omega) ?_
      refine q_newa (k := 3) (Or.inr (Or.inl rfl)) rfl aC_long (by decide) (by decide) (by decide) eX0_solve_57 ?_
      obtain ⟨hs61, hw⟩ := hw
      have hw := hw _ rfl
      refine q_putR (fwX0_21 _) rfl hs61 eX0_solve_59 ?_
      refine q_le (ls' := [some _, none, none, some _, some _, some _, none, none, none]) ⟨rfl, rfl, rfl, rfl, trivial⟩ ?_
      exact tX0_solve_62 _ _ _ _ _ _ _ hw
  · have hw := hw2 c
    refine q_iconst (v := nI 0) eX0_solve_43 (by decide) ?_
    exact q_retZ rfl (by decide) eX0_solve_44 ⟨_, rfl, hw⟩
def wX0_leastPrice_104 (Q : Int32 → MH → Prop) (PX0_paidFrom : Nat → Int32 → Int32 → Int32 → Int32 → Int32 → MH → (Int32 → MH → Prop) → Prop) : Nat → Nat → Int32 → Int32 → Int32 → Int32 → Int32 → Int64 → Int32 → Int32 → Int32 → MH → Prop
  | 0, _, _, _, _, _, _, _, _, _, _, _ => False
  | n + 1, x0, x1, x2, x3, x4, x6, x7, x9, x10, x11, h => hS h x0 = (1, 0) ∧ (hI h x0 2 ≤ x11 → ∃ a10, hR h x0 7 = some a10 ∧ ∃ n13, hS h a10 = (3, n13) ∧ (nI n13 ≤ x6 → Q (x10) h) ∧ (¬ (nI n13 ≤ x6) → vp_in (x6) n13 ∧ ∀ h15, h15 = sL h a10 (x6).toNatClampNeg (((x7 <<< ((nI 16).toInt64 &&& 63)) ||| (x10).toInt64)) → Q (x10) h15)) ∧ (¬ (hI h x0 2 ≤ x11) → ∃ a16, hR h x0 3 = some a16 ∧ ∃ n19, hS h a16 = (2, n19) ∧ vp_in (x11) n19 ∧ ∃ a21, hR h x0 4 = some a21 ∧ ∃ n24, hS h a21 = (2, n24) ∧ vp_in (x11) n24 ∧ (((hI h a16 (x11).toNatClampNeg ||| hI h a21 (x11).toNatClampNeg) &&& x9) = 0 → wX0_leastPrice_104 Q PX0_paidFrom n x0 x1 x2 x3 x4 x6 x7 x9 x10 (x11 + nI 1) h) ∧ (¬ (((hI h a16 (x11).toNatClampNeg ||| hI h a21 (x11).toNatClampNeg) &&& x9) = 0) → PX0_paidFrom x0 x11 x1 x2 x3 x4 h (fun r26 h27 => wX0_leastPrice_104 Q PX0_paidFrom n x0 x1 x2 x3 x4 x6 x7 x9 (if r26 < x10 then r26 else x10) (x11 + nI 1) h27)))
set_option maxHeartbeats 4000000 in
set_option maxRecDepth 100000 in
theorem tX0_leastPrice_104 {Q : Int32 → MH → Prop} {PX0_paidFrom : Nat → Int32 → Int32 → Int32 → Int32 → Int32 → MH → (Int32 → MH → Prop) → Prop} {d d2 : Nat} (hd : 2 ≤ d) (hd2 : d2 < d) (hPX0_paidFrom : ∀ (y0 : Nat) (y1 : Int32) (y2 : Int32) (y3 : Int32) (y4 : Int32) (y5 : Int32) (h : MH) (Q : Int32 → MH → Prop), PX0_paidFrom y0 y1 y2 y3 y4 y5 h Q → Cm MX0_paidFrom d2 0 0 [.ref (y0), .int (y1), .int (y2), .int (y3), .int (y4), .int (y5)] h (pI Q)) : ∀ (n : Nat) (h : MH) (x0 : Nat) (x1 : Int32) (x2 : Int32) (x3 : Int32) (x4 : Int32) (x6 : Int32) (x7 : Int64) (x9 : Int32) (x10 : Int32) (x11 : Int32), wX0_leastPrice_104 Q PX0_paidFrom n x0 x1 x2 x3 x4 x6 x7 x9 x10 x11 h → Wm MX0_leastPrice d 0 0 104 [some (.ref (x0)), some (.int (x1)), some (.int (x2)), some (.int (x3)), some (.int (x4)), none, some (.int (x6)), some (.long (x7)), none, some (.int (x9)), some (.int (x10)), some (.int (x11))] [] h (pI Q) := by
  intro n
  induction n with
  | zero => intro h x0 x1 x2 x3 x4 x6 x7 x9 x10 x11 hw; exact hw.elim
  | succ n ih =>
    intro h x0 x1 x2 x3 x4 x6 x7 x9 x10 x11 hw
    unfold wX0_leastPrice_104 at hw
    refine q_iload eX0_leastPrice_104 rfl ?_
    refine q_aload_nr eX0_leastPrice_106 rfl ?_
    obtain ⟨hs9, hw⟩ := hw
    refine q_getI flX0_52 rfl hs9 eX0_leastPrice_107 ?_
    obtain ⟨hw1, hw2⟩ := hw
    refine q_icmp_ge (tgt := 158) eX0_leastPrice_110 (by decide) (fun c => ?_) (fun c => ?_)
    · have hw := hw1 c
      refine q_iload eX0_leastPrice_158 rfl ?_
      refine q_aload_nr eX0_leastPrice_160 rfl ?_
      obtain ⟨a10, hr11, hw⟩ := hw
      refine q_getR flX0_21 rfl hs9 hr11 eX0_leastPrice_161 ?_
      obtain ⟨n13, hs12, hw⟩ := hw
      refine q_alen (by decide) hs12 eX0_leastPrice_164 ?_
      show Wm _ _ _ _ _ _ (.int (nI _) :: _) _ _
      obtain ⟨hw1, hw2⟩ := hw
      refine q_icmp_ge (tgt := 184) eX0_leastPrice_165 (by decide) (fun c => ?_) (fun c => ?_)
      · have hw := hw1 c
        refine q_iload eX0_leastPrice_184 rfl ?_
        exact q_ret rfl eX0_leastPrice_186 ⟨_, rfl, hw⟩
      · have hw := hw2 c
        refine q_aload_nr eX0_leastPrice_168 rfl ?_
        refine q_getR flX0_21 rfl hs9 hr11 eX0_leastPrice_169 ?_
        refine q_iload eX0_leastPrice_172 rfl ?_
        refine q_lload eX0_leastPrice_174 rfl ?_
        refine q_bipush (v := nI 16) eX0_leastPrice_176 (by decide) ?_
        refine q_lshl eX0_leastPrice_178 ?_
        refine q_iload eX0_leastPrice_179 rfl ?_
        refine q_i2l eX0_leastPrice_181 ?_
        refine q_lor eX0_leastPrice_182 ?_
        obtain ⟨hi14, hw⟩ := hw
        have hw := hw _ rfl
        refine q_last hs12 hi14 eX0_leastPrice_183 ?_
        refine q_iload eX0_leastPrice_184 rfl ?_
        exact q_ret rfl eX0_leastPrice_186 ⟨_, rfl, hw⟩
    · have hw := hw2 c
      refine q_aload_nr eX0_leastPrice_113 rfl ?_
      obtain ⟨a16, hr17, hw⟩ := hw
      refine q_getR flX0_9 rfl hs9 hr17 eX0_leastPrice_114 ?_
      refine q_iload eX0_leastPrice_117 rfl ?_
      obtain ⟨n19, hs18, hw⟩ := hw
      obtain ⟨hi20, hw⟩ := hw
      refine q_iald hs18 hi20 eX0_leastPrice_119 ?_
      refine q_aload_nr eX0_leastPrice_120 rfl ?_
      obtain ⟨a21, hr22, hw⟩ := hw
      refine q_getR flX0_15 rfl hs9 hr22 eX0_leastPrice_121 ?_
      refine q_iload eX0_leastPrice_124 rfl ?_
      obtain ⟨n24, hs23, hw⟩ := hw
      obtain ⟨hi25, hw⟩ := hw
      refine q_iald hs23 hi25 eX0_leastPrice_126 ?_
      refine q_ior eX0_leastPrice_127 ?_
      refine q_iload eX0_leastPrice_128 rfl ?_
      refine q_iand eX0_leastPrice_130 ?_
      obtain ⟨hw1, hw2⟩ := hw
      refine q_if_eq (tgt := 152) eX0_leastPrice_131 (by decide) (fun c => ?_) (fun c => ?_)
      · have hw := hw1 c
        refine x_iinc (v := (x11 + nI 1)) (ls' := [_, _, _, _, _, _, _, _, _, _, _, _]) eX0_leastPrice_152 rfl rfl rfl rfl ?_
        refine q_goto (tgt := 104) eX0_leastPrice_155 (by decide) ?_
        refine q_le (ls' := [some _, some _, some _, some _, some _, none, some _, some _, none, some _, some _, some _]) ⟨rfl, rfl, rfl, rfl, rfl, rfl, rfl, rfl, rfl, rfl, trivial⟩ ?_
        exact ih _ _ _ _ _ _ _ _ _ _ _ hw
      · have hw := hw2 c
        refine q_iload eX0_leastPrice_134 rfl ?_
        refine q_aload_nr eX0_leastPrice_136 rfl ?_
        refine q_iload eX0_leastPrice_137 rfl ?_
        refine q_iload_n eX0_leastPrice_139 rfl ?_
        refine q_iload_n eX0_leastPrice_140 rfl ?_
        refine q_iload_n eX0_leastPrice_141 rfl ?_
        refine q_iload eX0_leastPrice_142 rfl ?_
        refine q_callV (b := 0) (t := 0) (hPX0_paidFrom _ _ _ _ _ _ _ _ hw) mlX0_95 kX0_paidFrom vX0_paidFrom rfl hs9 ⟨rfl, rfl⟩ (by omega) rfl (Nat.le_of_ble_eq_true rfl) eX0_leastPrice_144 (kI fun r26 h27 hw => ?_)
        refine q_mmin mlX0_46 sMmin iNMath cMmin (by omega) (Nat.le_of_ble_eq_true rfl) eX0_leastPrice_147 ?_
        refine x_istore (ls' := [_, _, _, _, _, _, _, _, _, _, _, _]) eX0_leastPrice_150 (by decide) rfl rfl ?_
        refine x_iinc (v := (x11 + nI 1)) (ls' := [_, _, _, _, _, _, _, _, _, _, _, _]) eX0_leastPrice_152 rfl rfl rfl rfl ?_
        refine q_goto (tgt := 104) eX0_leastPrice_155 (by decide) ?_
        refine q_le (ls' := [some _, some _, some _, some _, some _, none, some _, some _, none, some _, some _, some _]) ⟨rfl, rfl, rfl, rfl, rfl, rfl, rfl, rfl, rfl, rfl, trivial⟩ ?_
        exact ih _ _ _ _ _ _ _ _ _ _ _ hw
def wX0_leastPrice_90 (Q : Int32 → MH → Prop) (PX0_paidFrom : Nat → Int32 → Int32 → Int32 → Int32 → Int32 → MH → (Int32 → MH → Prop) → Prop) (x0 : Nat) (x1 : Int32) (x2 : Int32) (x3 : Int32) (x4 : Int32) (x6 : Int32) (x7 : Int64) (h : MH) : Prop := ∃ m28, wX0_leastPrice_104 Q PX0_paidFrom m28 x0 x1 x2 x3 x4 x6 x7 (x1 &&& (-x1)) (nI 30000) (nI 0) h
set_option maxHeartbeats 4000000 in
set_option maxRecDepth 100000 in
theorem tX0_leastPrice_90 {Q : Int32 → MH → Prop} {PX0_paidFrom : Nat → Int32 → Int32 → Int32 → Int32 → Int32 → MH → (Int32 → MH → Prop) → Prop} {d d2 : Nat} (hd : 2 ≤ d) (hd2 : d2 < d) (hPX0_paidFrom : ∀ (y0 : Nat) (y1 : Int32) (y2 : Int32) (y3 : Int32) (y4 : Int32) (y5 : Int32) (h : MH) (Q : Int32 → MH → Prop), PX0_paidFrom y0 y1 y2 y3 y4 y5 h Q → Cm MX0_paidFrom d2 0 0 [.ref (y0), .int (y1), .int (y2), .int (y3), .int (y4), .int (y5)] h (pI Q)) (h : MH) (x0 : Nat) (x1 : Int32) (x2 : Int32) (x3 : Int32) (x4 : Int32) (x6 : Int32) (x7 : Int64) (hw : wX0_leastPrice_90 Q PX0_paidFrom x0 x1 x2 x3 x4 x6 x7 h) : Wm MX0_leastPrice d 0 0 90 [some (.ref (x0)), some (.int (x1)), some (.int (x2)), some (.int (x3)), some (.int (x4)), none, some (.int (x6)), some (.long (x7)), none, none, none, none] [] h (pI Q) := by
  unfold wX0_leastPrice_90 at hw
  refine q_iload_n eX0_leastPrice_90 rfl ?_
  refine q_iload_n eX0_leastPrice_91 rfl ?_
  refine q_ineg eX0_leastPrice_92 ?_
  refine q_iand eX0_leastPrice_93 ?_
  refine x_istore (ls' := [_, _, _, _, _, _, _, _, _, _, _, _]) eX0_leastPrice_94 (by decide) rfl rfl ?_
  refine q_sipush (v := nI 30000) eX0_leastPrice_96 (by decide) ?_
  refine x_istore (ls' := [_, _, _, _, _, _, _, _, _, _, _, _]) eX0_leastPrice_99 (by decide) rfl rfl ?_
  refine q_iconst (v := nI 0) eX0_leastPrice_101 (by decide) ?_
  refine x_istore (ls' := [_, _, _, _, _, _, _, _, _, _, _, _]) eX0_leastPrice_102 (by decide) rfl rfl ?_
  refine q_le (ls' := [some _, some _, some _, some _, some _, none, some _, some _, none, some _, some _, some _]) ⟨rfl, rfl, rfl, rfl, rfl, rfl, rfl, rfl, rfl, rfl, trivial⟩ ?_
  obtain ⟨m28, hw⟩ := hw
  exact tX0_leastPrice_104 hd hd2 hPX0_paidFrom m28 _ _ _ _ _ _ _ _ _ _ _ hw
def wX0_leastPrice (PX0_paidFrom : Nat → Int32 → Int32 → Int32 → Int32 → Int32 → MH → (Int32 → MH → Prop) → Prop) (x0 : Nat) (x1 : Int32) (x2 : Int32) (x3 : Int32) (x4 : Int32) (h : MH) (Q : Int32 → MH → Prop) : Prop := (¬ (x1 = 0) → (x4 ≤ nI 20 → ∀ v1, v1 = ((((x1 <<< (nI 10 &&& 31)) ||| x2) * nI 2) + x3) → ∀ v2, v2 = (((v1 * (-1640531535 : Int32))).toUInt32 >>> ((nI 21).toUInt32 &&& Int32.toUInt32 31)).toInt32 → hS h x0 = (1, 0) ∧ ∀ v4, v4 = ((hL h x0 8 <<< ((nI 21).toInt64 &&& 63)) ||| (v1).toInt64) → ∃ a5, hR h x0 7 = some a5 ∧ ∃ n8, hS h a5 = (3, n8) ∧ (nI n8 ≤ v2 → wX0_leastPrice_90 Q PX0_paidFrom x0 x1 x2 x3 x4 v2 v4 h) ∧ (¬ (nI n8 ≤ v2) → vp_in (v2) n8 ∧ (¬ ((lg_cmp (((hL h a5 (v2).toNatClampNeg).toUInt64 >>> ((nI 16).toInt64.toUInt64 &&& Int64.toUInt64 63)).toInt64) (v4)) = 0) → wX0_leastPrice_90 Q PX0_paidFrom x0 x1 x2 x3 x4 v2 v4 h) ∧ ((lg_cmp (((hL h a5 (v2).toNatClampNeg).toUInt64 >>> ((nI 16).toInt64.toUInt64 &&& Int64.toUInt64 63)).toInt64) (v4)) = 0 → vp_in (v2) n8 ∧ Q (((hL h a5 (v2).toNatClampNeg).toInt32 &&& (65535 : Int32))) h))) ∧ (¬ (x4 ≤ nI 20) → Q (nI 30000) h)) ∧ (x1 = 0 → Q (nI 0) h)
set_option maxHeartbeats 4000000 in
set_option maxRecDepth 100000 in
theorem gX0_leastPrice {PX0_paidFrom : Nat → Int32 → Int32 → Int32 → Int32 → Int32 → MH → (Int32 → MH → Prop) → Prop} {d d2 : Nat} (hd : 2 ≤ d) (hd2 : d2 < d) (hPX0_paidFrom : ∀ (y0 : Nat) (y1 : Int32) (y2 : Int32) (y3 : Int32) (y4 : Int32) (y5 : Int32) (h : MH) (Q : Int32 → MH → Prop), PX0_paidFrom y0 y1 y2 y3 y4 y5 h Q → Cm MX0_paidFrom d2 0 0 [.ref (y0), .int (y1), .int (y2), .int (y3), .int (y4), .int (y5)] h (pI Q)) (x0 : Nat) (x1 : Int32) (x2 : Int32) (x3 : Int32) (x4 : Int32) (h : MH) (Q : Int32 → MH → Prop) (hw : wX0_leastPrice PX0_paidFrom x0 x1 x2 x3 x4 h Q) : Cm MX0_leastPrice d 0 0 [.ref (x0), .int (x1), .int (x2), .int (x3), .int (x4)] h (pI Q) := by
  refine cm_of [some (.ref (x0)), some (.int (x1)), some (.int (x2)), some (.int (x3)), some (.int (x4)), none, none, none, none, none, none, none] rfl pnX0 (Nat.le_of_ble_eq_true rfl) rfl ?_
  unfold wX0_leastPrice at hw
  refine q_iload_n eX0_leastPrice_0 rfl ?_
  obtain ⟨hw1, hw2⟩ := hw
  refine q_if_ne (tgt := 6) eX0_leastPrice_1 (by decide) (fun c => ?_) (fun c => ?_)
  · have hw := hw1 c
    refine q_iload eX0_leastPrice_6 rfl ?_
    refine q_bipush (v := nI 20) eX0_leastPrice_8 (by decide) ?_
    obtain ⟨hw1, hw2⟩ := hw
    refine q_icmp_le (tgt := 17) eX0_leastPrice_10 (by decide) (fun c => ?_) (fun c => ?_)
    · have hw := hw1 c
      refine q_iload_n eX0_leastPrice_17 rfl ?_
      refine q_bipush (v := nI 10) eX0_leastPrice_18 (by decide) ?_
      refine q_ishl eX0_leastPrice_20 ?_
      refine q_iload_n eX0_leastPrice_21 rfl ?_
      refine q_ior eX0_leastPrice_22 ?_
      refine q_iconst (v := nI 2) eX0_leastPrice_23 (by decide) ?_
      refine q_imul eX0_leastPrice_24 ?_
      refine q_iload_n eX0_leastPrice_25 rfl ?_
      refine q_iadd eX0_leastPrice_26 ?_
      have hw := hw _ rfl
      refine x_istore (ls' := [_, _, _, _, _, _, _, _, _, _, _, _]) eX0_leastPrice_27 (by decide) rfl rfl ?_
      refine q_iload eX0_leastPrice_29 rfl ?_
      refine q_ldc coX0_103 eX0_leastPrice_31 ?_
      refine q_imul eX0_leastPrice_33 ?_
      refine q_bipush (v := nI 21) eX0_leastPrice_34 (by decide) ?_
      refine q_iushr eX0_leastPrice_36 ?_
      have hw := hw _ rfl
      refine x_istore (ls' := [_, _, _, _, _, _, _, _, _, _, _, _]) eX0_leastPrice_37 (by decide) rfl rfl ?_
      refine q_aload_nr eX0_leastPrice_39 rfl ?_
      obtain ⟨hs3, hw⟩ := hw
      refine q_getL flX0_25 rfl hs3 eX0_leastPrice_40 ?_
      refine q_bipush (v := nI 21) eX0_leastPrice_43 (by decide) ?_
      refine q_lshl eX0_leastPrice_45 ?_
      refine q_iload eX0_leastPrice_46 rfl ?_
      refine q_i2l eX0_leastPrice_48 ?_
      refine q_lor eX0_leastPrice_49 ?_
      have hw := hw _ rfl
      refine x_lstore (ls' := [_, _, _, _, _, _, _, _, _, _, _, _]) eX0_leastPrice_50 (by decide) rfl rfl ?_
      refine q_iload eX0_leastPrice_52 rfl ?_
      refine q_aload_nr eX0_leastPrice_54 rfl ?_
      obtain ⟨a5, hr6, hw⟩ := hw
      refine q_getR flX0_21 rfl hs3 hr6 eX0_leastPrice_55 ?_
      obtain ⟨n8, hs7, hw⟩ := hw
      refine q_alen (by decide) hs7 eX0_leastPrice_58 ?_
      show Wm _ _ _ _ _ _ (.int (nI _) :: _) _ _
      obtain ⟨hw1, hw2⟩ := hw
      refine q_icmp_ge (tgt := 90) eX0_leastPrice_59 (by decide) (fun c => ?_) (fun c => ?_)
      · have hw := hw1 c
        refine q_le (ls' := [some _, some _, some _, some _, some _, none, some _, some _, none, none, none, none]) ⟨rfl, rfl, rfl, rfl, rfl, rfl, rfl, trivial⟩ ?_
        exact tX0_leastPrice_90 hd hd2 hPX0_paidFrom _ _ _ _ _ _ _ _ hw
      · have hw := hw2 c
        refine q_aload_nr eX0_leastPrice_62 rfl ?_
        refine q_getR flX0_21 rfl hs3 hr6 eX0_leastPrice_63 ?_
        refine q_iload eX0_leastPrice_66 rfl ?_
        obtain ⟨hi29, hw⟩ := hw
        refine q_lald hs7 hi29 eX0_leastPrice_68 ?_
        refine q_bipush (v := nI 16) eX0_leastPrice_69 (by decide) ?_
        refine q_lushr eX0_leastPrice_71 ?_
        refine q_lload eX0_leastPrice_72 rfl ?_
        refine q_lcmp eX0_leastPrice_74 ?_
        obtain ⟨hw1, hw2⟩ := hw
        refine q_if_ne (tgt := 90) eX0_leastPrice_75 (by decide) (fun c => ?_) (fun c => ?_)
        · have hw := hw1 c
          refine q_le (ls' := [some _, some _, some _, some _, some _, none, some _, some _, none, none, none, none]) ⟨rfl, rfl, rfl, rfl, rfl, rfl, rfl, trivial⟩ ?_
          exact tX0_leastPrice_90 hd hd2 hPX0_paidFrom _ _ _ _ _ _ _ _ hw
        · have hw := hw2 c
          refine q_aload_nr eX0_leastPrice_78 rfl ?_
          refine q_getR flX0_21 rfl hs3 hr6 eX0_leastPrice_79 ?_
          refine q_iload eX0_leastPrice_82 rfl ?_
          obtain ⟨hi30, hw⟩ := hw
          refine q_lald hs7 hi30 eX0_leastPrice_84 ?_
          refine q_l2i eX0_leastPrice_85 ?_
          refine q_ldc coX0_104 eX0_leastPrice_86 ?_
          refine q_iand eX0_leastPrice_88 ?_
          exact q_ret rfl eX0_leastPrice_89 ⟨_, rfl, hw⟩
    · have hw := hw2 c
      refine q_sipush (v := nI 30000) eX0_leastPrice_13 (by decide) ?_
      exact q_ret rfl eX0_leastPrice_16 ⟨_, rfl, hw⟩
  · have hw := hw2 c
    refine q_iconst (v := nI 0) eX0_leastPrice_4 (by decide) ?_
    exact q_ret rfl eX0_leastPrice_5 ⟨_, rfl, hw⟩
def wX0_waysFrom_20 (Q : Int32 → MH → Prop) (PX0_waysFrom : Nat → Int32 → Int32 → Int32 → Int32 → MH → (Int32 → MH → Prop) → Prop) : Nat → Nat → Int32 → Int32 → Int32 → Int32 → Int32 → MH → Prop
  | 0, _, _, _, _, _, _, _ => False
  | n + 1, x0, x2, x3, x4, x5, x6, h => hS h x0 = (1, 0) ∧ (hI h x0 2 ≤ x6 → Q (x5) h) ∧ (¬ (hI h x0 2 ≤ x6) → wX0_onceBehind x0 x6 x3 x4 h (fun r2 h3 => hS h3 x0 = (1, 0) ∧ wX0_twiceBehind x0 x6 x4 h3 (fun r5 h6 => hS h6 x0 = (1, 0) ∧ PX0_waysFrom x0 x6 (x2 - nI 1) r2 r5 h6 (fun r8 h9 => wX0_waysFrom_20 Q PX0_waysFrom n x0 x2 x3 x4 (x5 + r8) (x6 + nI 1) h9))))
set_option maxHeartbeats 4000000 in
set_option maxRecDepth 100000 in
theorem tX0_waysFrom_20 {Q : Int32 → MH → Prop} {PX0_waysFrom : Nat → Int32 → Int32 → Int32 → Int32 → MH → (Int32 → MH → Prop) → Prop} {d d2 : Nat} (hd : 2 ≤ d) (hd2 : d2 < d) (hPX0_waysFrom : ∀ (y0 : Nat) (y1 : Int32) (y2 : Int32) (y3 : Int32) (y4 : Int32) (h : MH) (Q : Int32 → MH → Prop), PX0_waysFrom y0 y1 y2 y3 y4 h Q → Cm MX0_waysFrom d2 0 0 [.ref (y0), .int (y1), .int (y2), .int (y3), .int (y4)] h (pI Q)) : ∀ (n : Nat) (h : MH) (x0 : Nat) (x2 : Int32) (x3 : Int32) (x4 : Int32) (x5 : Int32) (x6 : Int32), wX0_waysFrom_20 Q PX0_waysFrom n x0 x2 x3 x4 x5 x6 h → Wm MX0_waysFrom d 0 0 20 [some (.ref (x0)), none, some (.int (x2)), some (.int (x3)), some (.int (x4)), some (.int (x5)), some (.int (x6))] [] h (pI Q) := by
  intro n
  induction n with
  | zero => intro h x0 x2 x3 x4 x5 x6 hw; exact hw.elim
  | succ n ih =>
    intro h x0 x2 x3 x4 x5 x6 hw
    unfold wX0_waysFrom_20 at hw
    refine q_iload eX0_waysFrom_20 rfl ?_
    refine q_aload_nr eX0_waysFrom_22 rfl ?_
    obtain ⟨hs1, hw⟩ := hw
    refine q_getI flX0_52 rfl hs1 eX0_waysFrom_23 ?_
    obtain ⟨hw1, hw2⟩ := hw
    refine q_icmp_ge (tgt := 66) eX0_waysFrom_26 (by decide) (fun c => ?_) (fun c => ?_)
    · have hw := hw1 c
      refine q_iload eX0_waysFrom_66 rfl ?_
      exact q_ret rfl eX0_waysFrom_68 ⟨_, rfl, hw⟩
    · have hw := hw2 c
      refine q_iload eX0_waysFrom_29 rfl ?_
      refine q_aload_nr eX0_waysFrom_31 rfl ?_
      refine q_iload eX0_waysFrom_32 rfl ?_
      refine q_iload_n eX0_waysFrom_34 rfl ?_
      refine q_iconst (v := nI 1) eX0_waysFrom_35 (by decide) ?_
      refine q_isub eX0_waysFrom_36 ?_
      refine q_aload_nr eX0_waysFrom_37 rfl ?_
      refine q_iload eX0_waysFrom_38 rfl ?_
      refine q_iload_n eX0_waysFrom_40 rfl ?_
      refine q_iload eX0_waysFrom_41 rfl ?_
      refine q_callV (b := 0) (t := 0) (gX0_onceBehind _ _ _ _ _ _ hw) mlX0_89 kX0_onceBehind vX0_onceBehind rfl hs1 ⟨rfl, rfl⟩ (by omega) rfl (Nat.le_of_ble_eq_true rfl) eX0_waysFrom_43 (kI fun r2 h3 hw => ?_)
      refine q_aload_nr eX0_waysFrom_46 rfl ?_
      refine q_iload eX0_waysFrom_47 rfl ?_
      refine q_iload eX0_waysFrom_49 rfl ?_
      obtain ⟨hs4, hw⟩ := hw
      refine q_callV (b := 0) (t := 0) (gX0_twiceBehind _ _ _ _ _ hw) mlX0_92 kX0_twiceBehind vX0_twiceBehind rfl hs4 ⟨rfl, rfl⟩ (by omega) rfl (Nat.le_of_ble_eq_true rfl) eX0_waysFrom_51 (kI fun r5 h6 hw => ?_)
      obtain ⟨hs7, hw⟩ := hw
      refine q_callV (b := 0) (t := 0) (hPX0_waysFrom _ _ _ _ _ _ _ hw) mlX0_108 kX0_waysFrom vX0_waysFrom rfl hs7 ⟨rfl, rfl⟩ (by omega) rfl (Nat.le_of_ble_eq_true rfl) eX0_waysFrom_54 (kI fun r8 h9 hw => ?_)
      refine q_iadd eX0_waysFrom_57 ?_
      refine x_istore (ls' := [_, _, _, _, _, _, _]) eX0_waysFrom_58 (by decide) rfl rfl ?_
      refine x_iinc (v := (x6 + nI 1)) (ls' := [_, _, _, _, _, _, _]) eX0_waysFrom_60 rfl rfl rfl rfl ?_
      refine q_goto (tgt := 20) eX0_waysFrom_63 (by decide) ?_
      refine q_le (ls' := [some _, none, some _, some _, some _, some _, some _]) ⟨rfl, rfl, rfl, rfl, rfl, rfl, trivial⟩ ?_
      exact ih _ _ _ _ _ _ _ hw
def wX0_waysFrom (PX0_waysFrom : Nat → Int32 → Int32 → Int32 → Int32 → MH → (Int32 → MH → Prop) → Prop) (x0 : Nat) (x1 : Int32) (x2 : Int32) (x3 : Int32) (x4 : Int32) (h : MH) (Q : Int32 → MH → Prop) : Prop := (0 < x2 → ∃ m10, wX0_waysFrom_20 Q PX0_waysFrom m10 x0 x2 x3 x4 (nI 0) x1 h) ∧ (¬ (0 < x2) → Q ((if x3 = 0 then nI 1 else nI 0)) h)
set_option maxHeartbeats 4000000 in
set_option maxRecDepth 100000 in
theorem gX0_waysFrom {PX0_waysFrom : Nat → Int32 → Int32 → Int32 → Int32 → MH → (Int32 → MH → Prop) → Prop} {d d2 : Nat} (hd : 2 ≤ d) (hd2 : d2 < d) (hPX0_waysFrom : ∀ (y0 : Nat) (y1 : Int32) (y2 : Int32) (y3 : Int32) (y4 : Int32) (h : MH) (Q : Int32 → MH → Prop), PX0_waysFrom y0 y1 y2 y3 y4 h Q → Cm MX0_waysFrom d2 0 0 [.ref (y0), .int (y1), .int (y2), .int (y3), .int (y4)] h (pI Q)) (x0 : Nat) (x1 : Int32) (x2 : Int32) (x3 : Int32) (x4 : Int32) (h : MH) (Q : Int32 → MH → Prop) (hw : wX0_waysFrom PX0_waysFrom x0 x1 x2 x3 x4 h Q) : Cm MX0_waysFrom d 0 0 [.ref (x0), .int (x1), .int (x2), .int (x3), .int (x4)] h (pI Q) := by
  refine cm_of [some (.ref (x0)), some (.int (x1)), some (.int (x2)), some (.int (x3)), some (.int (x4)), none, none] rfl pnX0 (Nat.le_of_ble_eq_true rfl) rfl ?_
  unfold wX0_waysFrom at hw
  refine q_iload_n eX0_waysFrom_0 rfl ?_
  obtain ⟨hw1, hw2⟩ := hw
  refine q_if_gt (tgt := 14) eX0_waysFrom_1 (by decide) (fun c => ?_) (fun c => ?_)
  · have hw := hw1 c
    refine q_iconst (v := nI 0) eX0_waysFrom_14 (by decide) ?_
    refine x_istore (ls' := [_, _, _, _, _, _, _]) eX0_waysFrom_15 (by decide) rfl rfl ?_
    refine q_iload_n eX0_waysFrom_17 rfl ?_
    refine x_istore (ls' := [_, _, _, _, _, _, _]) eX0_waysFrom_18 (by decide) rfl rfl ?_
    refine q_le (ls' := [some _, none, some _, some _, some _, some _, some _]) ⟨rfl, rfl, rfl, rfl, rfl, rfl, trivial⟩ ?_
    obtain ⟨m10, hw⟩ := hw
    exact tX0_waysFrom_20 hd hd2 hPX0_waysFrom m10 _ _ _ _ _ _ _ hw
  · have hw := hw2 c
    refine q_iload_n eX0_waysFrom_4 rfl ?_
    have hj12 : Wm MX0_waysFrom d 0 0 13 [some (.ref (x0)), some (.int (x1)), some (.int (x2)), some (.int (x3)), some (.int (x4)), none, none] [.int ((if x3 = 0 then nI 1 else nI 0))] h (pI Q) := by
      exact q_ret rfl eX0_waysFrom_13 ⟨_, rfl, hw⟩
    refine q_if_ne (tgt := 12) eX0_waysFrom_5 (by decide) (fun c => ?_) (fun c => ?_)
    · refine q_iconst (v := nI 0) eX0_waysFrom_12 (by decide) ?_
      rw [if_neg c] at hj12
      exact hj12
    · refine q_iconst (v := nI 1) eX0_waysFrom_8 (by decide) ?_
      refine q_goto (tgt := 13) eX0_waysFrom_9 (by decide) ?_
      rw [if_pos c] at hj12
      exact hj12
def wX4_working_4 (Q : Int32 → MH → Prop) : Nat → Nat → Int32 → Int32 → Int32 → MH → Prop
  | 0, _, _, _, _, _ => False
  | n + 1, x0, x1, x2, x3, h => hS h x0 = (1, 4) ∧ (hI h x0 3 ≤ x3 → Q (x2) h) ∧ (¬ (hI h x0 3 ≤ x3) → ∃ a2, hR h x0 7 = some a2 ∧ ∃ n5, hS h a2 = (2, n5) ∧ vp_in (x3) n5 ∧ ∀ v8, v8 = (x2 ||| (if hI h a2 (x3).toNatClampNeg < x1 then nI 0 else (nI 1 <<< (x3 &&& 31)))) → wX4_working_4 Q n x0 x1 v8 (x3 + nI 1) h)
set_option maxHeartbeats 4000000 in
set_option maxRecDepth 100000 in
theorem tX4_working_4 {Q : Int32 → MH → Prop} : ∀ (n : Nat) (h : MH) (x0 : Nat) (x1 : Int32) (x2 : Int32) (x3 : Int32), wX4_working_4 Q n x0 x1 x2 x3 h → Wm MX4_working 0 0 0 4 [some (.ref (x0)), some (.int (x1)), some (.int (x2)), some (.int (x3))] [] h (pI Q) := by
  intro n
  induction n with
  | zero => intro h x0 x1 x2 x3 hw; exact hw.elim
  | succ n ih =>
    intro h x0 x1 x2 x3 hw
    unfold wX4_working_4 at hw
    refine q_iload_n eX4_working_4 rfl ?_
    refine q_aload_nr eX4_working_5 rfl ?_
    obtain ⟨hs1, hw⟩ := hw
    refine q_getI flX4_21 rfl hs1 eX4_working_6 ?_
    obtain ⟨hw1, hw2⟩ := hw
    refine q_icmp_ge (tgt := 38) eX4_working_9 (by decide) (fun c => ?_) (fun c => ?_)
    · have hw := hw1 c
      refine q_iload_n eX4_working_38 rfl ?_
      exact q_ret rfl eX4_working_39 ⟨_, rfl, hw⟩
    · have hw := hw2 c
      refine q_iload_n eX4_working_12 rfl ?_
      refine q_aload_nr eX4_working_13 rfl ?_
      obtain ⟨a2, hr3, hw⟩ := hw
      refine q_getR flX4_34 rfl hs1 hr3 eX4_working_14 ?_
      refine q_iload_n eX4_working_17 rfl ?_
      obtain ⟨n5, hs4, hw⟩ := hw
      obtain ⟨hi6, hw⟩ := hw
      refine q_iald hs4 hi6 eX4_working_18 ?_
      refine q_iload_n eX4_working_19 rfl ?_
      have hj9 : Wm MX4_working 0 0 0 30 [some (.ref (x0)), some (.int (x1)), some (.int (x2)), some (.int (x3))] [.int ((if hI h a2 (x3).toNatClampNeg < x1 then nI 0 else (nI 1 <<< (x3 &&& 31)))), .int (x2)] h (pI Q) := by
        refine q_ior eX4_working_30 ?_
        have hw := hw _ rfl
        refine x_istore_n (ls' := [_, _, _, _]) eX4_working_31 (by decide) rfl rfl ?_
        refine x_iinc (v := (x3 + nI 1)) (ls' := [_, _, _, _]) eX4_working_32 rfl rfl rfl rfl ?_
        refine q_goto (tgt := 4) eX4_working_35 (by decide) ?_
        refine q_le (ls' := [some _, some _, some _, some _]) ⟨rfl, rfl, rfl, rfl, trivial⟩ ?_
        exact ih _ _ _ _ _ hw
      refine q_icmp_lt (tgt := 29) eX4_working_20 (by decide) (fun c => ?_) (fun c => ?_)
      · refine q_iconst (v := nI 0) eX4_working_29 (by decide) ?_
        rw [if_pos c] at hj9
        exact hj9
      · refine q_iconst (v := nI 1) eX4_working_23 (by decide) ?_
        refine q_iload_n eX4_working_24 rfl ?_
        refine q_ishl eX4_working_25 ?_
        refine q_goto (tgt := 30) eX4_working_26 (by decide) ?_
        rw [if_neg c] at hj9
        exact hj9
def wX4_working (x0 : Nat) (x1 : Int32) (h : MH) (Q : Int32 → MH → Prop) : Prop := ∃ m10, wX4_working_4 Q m10 x0 x1 (nI 0) (nI 0) h
set_option maxHeartbeats 4000000 in
set_option maxRecDepth 100000 in
theorem gX4_working (x0 : Nat) (x1 : Int32) (h : MH) (Q : Int32 → MH → Prop) (hw : wX4_working x0 x1 h Q) : Cm MX4_working 0 0 0 [.ref (x0), .int (x1)] h (pI Q) := by
  refine cm_of [some (.ref (x0)), some (.int (x1)), none, none] rfl pnX4 (Nat.le_of_ble_eq_true rfl) rfl ?_
  unfold wX4_working at hw
  refine q_iconst (v := nI 0) eX4_working_0 (by decide) ?_
  refine x_istore_n (ls' := [_, _, _, _]) eX4_working_1 (by decide) rfl rfl ?_
  refine q_iconst (v := nI 0) eX4_working_2 (by decide) ?_
  refine x_istore_n (ls' := [_, _, _, _]) eX4_working_3 (by decide) rfl rfl ?_
  refine q_le (ls' := [some _, some _, some _, some _]) ⟨rfl, rfl, rfl, rfl, trivial⟩ ?_
  obtain ⟨m10, hw⟩ := hw
  exact tX4_working_4 m10 _ _ _ _ _ hw
def wX0_countWays (x0 : Nat) (x1 : Nat) (x2 : Int32) (x3 : Int32) (h : MH) (Q : Int32 → MH → Prop) : Prop := hS h x0 = (1, 0) ∧ wX0_lookAt x0 x1 x2 h (fun h3 => hS h3 x0 = (1, 0) ∧ ∃ a5, hR h3 x0 0 = some a5 ∧ hS h3 a5 = (1, 4) ∧ wX4_working a5 (nI 1) h3 (fun r8 h9 => hS h9 x0 = (1, 0) ∧ ∃ a11, hR h9 x0 0 = some a11 ∧ hS h9 a11 = (1, 4) ∧ wX4_working a11 (nI 2) h9 (fun r14 h15 => hS h15 x0 = (1, 0) ∧ Cm MX0_waysFrom 300 0 0 [.ref (x0), .int (nI 0), .int (x3), .int (r8), .int (r14)] h15 (pI fun r17 h18 => Q (r17) h18))))
set_option maxHeartbeats 4000000 in
set_option maxRecDepth 100000 in
theorem gX0_countWays (x0 : Nat) (x1 : Nat) (x2 : Int32) (x3 : Int32) (h : MH) (Q : Int32 → MH → Prop) (hw : wX0_countWays x0 x1 x2 x3 h Q) : Cm MX0_countWays 301 0 0 [.ref (x0), .ref (x1), .int (x2), .int (x3)] h (pI Q) := by
  refine cm_of [some (.ref (x0)), some (.ref (x1)), some (.int (x2)), some (.int (x3))] rfl pnX0 (Nat.le_of_ble_eq_true rfl) rfl ?_
  unfold wX0_countWays at hw
  refine q_aload_nr eX0_countWays_0 rfl ?_
  refine q_aload_nr eX0_countWays_1 rfl ?_
  refine q_iload_n eX0_countWays_2 rfl ?_
  obtain ⟨hs1, hw⟩ := hw
  refine q_callV (b := 0) (t := 0) (gX0_lookAt _ _ _ _ _ hw) mlX0_71 kX0_lookAt vX0_lookAt rfl hs1 ⟨rfl, rfl⟩ (by decide) rfl (Nat.le_of_ble_eq_true rfl) eX0_countWays_3 (kV fun h3 hw => ?_)
  refine q_aload_nr eX0_countWays_6 rfl ?_
  refine q_iconst (v := nI 0) eX0_countWays_7 (by decide) ?_
  refine q_iload_n eX0_countWays_8 rfl ?_
  refine q_aload_nr eX0_countWays_9 rfl ?_
  obtain ⟨hs4, hw⟩ := hw
  obtain ⟨a5, hr6, hw⟩ := hw
  refine q_getR flX0_32 rfl hs4 hr6 eX0_countWays_10 ?_
  refine q_iconst (v := nI 1) eX0_countWays_13 (by decide) ?_
  obtain ⟨hs7, hw⟩ := hw
  refine q_callV (b := 0) (t := 0) (gX4_working _ _ _ _ hw) mlX0_105 kX4_working vX4_working rfl hs7 ⟨rfl, rfl⟩ (by decide) rfl (Nat.le_of_ble_eq_true rfl) eX0_countWays_14 (kI fun r8 h9 hw => ?_)
  refine q_aload_nr eX0_countWays_17 rfl ?_
  obtain ⟨hs10, hw⟩ := hw
  obtain ⟨a11, hr12, hw⟩ := hw
  refine q_getR flX0_32 rfl hs10 hr12 eX0_countWays_18 ?_
  refine q_iconst (v := nI 2) eX0_countWays_21 (by decide) ?_
  obtain ⟨hs13, hw⟩ := hw
  refine q_callV (b := 0) (t := 0) (gX4_working _ _ _ _ hw) mlX0_105 kX4_working vX4_working rfl hs13 ⟨rfl, rfl⟩ (by decide) rfl (Nat.le_of_ble_eq_true rfl) eX0_countWays_22 (kI fun r14 h15 hw => ?_)
  obtain ⟨hs16, hw⟩ := hw
  refine q_callV (b := 0) (t := 0) hw mlX0_108 kX0_waysFrom vX0_waysFrom rfl hs16 ⟨rfl, rfl⟩ (by decide) rfl (Nat.le_of_ble_eq_true rfl) eX0_countWays_25 (kI fun r17 h18 hw => ?_)
  exact q_ret rfl eX0_countWays_28 ⟨_, rfl, hw⟩
def wJ6_bitCount_0f7a4 (x0 : Int32) (h : MH) (Q : Int32 → MH → Prop) : Prop := ∀ v1, v1 = (x0 - (((x0).toUInt32 >>> ((nI 1).toUInt32 &&& Int32.toUInt32 31)).toInt32 &&& (1431655765 : Int32))) → ∀ v2, v2 = ((v1 &&& (858993459 : Int32)) + (((v1).toUInt32 >>> ((nI 2).toUInt32 &&& Int32.toUInt32 31)).toInt32 &&& (858993459 : Int32))) → ∀ v3, v3 = ((v2 + ((v2).toUInt32 >>> ((nI 4).toUInt32 &&& Int32.toUInt32 31)).toInt32) &&& (252645135 : Int32)) → ∀ v4, v4 = (v3 + ((v3).toUInt32 >>> ((nI 8).toUInt32 &&& Int32.toUInt32 31)).toInt32) → ∀ v5, v5 = (v4 + ((v4).toUInt32 >>> ((nI 16).toUInt32 &&& Int32.toUInt32 31)).toInt32) → Q ((v5 &&& nI 63)) h
set_option maxHeartbeats 4000000 in
set_option maxRecDepth 100000 in
theorem gJ6_bitCount_0f7a4 (x0 : Int32) (h : MH) (Q : Int32 → MH → Prop) (hw : wJ6_bitCount_0f7a4 x0 h Q) : Cm MJ6_bitCount_0f7a4 0 0 0 [.int (x0)] h (pI Q) := by
  refine cm_of [some (.int (x0))] rfl pnJ6 (Nat.le_of_ble_eq_true rfl) rfl ?_
  unfold wJ6_bitCount_0f7a4 at hw
  refine q_iload_n eJ6_bitCount_0f7a4_0 rfl ?_
  refine q_iload_n eJ6_bitCount_0f7a4_1 rfl ?_
  refine q_iconst (v := nI 1) eJ6_bitCount_0f7a4_2 (by decide) ?_
  refine q_iushr eJ6_bitCount_0f7a4_3 ?_
  refine q_ldcw coJ6_265 eJ6_bitCount_0f7a4_4 ?_
  refine q_iand eJ6_bitCount_0f7a4_7 ?_
  refine q_isub eJ6_bitCount_0f7a4_8 ?_
  have hw := hw _ rfl
  refine x_istore_n (ls' := [_]) eJ6_bitCount_0f7a4_9 (by decide) rfl rfl ?_
  refine q_iload_n eJ6_bitCount_0f7a4_10 rfl ?_
  refine q_ldcw coJ6_266 eJ6_bitCount_0f7a4_11 ?_
  refine q_iand eJ6_bitCount_0f7a4_14 ?_
  refine q_iload_n eJ6_bitCount_0f7a4_15 rfl ?_
  refine q_iconst (v := nI 2) eJ6_bitCount_0f7a4_16 (by decide) ?_
  refine q_iushr eJ6_bitCount_0f7a4_17 ?_
  refine q_ldcw coJ6_266 eJ6_bitCount_0f7a4_18 ?_
  refine q_iand eJ6_bitCount_0f7a4_21 ?_
  refine q_iadd eJ6_bitCount_0f7a4_22 ?_
  have hw := hw _ rfl
  refine x_istore_n (ls' := [_]) eJ6_bitCount_0f7a4_23 (by decide) rfl rfl ?_
  refine q_iload_n eJ6_bitCount_0f7a4_24 rfl ?_
  refine q_iload_n eJ6_bitCount_0f7a4_25 rfl ?_
  refine q_iconst (v := nI 4) eJ6_bitCount_0f7a4_26 (by decide) ?_
  refine q_iushr eJ6_bitCount_0f7a4_27 ?_
  refine q_iadd eJ6_bitCount_0f7a4_28 ?_
  refine q_ldcw coJ6_267 eJ6_bitCount_0f7a4_29 ?_
  refine q_iand eJ6_bitCount_0f7a4_32 ?_
  have hw := hw _ rfl
  refine x_istore_n (ls' := [_]) eJ6_bitCount_0f7a4_33 (by decide) rfl rfl ?_
  refine q_iload_n eJ6_bitCount_0f7a4_34 rfl ?_
  refine q_iload_n eJ6_bitCount_0f7a4_35 rfl ?_
  refine q_bipush (v := nI 8) eJ6_bitCount_0f7a4_36 (by decide) ?_
  refine q_iushr eJ6_bitCount_0f7a4_38 ?_
  refine q_iadd eJ6_bitCount_0f7a4_39 ?_
  have hw := hw _ rfl
  refine x_istore_n (ls' := [_]) eJ6_bitCount_0f7a4_40 (by decide) rfl rfl ?_
  refine q_iload_n eJ6_bitCount_0f7a4_41 rfl ?_
  refine q_iload_n eJ6_bitCount_0f7a4_42 rfl ?_
  refine q_bipush (v := nI 16) eJ6_bitCount_0f7a4_43 (by decide) ?_
  refine q_iushr eJ6_bitCount_0f7a4_45 ?_
  refine q_iadd eJ6_bitCount_0f7a4_46 ?_
  have hw := hw _ rfl
  refine x_istore_n (ls' := [_]) eJ6_bitCount_0f7a4_47 (by decide) rfl rfl ?_
  refine q_iload_n eJ6_bitCount_0f7a4_48 rfl ?_
  refine q_bipush (v := nI 63) eJ6_bitCount_0f7a4_49 (by decide) ?_
  refine q_iand eJ6_bitCount_0f7a4_51 ?_
  exact q_ret rfl eJ6_bitCount_0f7a4_52 ⟨_, rfl, hw⟩
def wX0_usesOf (x0 : Nat) (x1 : Int32) (h : MH) (Q : Int32 → MH → Prop) : Prop := hS h x0 = (1, 0) ∧ ∃ a2, hR h x0 3 = some a2 ∧ ∃ n5, hS h a2 = (2, n5) ∧ vp_in (x1) n5 ∧ wJ6_bitCount_0f7a4 (hI h a2 (x1).toNatClampNeg) h (fun r7 h8 => hS h8 x0 = (1, 0) ∧ ∃ a10, hR h8 x0 4 = some a10 ∧ ∃ n13, hS h8 a10 = (2, n13) ∧ vp_in (x1) n13 ∧ wJ6_bitCount_0f7a4 (hI h8 a10 (x1).toNatClampNeg) h8 (fun r15 h16 => Q ((r7 + (nI 2 * r15))) h16))
set_option maxHeartbeats 4000000 in
set_option maxRecDepth 100000 in
theorem gX0_usesOf (x0 : Nat) (x1 : Int32) (h : MH) (Q : Int32 → MH → Prop) (hw : wX0_usesOf x0 x1 h Q) : Cm MX0_usesOf 1 0 0 [.ref (x0), .int (x1)] h (pI Q) := by
  refine cm_of [some (.ref (x0)), some (.int (x1))] rfl pnX0 (Nat.le_of_ble_eq_true rfl) rfl ?_
  unfold wX0_usesOf at hw
  refine q_aload_nr eX0_usesOf_0 rfl ?_
  obtain ⟨hs1, hw⟩ := hw
  obtain ⟨a2, hr3, hw⟩ := hw
  refine q_getR flX0_9 rfl hs1 hr3 eX0_usesOf_1 ?_
  refine q_iload_n eX0_usesOf_4 rfl ?_
  obtain ⟨n5, hs4, hw⟩ := hw
  obtain ⟨hi6, hw⟩ := hw
  refine q_iald hs4 hi6 eX0_usesOf_5 ?_
  refine q_callS (b := 0) (t := 0) (gJ6_bitCount_0f7a4 _ _ _ hw) mlX0_114 kJ6_bitCount_0f7a4 sJ6_bitCount_0f7a4 rfl (by decide) rfl (Nat.le_of_ble_eq_true rfl) eX0_usesOf_6 (kI fun r7 h8 hw => ?_)
  refine q_iconst (v := nI 2) eX0_usesOf_9 (by decide) ?_
  refine q_aload_nr eX0_usesOf_10 rfl ?_
  obtain ⟨hs9, hw⟩ := hw
  obtain ⟨a10, hr11, hw⟩ := hw
  refine q_getR flX0_15 rfl hs9 hr11 eX0_usesOf_11 ?_
  refine q_iload_n eX0_usesOf_14 rfl ?_
  obtain ⟨n13, hs12, hw⟩ := hw
  obtain ⟨hi14, hw⟩ := hw
  refine q_iald hs12 hi14 eX0_usesOf_15 ?_
  refine q_callS (b := 0) (t := 0) (gJ6_bitCount_0f7a4 _ _ _ hw) mlX0_114 kJ6_bitCount_0f7a4 sJ6_bitCount_0f7a4 rfl (by decide) rfl (Nat.le_of_ble_eq_true rfl) eX0_usesOf_16 (kI fun r15 h16 hw => ?_)
  refine q_imul eX0_usesOf_19 ?_
  refine q_iadd eX0_usesOf_20 ?_
  exact q_ret rfl eX0_usesOf_21 ⟨_, rfl, hw⟩
def wX0_bestFor_52 (Q : Int32 → MH → Prop) (K12 : Nat → Int32 → Int32 → Int32 → MH → Prop) (x0 : Nat) (x3 : Int32) (x4 : Int32) (x5 : Int32) (s0 : Int32) (h : MH) : Prop := (s0 = 0 → K12 x0 x3 x4 (x5 + nI 1) h) ∧ (¬ (s0 = 0) → (x4 < 0 → K12 x0 x3 x5 (x5 + nI 1) h) ∧ (¬ (x4 < 0) → hS h x0 = (1, 0) ∧ ∃ a6, hR h x0 5 = some a6 ∧ ∃ n9, hS h a6 = (2, n9) ∧ vp_in (x5) n9 ∧ wX0_usesOf x0 x4 h (fun r11 h12 => hS h12 x0 = (1, 0) ∧ ∃ a14, hR h12 x0 5 = some a14 ∧ ∃ n17, hS h12 a14 = (2, n17) ∧ vp_in (x4) n17 ∧ wX0_usesOf x0 x5 h12 (fun r19 h20 => ((hI h12 a14 (x4).toNatClampNeg * r19) ≤ (hI h a6 (x5).toNatClampNeg * r11) → K12 x0 x3 x4 (x5 + nI 1) h20) ∧ (¬ ((hI h12 a14 (x4).toNatClampNeg * r19) ≤ (hI h a6 (x5).toNatClampNeg * r11)) → K12 x0 x3 x5 (x5 + nI 1) h20)))))
set_option maxHeartbeats 4000000 in
set_option maxRecDepth 100000 in
theorem tX0_bestFor_52 {Q : Int32 → MH → Prop} {K12 : Nat → Int32 → Int32 → Int32 → MH → Prop} (hK12 : ∀ (h : MH) (x0 : Nat) (x3 : Int32) (x4 : Int32) (x5 : Int32), K12 x0 x3 x4 x5 h → Wm MX0_bestFor 3 0 0 12 [some (.ref (x0)), none, none, some (.int (x3)), some (.int (x4)), some (.int (x5)), none] [] h (pI Q)) (h : MH) (x0 : Nat) (x3 : Int32) (x4 : Int32) (x5 : Int32) (s0 : Int32) (hw : wX0_bestFor_52 Q K12 x0 x3 x4 x5 s0 h) : Wm MX0_bestFor 3 0 0 52 [some (.ref (x0)), none, none, some (.int (x3)), some (.int (x4)), some (.int (x5)), none] [.int (s0)] h (pI Q) := by
  unfold wX0_bestFor_52 at hw
  refine x_istore (ls' := [_, _, _, _, _, _, _]) eX0_bestFor_52 (by decide) rfl rfl ?_
  refine q_iload eX0_bestFor_54 rfl ?_
  obtain ⟨hw1, hw2⟩ := hw
  refine q_if_eq (tgt := 99) eX0_bestFor_56 (by decide) (fun c => ?_) (fun c => ?_)
  · have hw := hw1 c
    refine x_iinc (v := (x5 + nI 1)) (ls' := [_, _, _, _, _, _, _]) eX0_bestFor_99 rfl rfl rfl rfl ?_
    refine q_goto (tgt := 12) eX0_bestFor_102 (by decide) ?_
    refine q_le (ls' := [some _, none, none, some _, some _, some _, none]) ⟨rfl, rfl, rfl, rfl, trivial⟩ ?_
    exact hK12 _ _ _ _ _ hw
  · have hw := hw2 c
    refine q_iload eX0_bestFor_59 rfl ?_
    obtain ⟨hw1, hw2⟩ := hw
    refine q_if_lt (tgt := 95) eX0_bestFor_61 (by decide) (fun c => ?_) (fun c => ?_)
    · have hw := hw1 c
      refine q_iload eX0_bestFor_95 rfl ?_
      refine x_istore (ls' := [_, _, _, _, _, _, _]) eX0_bestFor_97 (by decide) rfl rfl ?_
      refine x_iinc (v := (x5 + nI 1)) (ls' := [_, _, _, _, _, _, _]) eX0_bestFor_99 rfl rfl rfl rfl ?_
      refine q_goto (tgt := 12) eX0_bestFor_102 (by decide) ?_
      refine q_le (ls' := [some _, none, none, some _, some _, some _, none]) ⟨rfl, rfl, rfl, rfl, trivial⟩ ?_
      exact hK12 _ _ _ _ _ hw
    · have hw := hw2 c
      refine q_aload_nr eX0_bestFor_64 rfl ?_
      obtain ⟨hs5, hw⟩ := hw
      obtain ⟨a6, hr7, hw⟩ := hw
      refine q_getR flX0_18 rfl hs5 hr7 eX0_bestFor_65 ?_
      refine q_iload eX0_bestFor_68 rfl ?_
      obtain ⟨n9, hs8, hw⟩ := hw
      obtain ⟨hi10, hw⟩ := hw
      refine q_iald hs8 hi10 eX0_bestFor_70 ?_
      refine q_aload_nr eX0_bestFor_71 rfl ?_
      refine q_iload eX0_bestFor_72 rfl ?_
      refine q_callV (b := 0) (t := 0) (gX0_usesOf _ _ _ _ hw) mlX0_111 kX0_usesOf vX0_usesOf rfl hs5 ⟨rfl, rfl⟩ (by decide) rfl (Nat.le_of_ble_eq_true rfl) eX0_bestFor_74 (kI fun r11 h12 hw => ?_)
      refine q_imul eX0_bestFor_77 ?_
      refine q_aload_nr eX0_bestFor_78 rfl ?_
      obtain ⟨hs13, hw⟩ := hw
      obtain ⟨a14, hr15, hw⟩ := hw
      refine q_getR flX0_18 rfl hs13 hr15 eX0_bestFor_79 ?_
      refine q_iload eX0_bestFor_82 rfl ?_
      obtain ⟨n17, hs16, hw⟩ := hw
      obtain ⟨hi18, hw⟩ := hw
      refine q_iald hs16 hi18 eX0_bestFor_84 ?_
      refine q_aload_nr eX0_bestFor_85 rfl ?_
      refine q_iload eX0_bestFor_86 rfl ?_
      refine q_callV (b := 0) (t := 0) (gX0_usesOf _ _ _ _ hw) mlX0_111 kX0_usesOf vX0_usesOf rfl hs13 ⟨rfl, rfl⟩ (by decide) rfl (Nat.le_of_ble_eq_true rfl) eX0_bestFor_88 (kI fun r19 h20 hw => ?_)
      refine q_imul eX0_bestFor_91 ?_
      obtain ⟨hw1, hw2⟩ := hw
      refine q_icmp_ge (tgt := 99) eX0_bestFor_92 (by decide) (fun c => ?_) (fun c => ?_)
      · have hw := hw1 c
        refine x_iinc (v := (x5 + nI 1)) (ls' := [_, _, _, _, _, _, _]) eX0_bestFor_99 rfl rfl rfl rfl ?_
        refine q_goto (tgt := 12) eX0_bestFor_102 (by decide) ?_
        refine q_le (ls' := [some _, none, none, some _, some _, some _, none]) ⟨rfl, rfl, rfl, rfl, trivial⟩ ?_
        exact hK12 _ _ _ _ _ hw
      · have hw := hw2 c
        refine q_iload eX0_bestFor_95 rfl ?_
        refine x_istore (ls' := [_, _, _, _, _, _, _]) eX0_bestFor_97 (by decide) rfl rfl ?_
        refine x_iinc (v := (x5 + nI 1)) (ls' := [_, _, _, _, _, _, _]) eX0_bestFor_99 rfl rfl rfl rfl ?_
        refine q_goto (tgt := 12) eX0_bestFor_102 (by decide) ?_
        refine q_le (ls' := [some _, none, none, some _, some _, some _, none]) ⟨rfl, rfl, rfl, rfl, trivial⟩ ?_
        exact hK12 _ _ _ _ _ hw
def wX0_bestFor_47 (Q : Int32 → MH → Prop) (K12 : Nat → Int32 → Int32 → Int32 → MH → Prop) (x0 : Nat) (x3 : Int32) (x4 : Int32) (x5 : Int32) (h : MH) : Prop := wX0_bestFor_52 Q K12 x0 x3 x4 x5 (nI 1) h
set_option maxHeartbeats 4000000 in
set_option maxRecDepth 100000 in
theorem tX0_bestFor_47 {Q : Int32 → MH → Prop} {K12 : Nat → Int32 → Int32 → Int32 → MH → Prop} (hK12 : ∀ (h : MH) (x0 : Nat) (x3 : Int32) (x4 : Int32) (x5 : Int32), K12 x0 x3 x4 x5 h → Wm MX0_bestFor 3 0 0 12 [some (.ref (x0)), none, none, some (.int (x3)), some (.int (x4)), some (.int (x5)), none] [] h (pI Q)) (h : MH) (x0 : Nat) (x3 : Int32) (x4 : Int32) (x5 : Int32) (hw : wX0_bestFor_47 Q K12 x0 x3 x4 x5 h) : Wm MX0_bestFor 3 0 0 47 [some (.ref (x0)), none, none, some (.int (x3)), some (.int (x4)), some (.int (x5)), none] [] h (pI Q) := by
  unfold wX0_bestFor_47 at hw
  refine q_iconst (v := nI 1) eX0_bestFor_47 (by decide) ?_
  refine q_goto (tgt := 52) eX0_bestFor_48 (by decide) ?_
  refine q_le (ls' := [some _, none, none, some _, some _, some _, none]) ⟨rfl, rfl, rfl, rfl, trivial⟩ ?_
  exact tX0_bestFor_52 hK12 _ _ _ _ _ _ hw
def wX0_bestFor_12 (Q : Int32 → MH → Prop) : Nat → Nat → Int32 → Int32 → Int32 → MH → Prop
  | 0, _, _, _, _, _ => False
  | n + 1, x0, x3, x4, x5, h => hS h x0 = (1, 0) ∧ (hI h x0 2 ≤ x5 → Q (x4) h) ∧ (¬ (hI h x0 2 ≤ x5) → (x3 < 0 → wX0_bestFor_47 Q (wX0_bestFor_12 Q n) x0 x3 x4 x5 h) ∧ (¬ (x3 < 0) → ∃ a21, hR h x0 3 = some a21 ∧ ∃ n24, hS h a21 = (2, n24) ∧ vp_in (x5) n24 ∧ ∃ a26, hR h x0 4 = some a26 ∧ ∃ n29, hS h a26 = (2, n29) ∧ vp_in (x5) n29 ∧ wX0_bestFor_52 Q (wX0_bestFor_12 Q n) x0 x3 x4 x5 (if (((hI h a21 (x5).toNatClampNeg ||| hI h a26 (x5).toNatClampNeg) >>> (x3 &&& 31)) &&& nI 1) = 0 then nI 0 else nI 1) h))
set_option maxHeartbeats 4000000 in
set_option maxRecDepth 100000 in
theorem tX0_bestFor_12 {Q : Int32 → MH → Prop} : ∀ (n : Nat) (h : MH) (x0 : Nat) (x3 : Int32) (x4 : Int32) (x5 : Int32), wX0_bestFor_12 Q n x0 x3 x4 x5 h → Wm MX0_bestFor 3 0 0 12 [some (.ref (x0)), none, none, some (.int (x3)), some (.int (x4)), some (.int (x5)), none] [] h (pI Q) := by
  intro n
  induction n with
  | zero => intro h x0 x3 x4 x5 hw; exact hw.elim
  | succ n ih =>
    intro h x0 x3 x4 x5 hw
    unfold wX0_bestFor_12 at hw
    refine q_iload eX0_bestFor_12 rfl ?_
    refine q_aload_nr eX0_bestFor_14 rfl ?_
    obtain ⟨hs4, hw⟩ := hw
    refine q_getI flX0_52 rfl hs4 eX0_bestFor_15 ?_
    obtain ⟨hw1, hw2⟩ := hw
    refine q_icmp_ge (tgt := 105) eX0_bestFor_18 (by decide) (fun c => ?_) (fun c => ?_)
    · have hw := hw1 c
      refine q_iload eX0_bestFor_105 rfl ?_
      exact q_ret rfl eX0_bestFor_107 ⟨_, rfl, hw⟩
    · have hw := hw2 c
      refine q_iload_n eX0_bestFor_21 rfl ?_
      obtain ⟨hw1, hw2⟩ := hw
      refine q_if_lt (tgt := 47) eX0_bestFor_22 (by decide) (fun c => ?_) (fun c => ?_)
      · have hw := hw1 c
        refine q_le (ls' := [some _, none, none, some _, some _, some _, none]) ⟨rfl, rfl, rfl, rfl, trivial⟩ ?_
        exact tX0_bestFor_47 ih _ _ _ _ _ hw
      · have hw := hw2 c
        refine q_aload_nr eX0_bestFor_25 rfl ?_
        obtain ⟨a21, hr22, hw⟩ := hw
        refine q_getR flX0_9 rfl hs4 hr22 eX0_bestFor_26 ?_
        refine q_iload eX0_bestFor_29 rfl ?_
        obtain ⟨n24, hs23, hw⟩ := hw
        obtain ⟨hi25, hw⟩ := hw
        refine q_iald hs23 hi25 eX0_bestFor_31 ?_
        refine q_aload_nr eX0_bestFor_32 rfl ?_
        obtain ⟨a26, hr27, hw⟩ := hw
        refine q_getR flX0_15 rfl hs4 hr27 eX0_bestFor_33 ?_
        refine q_iload eX0_bestFor_36 rfl ?_
        obtain ⟨n29, hs28, hw⟩ := hw
        obtain ⟨hi30, hw⟩ := hw
        refine q_iald hs28 hi30 eX0_bestFor_38 ?_
        refine q_ior eX0_bestFor_39 ?_
        refine q_iload_n eX0_bestFor_40 rfl ?_
        refine q_ishr eX0_bestFor_41 ?_
        refine q_iconst (v := nI 1) eX0_bestFor_42 (by decide) ?_
        refine q_iand eX0_bestFor_43 ?_
        have hj32 : Wm MX0_bestFor 3 0 0 52 [some (.ref (x0)), none, none, some (.int (x3)), some (.int (x4)), some (.int (x5)), none] [.int ((if (((hI h a21 (x5).toNatClampNeg ||| hI h a26 (x5).toNatClampNeg) >>> (x3 &&& 31)) &&& nI 1) = 0 then nI 0 else nI 1))] h (pI Q) := by
          refine q_le (ls' := [some _, none, none, some _, some _, some _, none]) ⟨rfl, rfl, rfl, rfl, trivial⟩ ?_
          exact tX0_bestFor_52 ih _ _ _ _ _ _ hw
        refine q_if_eq (tgt := 51) eX0_bestFor_44 (by decide) (fun c => ?_) (fun c => ?_)
        · refine q_iconst (v := nI 0) eX0_bestFor_51 (by decide) ?_
          rw [if_pos c] at hj32
          exact hj32
        · refine q_iconst (v := nI 1) eX0_bestFor_47 (by decide) ?_
          refine q_goto (tgt := 52) eX0_bestFor_48 (by decide) ?_
          rw [if_neg c] at hj32
          exact hj32
def wX0_bestFor (x0 : Nat) (x1 : Nat) (x2 : Int32) (x3 : Int32) (h : MH) (Q : Int32 → MH → Prop) : Prop := hS h x0 = (1, 0) ∧ wX0_lookAt x0 x1 x2 h (fun h3 => ∃ m33, wX0_bestFor_12 Q m33 x0 x3 (-1 : Int32) (nI 0) h3)
set_option maxHeartbeats 4000000 in
set_option maxRecDepth 100000 in
theorem gX0_bestFor (x0 : Nat) (x1 : Nat) (x2 : Int32) (x3 : Int32) (h : MH) (Q : Int32 → MH → Prop) (hw : wX0_bestFor x0 x1 x2 x3 h Q) : Cm MX0_bestFor 3 0 0 [.ref (x0), .ref (x1), .int (x2), .int (x3)] h (pI Q) := by
  refine cm_of [some (.ref (x0)), some (.ref (x1)), some (.int (x2)), some (.int (x3)), none, none, none] rfl pnX0 (Nat.le_of_ble_eq_true rfl) rfl ?_
  unfold wX0_bestFor at hw
  refine q_aload_nr eX0_bestFor_0 rfl ?_
  refine q_aload_nr eX0_bestFor_1 rfl ?_
  refine q_iload_n eX0_bestFor_2 rfl ?_
  obtain ⟨hs1, hw⟩ := hw
  refine q_callV (b := 0) (t := 0) (gX0_lookAt _ _ _ _ _ hw) mlX0_71 kX0_lookAt vX0_lookAt rfl hs1 ⟨rfl, rfl⟩ (by decide) rfl (Nat.le_of_ble_eq_true rfl) eX0_bestFor_3 (kV fun h3 hw => ?_)
  refine q_iconst (v := (-1 : Int32)) eX0_bestFor_6 (by decide) ?_
  refine x_istore (ls' := [_, _, _, _, _, _, _]) eX0_bestFor_7 (by decide) rfl rfl ?_
  refine q_iconst (v := nI 0) eX0_bestFor_9 (by decide) ?_
  refine x_istore (ls' := [_, _, _, _, _, _, _]) eX0_bestFor_10 (by decide) rfl rfl ?_
  refine q_le (ls' := [some _, none, none, some _, some _, some _, none]) ⟨rfl, rfl, rfl, rfl, trivial⟩ ?_
  obtain ⟨m33, hw⟩ := hw
  exact tX0_bestFor_12 m33 _ _ _ _ _ hw
def wX1_commonDivisor_9 (Q : Int64 → MH → Prop) : Nat → Int64 → Int64 → Int32 → MH → Prop
  | 0, _, _, _, _ => False
  | n + 1, x4, x6, x8, h => (nI 200 ≤ x8 → Q (x4) h) ∧ (¬ (nI 200 ≤ x8) → ((lg_cmp (x6) ((0 : Int64))) = 0 → Q (x4) h) ∧ (¬ ((lg_cmp (x6) ((0 : Int64))) = 0) → ¬ x6 = 0 ∧ wX1_commonDivisor_9 Q n x6 (x4 - x4 / x6 * x6) (x8 + nI 1) h))
set_option maxHeartbeats 4000000 in
set_option maxRecDepth 100000 in
theorem tX1_commonDivisor_9 {Q : Int64 → MH → Prop} : ∀ (n : Nat) (h : MH) (x4 : Int64) (x6 : Int64) (x8 : Int32), wX1_commonDivisor_9 Q n x4 x6 x8 h → Wm MX1_commonDivisor 0 0 0 9 [none, none, none, none, some (.long (x4)), none, some (.long (x6)), none, some (.int (x8)), none, none] [] h (pL Q) := by
  intro n
  induction n with
  | zero => intro h x4 x6 x8 hw; exact hw.elim
  | succ n ih =>
    intro h x4 x6 x8 hw
    unfold wX1_commonDivisor_9 at hw
    refine q_iload eX1_commonDivisor_9 rfl ?_
    refine q_sipush (v := nI 200) eX1_commonDivisor_11 (by decide) ?_
    obtain ⟨hw1, hw2⟩ := hw
    refine q_icmp_ge (tgt := 45) eX1_commonDivisor_14 (by decide) (fun c => ?_) (fun c => ?_)
    · have hw := hw1 c
      refine q_lload eX1_commonDivisor_45 rfl ?_
      exact q_retL rfl eX1_commonDivisor_47 ⟨_, rfl, hw⟩
    · have hw := hw2 c
      refine q_lload eX1_commonDivisor_17 rfl ?_
      refine q_lconst (v := (0 : Int64)) eX1_commonDivisor_19 (by decide) ?_
      refine q_lcmp eX1_commonDivisor_20 ?_
      obtain ⟨hw1, hw2⟩ := hw
      refine q_if_eq (tgt := 45) eX1_commonDivisor_21 (by decide) (fun c => ?_) (fun c => ?_)
      · have hw := hw1 c
        refine q_lload eX1_commonDivisor_45 rfl ?_
        exact q_retL rfl eX1_commonDivisor_47 ⟨_, rfl, hw⟩
      · have hw := hw2 c
        refine q_lload eX1_commonDivisor_24 rfl ?_
        refine q_lload eX1_commonDivisor_26 rfl ?_
        obtain ⟨hz1, hw⟩ := hw
        refine q_lrem eX1_commonDivisor_28 hz1 ?_
        refine x_lstore (ls' := [_, _, _, _, _, _, _, _, _, _, _]) eX1_commonDivisor_29 (by decide) rfl rfl ?_
        refine q_lload eX1_commonDivisor_31 rfl ?_
        refine x_lstore (ls' := [_, _, _, _, _, _, _, _, _, _, _]) eX1_commonDivisor_33 (by decide) rfl rfl ?_
        refine q_lload eX1_commonDivisor_35 rfl ?_
        refine x_lstore (ls' := [_, _, _, _, _, _, _, _, _, _, _]) eX1_commonDivisor_37 (by decide) rfl rfl ?_
        refine x_iinc (v := (x8 + nI 1)) (ls' := [_, _, _, _, _, _, _, _, _, _, _]) eX1_commonDivisor_39 rfl rfl rfl rfl ?_
        refine q_goto (tgt := 9) eX1_commonDivisor_42 (by decide) ?_
        refine q_le (ls' := [none, none, none, none, some _, none, some _, none, some _, none, none]) ⟨rfl, rfl, rfl, trivial⟩ ?_
        exact ih _ _ _ _ hw
def wX1_commonDivisor (x0 : Int64) (x2 : Int64) (h : MH) (Q : Int64 → MH → Prop) : Prop := ∃ m2, wX1_commonDivisor_9 Q m2 x0 x2 (nI 0) h
set_option maxHeartbeats 4000000 in
set_option maxRecDepth 100000 in
theorem gX1_commonDivisor (x0 : Int64) (x2 : Int64) (h : MH) (Q : Int64 → MH → Prop) (hw : wX1_commonDivisor x0 x2 h Q) : Cm MX1_commonDivisor 0 0 0 [.long (x0), .long (x2)] h (pL Q) := by
  refine cm_of [some (.long (x0)), none, some (.long (x2)), none, none, none, none, none, none, none, none] rfl pnX1 (Nat.le_of_ble_eq_true rfl) rfl ?_
  unfold wX1_commonDivisor at hw
  refine q_lload_n eX1_commonDivisor_0 rfl ?_
  refine x_lstore (ls' := [_, _, _, _, _, _, _, _, _, _, _]) eX1_commonDivisor_1 (by decide) rfl rfl ?_
  refine q_lload_n eX1_commonDivisor_3 rfl ?_
  refine x_lstore (ls' := [_, _, _, _, _, _, _, _, _, _, _]) eX1_commonDivisor_4 (by decide) rfl rfl ?_
  refine q_iconst (v := nI 0) eX1_commonDivisor_6 (by decide) ?_
  refine x_istore (ls' := [_, _, _, _, _, _, _, _, _, _, _]) eX1_commonDivisor_7 (by decide) rfl rfl ?_
  refine q_le (ls' := [none, none, none, none, some _, none, some _, none, some _, none, none]) ⟨rfl, rfl, rfl, trivial⟩ ?_
  obtain ⟨m2, hw⟩ := hw
  exact tX1_commonDivisor_9 m2 _ _ _ _ hw
def wX1_begin_23 (Q : MH → Prop) (x0 : Nat) (x3 : Int64) (x5 : Int64) (s0 : Int64) (s1 : Nat) (h : MH) : Prop := hS h s1 = (1, 1) ∧ ∀ h5, h5 = sL h s1 0 (s0) → (¬ ((lg_cmp (x5) ((0 : Int64))) = 0) → ¬ x5 = 0 ∧ hS h5 x0 = (1, 1) ∧ ∀ h8, h8 = sL h5 x0 1 ((x3 / x5)) → Q h8) ∧ ((lg_cmp (x5) ((0 : Int64))) = 0 → hS h5 x0 = (1, 1) ∧ ∀ h10, h10 = sL h5 x0 1 (x3) → Q h10)
set_option maxHeartbeats 4000000 in
set_option maxRecDepth 100000 in
theorem tX1_begin_23 {Q : MH → Prop} (h : MH) (x0 : Nat) (x3 : Int64) (x5 : Int64) (s0 : Int64) (s1 : Nat) (hw : wX1_begin_23 Q x0 x3 x5 s0 s1 h) : Wm MX1_begin 1 0 0 23 [some (.ref (x0)), none, none, some (.long (x3)), none, some (.long (x5)), none] [.long (s0), .ref (s1)] h (pV Q) := by
  unfold wX1_begin_23 at hw
  obtain ⟨hs4, hw⟩ := hw
  have hw := hw _ rfl
  refine q_putL (fwX1_7 _) rfl hs4 eX1_begin_23 ?_
  refine q_aload_nr eX1_begin_26 rfl ?_
  refine q_lload eX1_begin_27 rfl ?_
  refine q_lconst (v := (0 : Int64)) eX1_begin_29 (by decide) ?_
  refine q_lcmp eX1_begin_30 ?_
  obtain ⟨hw1, hw2⟩ := hw
  refine q_if_ne (tgt := 38) eX1_begin_31 (by decide) (fun c => ?_) (fun c => ?_)
  · have hw := hw1 c
    refine q_lload_n eX1_begin_38 rfl ?_
    refine q_lload eX1_begin_39 rfl ?_
    obtain ⟨hz6, hw⟩ := hw
    refine q_ldiv eX1_begin_41 hz6 ?_
    obtain ⟨hs7, hw⟩ := hw
    have hw := hw _ rfl
    refine q_putL (fwX1_13 _) rfl hs7 eX1_begin_42 ?_
    exact q_retV rfl eX1_begin_45 ⟨rfl, hw⟩
  · have hw := hw2 c
    refine q_lload_n eX1_begin_34 rfl ?_
    refine q_goto (tgt := 42) eX1_begin_35 (by decide) ?_
    obtain ⟨hs9, hw⟩ := hw
    have hw := hw _ rfl
    refine q_putL (fwX1_13 _) rfl hs9 eX1_begin_42 ?_
    exact q_retV rfl eX1_begin_45 ⟨rfl, hw⟩
def wX1_begin (x0 : Nat) (x1 : Int64) (x3 : Int64) (h : MH) (Q : MH → Prop) : Prop := wX1_commonDivisor x1 x3 h (fun r1 h2 => (¬ ((lg_cmp (r1) ((0 : Int64))) = 0) → ¬ r1 = 0 ∧ wX1_begin_23 Q x0 x3 r1 (x1 / r1) x0 h2) ∧ ((lg_cmp (r1) ((0 : Int64))) = 0 → wX1_begin_23 Q x0 x3 r1 x1 x0 h2))
set_option maxHeartbeats 4000000 in
set_option maxRecDepth 100000 in
theorem gX1_begin (x0 : Nat) (x1 : Int64) (x3 : Int64) (h : MH) (Q : MH → Prop) (hw : wX1_begin x0 x1 x3 h Q) : Cm MX1_begin 1 0 0 [.ref (x0), .long (x1), .long (x3)] h (pV Q) := by
  refine cm_of [some (.ref (x0)), some (.long (x1)), none, some (.long (x3)), none, none, none] rfl pnX1 (Nat.le_of_ble_eq_true rfl) rfl ?_
  unfold wX1_begin at hw
  refine q_lload_n eX1_begin_0 rfl ?_
  refine q_lload_n eX1_begin_1 rfl ?_
  refine q_callS (b := 0) (t := 0) (gX1_commonDivisor _ _ _ _ hw) mlX1_16 kX1_commonDivisor sX1_commonDivisor rfl (by decide) rfl (Nat.le_of_ble_eq_true rfl) eX1_begin_2 (kL fun r1 h2 hw => ?_)
  refine x_lstore (ls' := [_, _, _, _, _, _, _]) eX1_begin_5 (by decide) rfl rfl ?_
  refine q_aload_nr eX1_begin_7 rfl ?_
  refine q_lload eX1_begin_8 rfl ?_
  refine q_lconst (v := (0 : Int64)) eX1_begin_10 (by decide) ?_
  refine q_lcmp eX1_begin_11 ?_
  obtain ⟨hw1, hw2⟩ := hw
  refine q_if_ne (tgt := 19) eX1_begin_12 (by decide) (fun c => ?_) (fun c => ?_)
  · have hw := hw1 c
    refine q_lload_n eX1_begin_19 rfl ?_
    refine q_lload eX1_begin_20 rfl ?_
    obtain ⟨hz3, hw⟩ := hw
    refine q_ldiv eX1_begin_22 hz3 ?_
    refine q_le (ls' := [some _, none, none, some _, none, some _, none]) ⟨rfl, rfl, rfl, trivial⟩ ?_
    exact tX1_begin_23 _ _ _ _ _ _ hw
  · have hw := hw2 c
    refine q_lload_n eX1_begin_15 rfl ?_
    refine q_goto (tgt := 23) eX1_begin_16 (by decide) ?_
    refine q_le (ls' := [some _, none, none, some _, none, some _, none]) ⟨rfl, rfl, rfl, trivial⟩ ?_
    exact tX1_begin_23 _ _ _ _ _ _ hw
def wX1_add (x0 : Nat) (x1 : Int64) (x3 : Int64) (h : MH) (Q : MH → Prop) : Prop := hS h x0 = (1, 1) ∧ wX1_begin x0 ((hL h x0 0 * x3) + (x1 * hL h x0 1)) (hL h x0 1 * x3) h (fun h3 => Q h3)
set_option maxHeartbeats 4000000 in
set_option maxRecDepth 100000 in
theorem gX1_add (x0 : Nat) (x1 : Int64) (x3 : Int64) (h : MH) (Q : MH → Prop) (hw : wX1_add x0 x1 x3 h Q) : Cm MX1_add 2 0 0 [.ref (x0), .long (x1), .long (x3)] h (pV Q) := by
  refine cm_of [some (.ref (x0)), some (.long (x1)), none, some (.long (x3)), none] rfl pnX1 (Nat.le_of_ble_eq_true rfl) rfl ?_
  unfold wX1_add at hw
  refine q_aload_nr eX1_add_0 rfl ?_
  refine q_aload_nr eX1_add_1 rfl ?_
  obtain ⟨hs1, hw⟩ := hw
  refine q_getL flX1_7 rfl hs1 eX1_add_2 ?_
  refine q_lload_n eX1_add_5 rfl ?_
  refine q_lmul eX1_add_6 ?_
  refine q_lload_n eX1_add_7 rfl ?_
  refine q_aload_nr eX1_add_8 rfl ?_
  refine q_getL flX1_13 rfl hs1 eX1_add_9 ?_
  refine q_lmul eX1_add_12 ?_
  refine q_ladd eX1_add_13 ?_
  refine q_aload_nr eX1_add_14 rfl ?_
  refine q_getL flX1_13 rfl hs1 eX1_add_15 ?_
  refine q_lload_n eX1_add_18 rfl ?_
  refine q_lmul eX1_add_19 ?_
  refine q_callV (b := 0) (t := 0) (gX1_begin _ _ _ _ _ hw) mlX1_20 kX1_begin vX1_begin rfl hs1 ⟨rfl, rfl⟩ (by decide) rfl (Nat.le_of_ble_eq_true rfl) eX1_add_20 (kV fun h3 hw => ?_)
  exact q_retV rfl eX1_add_23 ⟨rfl, hw⟩
def wX0_tellBound_9 (Q : Int32 → MH → Prop) : Nat → Nat → Nat → Int32 → Nat → Int32 → MH → Prop
  | 0, _, _, _, _, _, _ => False
  | n + 1, x0, x1, x2, x3, x4, h => hS h x1 = (1, 4) ∧ (hI h x1 3 ≤ x4 → Q (nI 1) h) ∧ (¬ (hI h x1 3 ≤ x4) → ∃ a5, hR h x1 7 = some a5 ∧ ∃ n8, hS h a5 = (2, n8) ∧ vp_in (x4) n8 ∧ (hI h a5 (x4).toNatClampNeg ≤ 0 → wX0_tellBound_9 Q n x0 x1 x2 x3 (x4 + nI 1) h) ∧ (¬ (hI h a5 (x4).toNatClampNeg ≤ 0) → hS h x0 = (1, 0) ∧ wX0_bestFor x0 x1 x2 x4 h (fun r11 h12 => (0 ≤ r11 → hS h12 x1 = (1, 4) ∧ ∃ a14, hR h12 x1 7 = some a14 ∧ ∃ n17, hS h12 a14 = (2, n17) ∧ vp_in (x4) n17 ∧ hS h12 x0 = (1, 0) ∧ ∃ a20, hR h12 x0 5 = some a20 ∧ ∃ n23, hS h12 a20 = (2, n23) ∧ vp_in (r11) n23 ∧ wX0_usesOf x0 r11 h12 (fun r25 h26 => hS h26 x3 = (1, 1) ∧ wX1_add x3 ((hI h12 a14 (x4).toNatClampNeg).toInt64 * (hI h12 a20 (r11).toNatClampNeg).toInt64) ((r25).toInt64) h26 (fun h29 => wX0_tellBound_9 Q n x0 x1 x2 x3 (x4 + nI 1) h29))) ∧ (¬ (0 ≤ r11) → Q (nI 0) h12))))
set_option maxHeartbeats 4000000 in
set_option maxRecDepth 100000 in
theorem tX0_tellBound_9 {Q : Int32 → MH → Prop} : ∀ (n : Nat) (h : MH) (x0 : Nat) (x1 : Nat) (x2 : Int32) (x3 : Nat) (x4 : Int32), wX0_tellBound_9 Q n x0 x1 x2 x3 x4 h → Wm MX0_tellBound 4 0 0 9 [some (.ref (x0)), some (.ref (x1)), some (.int (x2)), some (.ref (x3)), some (.int (x4)), none] [] h (pI Q) := by
  intro n
  induction n with
  | zero => intro h x0 x1 x2 x3 x4 hw; exact hw.elim
  | succ n ih =>
    intro h x0 x1 x2 x3 x4 hw
    unfold wX0_tellBound_9 at hw
    refine q_iload eX0_tellBound_9 rfl ?_
    refine q_aload_nr eX0_tellBound_11 rfl ?_
    obtain ⟨hs4, hw⟩ := hw
    refine q_getI flX0_125 rfl hs4 eX0_tellBound_12 ?_
    obtain ⟨hw1, hw2⟩ := hw
    refine q_icmp_ge (tgt := 79) eX0_tellBound_15 (by decide) (fun c => ?_) (fun c => ?_)
    · have hw := hw1 c
      refine q_iconst (v := nI 1) eX0_tellBound_79 (by decide) ?_
      exact q_retZ rfl (by decide) eX0_tellBound_80 ⟨_, rfl, hw⟩
    · have hw := hw2 c
      refine q_aload_nr eX0_tellBound_18 rfl ?_
      obtain ⟨a5, hr6, hw⟩ := hw
      refine q_getR flX0_128 rfl hs4 hr6 eX0_tellBound_19 ?_
      refine q_iload eX0_tellBound_22 rfl ?_
      obtain ⟨n8, hs7, hw⟩ := hw
      obtain ⟨hi9, hw⟩ := hw
      refine q_iald hs7 hi9 eX0_tellBound_24 ?_
      obtain ⟨hw1, hw2⟩ := hw
      refine q_if_le (tgt := 73) eX0_tellBound_25 (by decide) (fun c => ?_) (fun c => ?_)
      · have hw := hw1 c
        refine x_iinc (v := (x4 + nI 1)) (ls' := [_, _, _, _, _, _]) eX0_tellBound_73 rfl rfl rfl rfl ?_
        refine q_goto (tgt := 9) eX0_tellBound_76 (by decide) ?_
        refine q_le (ls' := [some _, some _, some _, some _, some _, none]) ⟨rfl, rfl, rfl, rfl, rfl, trivial⟩ ?_
        exact ih _ _ _ _ _ _ hw
      · have hw := hw2 c
        refine q_aload_nr eX0_tellBound_28 rfl ?_
        refine q_aload_nr eX0_tellBound_29 rfl ?_
        refine q_iload_n eX0_tellBound_30 rfl ?_
        refine q_iload eX0_tellBound_31 rfl ?_
        obtain ⟨hs10, hw⟩ := hw
        refine q_callV (b := 0) (t := 0) (gX0_bestFor _ _ _ _ _ _ hw) mlX0_131 kX0_bestFor vX0_bestFor rfl hs10 ⟨rfl, rfl⟩ (by decide) rfl (Nat.le_of_ble_eq_true rfl) eX0_tellBound_33 (kI fun r11 h12 hw => ?_)
        refine x_istore (ls' := [_, _, _, _, _, _]) eX0_tellBound_36 (by decide) rfl rfl ?_
        refine q_iload eX0_tellBound_38 rfl ?_
        obtain ⟨hw1, hw2⟩ := hw
        refine q_if_ge (tgt := 45) eX0_tellBound_40 (by decide) (fun c => ?_) (fun c => ?_)
        · have hw := hw1 c
          refine q_aload_nr eX0_tellBound_45 rfl ?_
          refine q_aload_nr eX0_tellBound_46 rfl ?_
          obtain ⟨hs13, hw⟩ := hw
          obtain ⟨a14, hr15, hw⟩ := hw
          refine q_getR flX0_128 rfl hs13 hr15 eX0_tellBound_47 ?_
          refine q_iload eX0_tellBound_50 rfl ?_
          obtain ⟨n17, hs16, hw⟩ := hw
          obtain ⟨hi18, hw⟩ := hw
          refine q_iald hs16 hi18 eX0_tellBound_52 ?_
          refine q_i2l eX0_tellBound_53 ?_
          refine q_aload_nr eX0_tellBound_54 rfl ?_
          obtain ⟨hs19, hw⟩ := hw
          obtain ⟨a20, hr21, hw⟩ := hw
          refine q_getR flX0_18 rfl hs19 hr21 eX0_tellBound_55 ?_
          refine q_iload eX0_tellBound_58 rfl ?_
          obtain ⟨n23, hs22, hw⟩ := hw
          obtain ⟨hi24, hw⟩ := hw
          refine q_iald hs22 hi24 eX0_tellBound_60 ?_
          refine q_i2l eX0_tellBound_61 ?_
          refine q_lmul eX0_tellBound_62 ?_
          refine q_aload_nr eX0_tellBound_63 rfl ?_
          refine q_iload eX0_tellBound_64 rfl ?_
          refine q_callV (b := 0) (t := 0) (gX0_usesOf _ _ _ _ hw) mlX0_111 kX0_usesOf vX0_usesOf rfl hs19 ⟨rfl, rfl⟩ (by decide) rfl (Nat.le_of_ble_eq_true rfl) eX0_tellBound_66 (kI fun r25 h26 hw => ?_)
          refine q_i2l eX0_tellBound_69 ?_
          obtain ⟨hs27, hw⟩ := hw
          refine q_callV (b := 0) (t := 0) (gX1_add _ _ _ _ _ hw) mlX0_135 kX1_add vX1_add rfl hs27 ⟨rfl, rfl⟩ (by decide) rfl (Nat.le_of_ble_eq_true rfl) eX0_tellBound_70 (kV fun h29 hw => ?_)
          refine x_iinc (v := (x4 + nI 1)) (ls' := [_, _, _, _, _, _]) eX0_tellBound_73 rfl rfl rfl rfl ?_
          refine q_goto (tgt := 9) eX0_tellBound_76 (by decide) ?_
          refine q_le (ls' := [some _, some _, some _, some _, some _, none]) ⟨rfl, rfl, rfl, rfl, rfl, trivial⟩ ?_
          exact ih _ _ _ _ _ _ hw
        · have hw := hw2 c
          refine q_iconst (v := nI 0) eX0_tellBound_43 (by decide) ?_
          exact q_retZ rfl (by decide) eX0_tellBound_44 ⟨_, rfl, hw⟩
def wX0_tellBound (x0 : Nat) (x1 : Nat) (x2 : Int32) (x3 : Nat) (h : MH) (Q : Int32 → MH → Prop) : Prop := hS h x3 = (1, 1) ∧ wX1_begin x3 (0 : Int64) (1 : Int64) h (fun h3 => ∃ m30, wX0_tellBound_9 Q m30 x0 x1 x2 x3 (nI 0) h3)
set_option maxHeartbeats 4000000 in
set_option maxRecDepth 100000 in
theorem gX0_tellBound (x0 : Nat) (x1 : Nat) (x2 : Int32) (x3 : Nat) (h : MH) (Q : Int32 → MH → Prop) (hw : wX0_tellBound x0 x1 x2 x3 h Q) : Cm MX0_tellBound 4 0 0 [.ref (x0), .ref (x1), .int (x2), .ref (x3)] h (pI Q) := by
  refine cm_of [some (.ref (x0)), some (.ref (x1)), some (.int (x2)), some (.ref (x3)), none, none] rfl pnX0 (Nat.le_of_ble_eq_true rfl) rfl ?_
  unfold wX0_tellBound at hw
  refine q_aload_nr eX0_tellBound_0 rfl ?_
  refine q_lconst (v := (0 : Int64)) eX0_tellBound_1 (by decide) ?_
  refine q_lconst (v := (1 : Int64)) eX0_tellBound_2 (by decide) ?_
  obtain ⟨hs1, hw⟩ := hw
  refine q_callV (b := 0) (t := 0) (gX1_begin _ _ _ _ _ hw) mlX0_119 kX1_begin vX1_begin rfl hs1 ⟨rfl, rfl⟩ (by decide) rfl (Nat.le_of_ble_eq_true rfl) eX0_tellBound_3 (kV fun h3 hw => ?_)
  refine q_iconst (v := nI 0) eX0_tellBound_6 (by decide) ?_
  refine x_istore (ls' := [_, _, _, _, _, _]) eX0_tellBound_7 (by decide) rfl rfl ?_
  refine q_le (ls' := [some _, some _, some _, some _, some _, none]) ⟨rfl, rfl, rfl, rfl, rfl, trivial⟩ ?_
  obtain ⟨m30, hw⟩ := hw
  exact tX0_tellBound_9 m30 _ _ _ _ _ _ hw
def wX0_withoutUse (x0 : Nat) (x1 : Nat) (x2 : Int32) (h : MH) (Q : Int32 → MH → Prop) : Prop := hS h x0 = (1, 0) ∧ wX0_lookAt x0 x1 x2 h (fun h3 => hS h3 x0 = (1, 0) ∧ ∃ a5, hR h3 x0 0 = some a5 ∧ hS h3 a5 = (1, 4) ∧ Q ((((nI 1 <<< (hI h3 a5 3 &&& 31)) - nI 1) &&& (hI h3 x0 6 ^^^ (-1 : Int32)))) h3)
set_option maxHeartbeats 4000000 in
set_option maxRecDepth 100000 in
theorem gX0_withoutUse (x0 : Nat) (x1 : Nat) (x2 : Int32) (h : MH) (Q : Int32 → MH → Prop) (hw : wX0_withoutUse x0 x1 x2 h Q) : Cm MX0_withoutUse 3 0 0 [.ref (x0), .ref (x1), .int (x2)] h (pI Q) := by
  refine cm_of [some (.ref (x0)), some (.ref (x1)), some (.int (x2))] rfl pnX0 (Nat.le_of_ble_eq_true rfl) rfl ?_
  unfold wX0_withoutUse at hw
  refine q_aload_nr eX0_withoutUse_0 rfl ?_
  refine q_aload_nr eX0_withoutUse_1 rfl ?_
  refine q_iload_n eX0_withoutUse_2 rfl ?_
  obtain ⟨hs1, hw⟩ := hw
  refine q_callV (b := 0) (t := 0) (gX0_lookAt _ _ _ _ _ hw) mlX0_71 kX0_lookAt vX0_lookAt rfl hs1 ⟨rfl, rfl⟩ (by decide) rfl (Nat.le_of_ble_eq_true rfl) eX0_withoutUse_3 (kV fun h3 hw => ?_)
  refine q_iconst (v := nI 1) eX0_withoutUse_6 (by decide) ?_
  refine q_aload_nr eX0_withoutUse_7 rfl ?_
  obtain ⟨hs4, hw⟩ := hw
  obtain ⟨a5, hr6, hw⟩ := hw
  refine q_getR flX0_32 rfl hs4 hr6 eX0_withoutUse_8 ?_
  obtain ⟨hs7, hw⟩ := hw
  refine q_getI flX0_125 rfl hs7 eX0_withoutUse_11 ?_
  refine q_ishl eX0_withoutUse_14 ?_
  refine q_iconst (v := nI 1) eX0_withoutUse_15 (by decide) ?_
  refine q_isub eX0_withoutUse_16 ?_
  refine q_aload_nr eX0_withoutUse_17 rfl ?_
  refine q_getI flX0_55 rfl hs4 eX0_withoutUse_18 ?_
  refine q_iconst (v := (-1 : Int32)) eX0_withoutUse_21 (by decide) ?_
  refine q_ixor eX0_withoutUse_22 ?_
  refine q_iand eX0_withoutUse_23 ?_
  exact q_ret rfl eX0_withoutUse_24 ⟨_, rfl, hw⟩
def wX1_init (x0 : Nat) (h : MH) (Q : MH → Prop) : Prop := hS h x0 = (1, 1) ∧ ∀ h2, h2 = sL h x0 0 ((0 : Int64)) → ∀ h3, h3 = sL h2 x0 1 ((1 : Int64)) → Q h3
set_option maxHeartbeats 4000000 in
set_option maxRecDepth 100000 in
theorem gX1_init (x0 : Nat) (h : MH) (Q : MH → Prop) (hw : wX1_init x0 h Q) : Cm MX1_init 1 0 0 [.ref (x0)] h (pV Q) := by
  refine cm_of [some (.ref (x0))] rfl pnX1 (Nat.le_of_ble_eq_true rfl) rfl ?_
  unfold wX1_init at hw
  refine q_aload_nr eX1_init_0 rfl ?_
  refine q_objI mlX1_1 iOi cOi (by decide) (Nat.le_of_ble_eq_true rfl) eX1_init_1 ?_
  refine q_aload_nr eX1_init_4 rfl ?_
  refine q_lconst (v := (0 : Int64)) eX1_init_5 (by decide) ?_
  obtain ⟨hs1, hw⟩ := hw
  have hw := hw _ rfl
  refine q_putL (fwX1_7 _) rfl hs1 eX1_init_6 ?_
  refine q_aload_nr eX1_init_9 rfl ?_
  refine q_lconst (v := (1 : Int64)) eX1_init_10 (by decide) ?_
  have hw := hw _ rfl
  refine q_putL (fwX1_13 _) rfl hs1 eX1_init_11 ?_
  exact q_retV rfl eX1_init_14 ⟨rfl, hw⟩
def wX1_part (x0 : Nat) (x1 : Int32) (h : MH) (Q : Int64 → MH → Prop) : Prop := (¬ (x1 = 0) → hS h x0 = (1, 1) ∧ Q (hL h x0 1) h) ∧ (x1 = 0 → hS h x0 = (1, 1) ∧ Q (hL h x0 0) h)
set_option maxHeartbeats 4000000 in
set_option maxRecDepth 100000 in
theorem gX1_part (x0 : Nat) (x1 : Int32) (h : MH) (Q : Int64 → MH → Prop) (hw : wX1_part x0 x1 h Q) : Cm MX1_part 0 0 0 [.ref (x0), .int (x1)] h (pL Q) := by
  refine cm_of [some (.ref (x0)), some (.int (x1))] rfl pnX1 (Nat.le_of_ble_eq_true rfl) rfl ?_
  unfold wX1_part at hw
  refine q_iload_n eX1_part_0 rfl ?_
  obtain ⟨hw1, hw2⟩ := hw
  refine q_if_ne (tgt := 11) eX1_part_1 (by decide) (fun c => ?_) (fun c => ?_)
  · have hw := hw1 c
    refine q_aload_nr eX1_part_11 rfl ?_
    obtain ⟨hs1, hw⟩ := hw
    refine q_getL flX1_13 rfl hs1 eX1_part_12 ?_
    exact q_retL rfl eX1_part_15 ⟨_, rfl, hw⟩
  · have hw := hw2 c
    refine q_aload_nr eX1_part_4 rfl ?_
    obtain ⟨hs2, hw⟩ := hw
    refine q_getL flX1_7 rfl hs2 eX1_part_5 ?_
    refine q_goto (tgt := 15) eX1_part_8 (by decide) ?_
    exact q_retL rfl eX1_part_15 ⟨_, rfl, hw⟩
def wX6_init_32 (Q : MH → Prop) : Nat → Nat → Nat → Nat → Int32 → MH → Prop
  | 0, _, _, _, _, _ => False
  | n + 1, b, t, x0, x1, h => (nI 20 ≤ x1 → Q h) ∧ (¬ (nI 20 ≤ x1) → hS h x0 = (1, 6) ∧ ∃ a17, hR h x0 3 = some a17 ∧ ∃ n20, hS h a17 = (2, n20) ∧ vp_in (x1) n20 ∧ ∀ h22, h22 = sI h a17 (x1).toNatClampNeg ((-1 : Int32)) → wX6_init_32 Q n b t x0 (x1 + nI 1) h22)
set_option maxHeartbeats 4000000 in
set_option maxRecDepth 100000 in
theorem tX6_init_32 {Q : MH → Prop} : ∀ (n : Nat) (h : MH) (b t : Nat) (x0 : Nat) (x1 : Int32), wX6_init_32 Q n b t x0 x1 h → Wm MX6_init 1 b t 32 [some (.ref (x0)), some (.int (x1))] [] h (pV Q) := by
  intro n
  induction n with
  | zero => intro h b t x0 x1 hw; exact hw.elim
  | succ n ih =>
    intro h b t x0 x1 hw
    unfold wX6_init_32 at hw
    refine q_iload_n eX6_init_32 rfl ?_
    refine q_bipush (v := nI 20) eX6_init_33 (by decide) ?_
    obtain ⟨hw1, hw2⟩ := hw
    refine q_icmp_ge (tgt := 51) eX6_init_35 (by decide) (fun c => ?_) (fun c => ?_)
    · have hw := hw1 c
      exact q_retV rfl eX6_init_51 ⟨rfl, hw⟩
    · have hw := hw2 c
      refine q_aload_nr eX6_init_38 rfl ?_
      obtain ⟨hs16, hw⟩ := hw
      obtain ⟨a17, hr18, hw⟩ := hw
      refine q_getR flX6_22 rfl hs16 hr18 eX6_init_39 ?_
      refine q_iload_n eX6_init_42 rfl ?_
      refine q_iconst (v := (-1 : Int32)) eX6_init_43 (by decide) ?_
      obtain ⟨n20, hs19, hw⟩ := hw
      obtain ⟨hi21, hw⟩ := hw
      have hw := hw _ rfl
      refine q_iast hs19 hi21 eX6_init_44 ?_
      refine x_iinc (v := (x1 + nI 1)) (ls' := [_, _]) eX6_init_45 rfl rfl rfl rfl ?_
      refine q_goto (tgt := 32) eX6_init_48 (by decide) ?_
      refine q_le (ls' := [some _, some _]) ⟨rfl, rfl, trivial⟩ ?_
      exact ih _ _ _ _ _ hw
def wX6_init (b t : Nat) (x0 : Nat) (h : MH) (Q : MH → Prop) : Prop := hS h x0 = (1, 6) ∧ ∀ h2, h2 = sI h x0 0 (nI 0) → ∀ h3, h3 = sI h2 x0 1 (nI 0) → 1 ≤ b ∧ 40 ≤ t ∧ ∀ a4, a4 = hN h3 → ∀ h5, h5 = al h3 (2, 40) → hS h5 x0 = (1, 6) ∧ ∀ h9, h9 = sR h5 x0 2 (some a4) → 1 ≤ (b - 1) ∧ 20 ≤ (t - 40) ∧ ∀ a10, a10 = hN h9 → ∀ h11, h11 = al h9 (2, 20) → hS h11 x0 = (1, 6) ∧ ∀ h15, h15 = sR h11 x0 3 (some a10) → ∃ m23, wX6_init_32 Q m23 (b - 2) (t - 60) x0 (nI 0) h15
set_option maxHeartbeats 4000000 in
set_option maxRecDepth 100000 in
theorem gX6_init (b t : Nat) (x0 : Nat) (h : MH) (Q : MH → Prop) (hw : wX6_init b t x0 h Q) : Cm MX6_init 1 b t [.ref (x0)] h (pV Q) := by
  refine cm_of [some (.ref (x0)), none] rfl pnX6 (Nat.le_of_ble_eq_true rfl) rfl ?_
  unfold wX6_init at hw
  refine q_aload_nr eX6_init_0 rfl ?_
  refine q_objI mlX6_3 iOi cOi (by decide) (Nat.le_of_ble_eq_true rfl) eX6_init_1 ?_
  refine q_aload_nr eX6_init_4 rfl ?_
  refine q_iconst (v := nI 0) eX6_init_5 (by decide) ?_
  obtain ⟨hs1, hw⟩ := hw
  have hw := hw _ rfl
  refine q_putI (fwX6_9 _) rfl hs1 eX6_init_6 ?_
  refine q_aload_nr eX6_init_9 rfl ?_
  refine q_iconst (v := nI 0) eX6_init_10 (by decide) ?_
  have hw := hw _ rfl
  refine q_putI (fwX6_15 _) rfl hs1 eX6_init_11 ?_
  refine q_aload_nr eX6_init_14 rfl ?_
  refine q_bipush (v := nI 40) eX6_init_15 (by decide) ?_
  obtain ⟨hc6, hc7, hw⟩ := hw
  have hw := hw _ rfl _ rfl
  refine q_bud (b' := (b - 1) + 1) (t' := (t - 40) + 40) (by omega) (by omega) ?_
  refine q_newa (k := 2) (Or.inl rfl) rfl aC_int (by decide) (by decide) (by decide) eX6_init_17 ?_
  obtain ⟨hs8, hw⟩ := hw
  have hw := hw _ rfl
  refine q_putR fwX6_18 rfl hs8 eX6_init_19 ?_
  refine q_aload_nr eX6_init_22 rfl ?_
  refine q_bipush (v := nI 20) eX6_init_23 (by decide) ?_
  obtain ⟨hc12, hc13, hw⟩ := hw
  have hw := hw _ rfl _ rfl
  refine q_bud (b' := (b - 2) + 1) (t' := (t - 60) + 20) (by omega) (by omega) ?_
  refine q_newa (k := 2) (Or.inl rfl) rfl aC_int (by decide) (by decide) (by decide) eX6_init_25 ?_
  obtain ⟨hs14, hw⟩ := hw
  have hw := hw _ rfl
  refine q_putR fwX6_22 rfl hs14 eX6_init_27 ?_
  refine q_iconst (v := nI 0) eX6_init_30 (by decide) ?_
  refine x_istore_n (ls' := [_, _]) eX6_init_31 (by decide) rfl rfl ?_
  refine q_le (ls' := [some _, some _]) ⟨rfl, rfl, trivial⟩ ?_
  obtain ⟨m23, hw⟩ := hw
  exact tX6_init_32 m23 _ _ _ _ _ hw
def wX9_newStates_7 (Q : Nat → MH → Prop) : Nat → Nat → Nat → Int32 → Nat → Int32 → MH → Prop
  | 0, _, _, _, _, _, _ => False
  | n + 1, b, t, x0, x1, x2, h => (x0 ≤ x2 → Q (x1) h) ∧ (¬ (x0 ≤ x2) → 1 ≤ b ∧ 4 ≤ t ∧ ∀ a9, a9 = hN h → ∀ h10, h10 = al h (1, 6) → 2 ≤ (b - 1) ∧ 60 ≤ (t - 4) ∧ wX6_init 2 60 a9 h10 (fun h14 => ∃ n16, hS h14 x1 = (6, n16) ∧ vp_in (x2) n16 ∧ hS h14 a9 = (1, 6) ∧ ∀ h18, h18 = sR h14 x1 (x2).toNatClampNeg (some a9) → wX9_newStates_7 Q n (b - 3) (t - 64) x0 x1 (x2 + nI 1) h18))
set_option maxHeartbeats 4000000 in
set_option maxRecDepth 100000 in
theorem tX9_newStates_7 {Q : Nat → MH → Prop} : ∀ (n : Nat) (h : MH) (b t : Nat) (x0 : Int32) (x1 : Nat) (x2 : Int32), wX9_newStates_7 Q n b t x0 x1 x2 h → Wm MX9_newStates 2 b t 7 [some (.int (x0)), some (.ref (x1)), some (.int (x2))] [] h (pR Q) := by
  intro n
  induction n with
  | zero => intro h b t x0 x1 x2 hw; exact hw.elim
  | succ n ih =>
    intro h b t x0 x1 x2 hw
    unfold wX9_newStates_7 at hw
    refine q_iload_n eX9_newStates_7 rfl ?_
    refine q_iload_n eX9_newStates_8 rfl ?_
    obtain ⟨hw1, hw2⟩ := hw
    refine q_icmp_ge (tgt := 28) eX9_newStates_9 (by decide) (fun c => ?_) (fun c => ?_)
    · have hw := hw1 c
      refine q_aload_nr eX9_newStates_28 rfl ?_
      exact q_retR (r := some x1) (Or.inr ⟨_, rfl⟩) eX9_newStates_29 ⟨_, rfl, hw⟩
    · have hw := hw2 c
      refine q_aload_nr eX9_newStates_12 rfl ?_
      refine q_iload_n eX9_newStates_13 rfl ?_
      obtain ⟨hc7, hc8, hw⟩ := hw
      have hw := hw _ rfl _ rfl
      refine q_bud (b' := (b - 1) + 1) (t' := (t - 4) + 4) (by omega) (by omega) ?_
      refine q_new (c := 6) rfl clX9_23 inX6 iNX6 eX9_newStates_14 ?_
      refine q_dup eX9_newStates_17 rfl ?_
      obtain ⟨hc11, hc12, hw⟩ := hw
      refine q_bud (b' := (b - 3) + 2) (t' := (t - 64) + 60) (by omega) (by omega) ?_
      refine q_callI (b := (b - 3)) (t := (t - 64)) (gX6_init 2 60 _ _ _ hw) rfl mlX9_25 kX6_init vX6_init rfl (by decide) rfl (Nat.le_of_ble_eq_true rfl) eX9_newStates_18 (kV fun h14 hw => ?_)
      obtain ⟨n16, hs15, hw⟩ := hw
      obtain ⟨hi17, hw⟩ := hw
      obtain ⟨hs19, hw⟩ := hw
      have hw := hw _ rfl
      refine q_aast (Or.inl rfl) hs15 hs19 hi17 eX9_newStates_21 ?_
      refine x_iinc (v := (x2 + nI 1)) (ls' := [_, _, _]) eX9_newStates_22 rfl rfl rfl rfl ?_
      refine q_goto (tgt := 7) eX9_newStates_25 (by decide) ?_
      refine q_le (ls' := [some _, some _, some _]) ⟨rfl, rfl, rfl, trivial⟩ ?_
      exact ih _ _ _ _ _ _ hw
def wX9_newStates (b t : Nat) (x0 : Int32) (h : MH) (Q : Nat → MH → Prop) : Prop := ¬ x0 < 0 ∧ (x0).toNatClampNeg ≤ 60000 ∧ 1 ≤ b ∧ (x0).toNatClampNeg ≤ t ∧ ∀ a1, a1 = hN h → ∀ h2, h2 = al h (6, (x0).toNatClampNeg) → ∃ m20, wX9_newStates_7 Q m20 (b - 1) (t - (0 + (x0).toNatClampNeg)) x0 a1 (nI 0) h2
set_option maxHeartbeats 4000000 in
set_option maxRecDepth 100000 in
theorem gX9_newStates (b t : Nat) (x0 : Int32) (h : MH) (Q : Nat → MH → Prop) (hw : wX9_newStates b t x0 h Q) : Cm MX9_newStates 2 b t [.int (x0)] h (pR Q) := by
  refine cm_of [some (.int (x0)), none, none] rfl pnX9 (Nat.le_of_ble_eq_true rfl) rfl ?_
  unfold wX9_newStates at hw
  refine q_iload_n eX9_newStates_0 rfl ?_
  obtain ⟨hc3, hc4, hc5, hc6, hw⟩ := hw
  have hw := hw _ rfl _ rfl
  refine q_bud (b' := (b - 1) + 1) (t' := (t - (0 + (x0).toNatClampNeg)) + (x0).toNatClampNeg) (by omega) (by omega) ?_
  refine q_anew (k := 6) (Or.inl rfl) rfl clX9_23 hc3 rfl hc4 eX9_newStates_1 ?_
  refine x_astore_nr (ls' := [_, _, _]) eX9_newStates_4 (by decide) rfl rfl ?_
  refine q_iconst (v := nI 0) eX9_newStates_5 (by decide) ?_
  refine x_istore_n (ls' := [_, _, _]) eX9_newStates_6 (by decide) rfl rfl ?_
  refine q_le (ls' := [some _, some _, some _]) ⟨rfl, rfl, rfl, trivial⟩ ?_
  obtain ⟨m20, hw⟩ := hw
  exact tX9_newStates_7 m20 _ _ _ _ _ _ hw
def wX2_init (b t : Nat) (x0 : Nat) (h : MH) (Q : MH → Prop) : Prop := 31 ≤ b ∧ 650 ≤ t ∧ wX9_newStates 31 650 (nI 10) h (fun r3 h4 => hS h4 x0 = (1, 2) ∧ ∀ h6, h6 = sR h4 x0 0 (some r3) → ∀ h7, h7 = sI h6 x0 1 (nI 0) → ∀ h8, h8 = sI h7 x0 2 (nI 0) → Q h8)
set_option maxHeartbeats 4000000 in
set_option maxRecDepth 100000 in
theorem gX2_init (b t : Nat) (x0 : Nat) (h : MH) (Q : MH → Prop) (hw : wX2_init b t x0 h Q) : Cm MX2_init 3 b t [.ref (x0)] h (pV Q) := by
  refine cm_of [some (.ref (x0))] rfl pnX2 (Nat.le_of_ble_eq_true rfl) rfl ?_
  unfold wX2_init at hw
  refine q_aload_nr eX2_init_0 rfl ?_
  refine q_objI mlX2_3 iOi cOi (by decide) (Nat.le_of_ble_eq_true rfl) eX2_init_1 ?_
  refine q_aload_nr eX2_init_4 rfl ?_
  refine q_bipush (v := nI 10) eX2_init_5 (by decide) ?_
  obtain ⟨hc1, hc2, hw⟩ := hw
  refine q_bud (b' := (b - 31) + 31) (t' := (t - 650) + 650) (by omega) (by omega) ?_
  refine q_callSN (b := (b - 31)) (t := (t - 650)) (gX9_newStates 31 650 _ _ _ hw) (host := "SpareRings") (by decide +kernel) kX9_newStates sX9_newStates rfl (by decide) rfl (Nat.le_of_ble_eq_true rfl) eX2_init_7 (kR fun r3 h4 hw => ?_)
  obtain ⟨hs5, hw⟩ := hw
  have hw := hw _ rfl
  refine q_putR fwX2_13 rfl hs5 eX2_init_10 ?_
  refine q_aload_nr eX2_init_13 rfl ?_
  refine q_iconst (v := nI 0) eX2_init_14 (by decide) ?_
  have hw := hw _ rfl
  refine q_putI (fwX2_19 _) rfl hs5 eX2_init_15 ?_
  refine q_aload_nr eX2_init_18 rfl ?_
  refine q_iconst (v := nI 0) eX2_init_19 (by decide) ?_
  have hw := hw _ rfl
  refine q_putI (fwX2_23 _) rfl hs5 eX2_init_20 ?_
  exact q_retV rfl eX2_init_23 ⟨rfl, hw⟩
def wX6_copyFrom (x0 : Nat) (x1 : Nat) (h : MH) (Q : MH → Prop) : Prop := hS h x1 = (1, 6) ∧ hS h x0 = (1, 6) ∧ ∀ h3, h3 = sI h x0 0 (hI h x1 0) → ∀ h4, h4 = sI h3 x0 1 (hI h3 x1 1) → ∃ a5, hR h4 x1 2 = some a5 ∧ ∃ a7, hR h4 x0 2 = some a7 ∧ ∃ n10, hS h4 a5 = (2, n10) ∧ ∃ n12, hS h4 a7 = (2, n12) ∧ ¬ nI 0 < 0 ∧ ¬ nI 0 < 0 ∧ ¬ nI 40 < 0 ∧ (nI 0).toNatClampNeg + (nI 40).toNatClampNeg ≤ n10 ∧ (nI 0).toNatClampNeg + (nI 40).toNatClampNeg ≤ n12 ∧ ∀ h18, h18 = rI h4 a7 (va_cpy (hI h4 a5) (hI h4 a7) (nI 0).toNatClampNeg (nI 0).toNatClampNeg (nI 40).toNatClampNeg) → ∃ a19, hR h18 x1 3 = some a19 ∧ ∃ a21, hR h18 x0 3 = some a21 ∧ ∃ n24, hS h18 a19 = (2, n24) ∧ ∃ n26, hS h18 a21 = (2, n26) ∧ ¬ nI 0 < 0 ∧ ¬ nI 0 < 0 ∧ ¬ nI 20 < 0 ∧ (nI 0).toNatClampNeg + (nI 20).toNatClampNeg ≤ n24 ∧ (nI 0).toNatClampNeg + (nI 20).toNatClampNeg ≤ n26 ∧ ∀ h32, h32 = rI h18 a21 (va_cpy (hI h18 a19) (hI h18 a21) (nI 0).toNatClampNeg (nI 0).toNatClampNeg (nI 20).toNatClampNeg) → Q h32
set_option maxHeartbeats 4000000 in
set_option maxRecDepth 100000 in
theorem gX6_copyFrom (x0 : Nat) (x1 : Nat) (h : MH) (Q : MH → Prop) (hw : wX6_copyFrom x0 x1 h Q) : Cm MX6_copyFrom 1 0 0 [.ref (x0), .ref (x1)] h (pV Q) := by
  refine cm_of [some (.ref (x0)), some (.ref (x1))] rfl pnX6 (Nat.le_of_ble_eq_true rfl) rfl ?_
  unfold wX6_copyFrom at hw
  refine q_aload_nr eX6_copyFrom_0 rfl ?_
  refine q_aload_nr eX6_copyFrom_1 rfl ?_
  obtain ⟨hs1, hw⟩ := hw
  refine q_getI flX6_9 rfl hs1 eX6_copyFrom_2 ?_
  obtain ⟨hs2, hw⟩ := hw
  have hw := hw _ rfl
  refine q_putI (fwX6_9 _) rfl hs2 eX6_copyFrom_5 ?_
  refine q_aload_nr eX6_copyFrom_8 rfl ?_
  refine q_aload_nr eX6_copyFrom_9 rfl ?_
  refine q_getI flX6_15 rfl hs1 eX6_copyFrom_10 ?_
  have hw := hw _ rfl
  refine q_putI (fwX6_15 _) rfl hs2 eX6_copyFrom_13 ?_
  refine q_aload_nr eX6_copyFrom_16 rfl ?_
  obtain ⟨a5, hr6, hw⟩ := hw
  refine q_getR flX6_18 rfl hs1 hr6 eX6_copyFrom_17 ?_
  refine q_iconst (v := nI 0) eX6_copyFrom_20 (by decide) ?_
  refine q_aload_nr eX6_copyFrom_21 rfl ?_
  obtain ⟨a7, hr8, hw⟩ := hw
  refine q_getR flX6_18 rfl hs2 hr8 eX6_copyFrom_22 ?_
  refine q_iconst (v := nI 0) eX6_copyFrom_25 (by decide) ?_
  refine q_bipush (v := nI 40) eX6_copyFrom_26 (by decide) ?_
  obtain ⟨n10, hs9, hw⟩ := hw
  obtain ⟨n12, hs11, hw⟩ := hw
  obtain ⟨hc13, hc14, hc15, hc16, hc17, hw⟩ := hw
  have hw := hw _ rfl
  refine q_copy hs9 hs11 mlX6_25 nAc sAc iNSystem hc13 hc14 hc15 hc16 hc17 (by decide) (Nat.le_of_ble_eq_true rfl) eX6_copyFrom_28 ?_
  refine q_aload_nr eX6_copyFrom_31 rfl ?_
  obtain ⟨a19, hr20, hw⟩ := hw
  refine q_getR flX6_22 rfl hs1 hr20 eX6_copyFrom_32 ?_
  refine q_iconst (v := nI 0) eX6_copyFrom_35 (by decide) ?_
  refine q_aload_nr eX6_copyFrom_36 rfl ?_
  obtain ⟨a21, hr22, hw⟩ := hw
  refine q_getR flX6_22 rfl hs2 hr22 eX6_copyFrom_37 ?_
  refine q_iconst (v := nI 0) eX6_copyFrom_40 (by decide) ?_
  refine q_bipush (v := nI 20) eX6_copyFrom_41 (by decide) ?_
  obtain ⟨n24, hs23, hw⟩ := hw
  obtain ⟨n26, hs25, hw⟩ := hw
  obtain ⟨hc27, hc28, hc29, hc30, hc31, hw⟩ := hw
  have hw := hw _ rfl
  refine q_copy hs23 hs25 mlX6_25 nAc sAc iNSystem hc27 hc28 hc29 hc30 hc31 (by decide) (Nat.le_of_ble_eq_true rfl) eX6_copyFrom_43 ?_
  exact q_retV rfl eX6_copyFrom_46 ⟨rfl, hw⟩
def wX2_keep (x0 : Nat) (x1 : Nat) (h : MH) (Q : MH → Prop) : Prop := hS h x0 = (1, 2) ∧ ∃ a2, hR h x0 0 = some a2 ∧ ∃ n5, hS h a2 = (6, n5) ∧ vp_in (hI h x0 1) n5 ∧ ∃ a7, hR h a2 (hI h x0 1).toNatClampNeg = some a7 ∧ hS h a7 = (1, 6) ∧ wX6_copyFrom a7 x1 h (fun h11 => hS h11 x0 = (1, 2) ∧ ¬ nI 10 = 0 ∧ ∀ h14, h14 = sI h11 x0 1 (((hI h11 x0 1 + nI 1) - (hI h11 x0 1 + nI 1) / nI 10 * nI 10)) → ∀ h15, h15 = sI h14 x0 2 ((if nI 10 < (hI h14 x0 2 + nI 1) then nI 10 else (hI h14 x0 2 + nI 1))) → Q h15)
set_option maxHeartbeats 4000000 in
set_option maxRecDepth 100000 in
theorem gX2_keep (x0 : Nat) (x1 : Nat) (h : MH) (Q : MH → Prop) (hw : wX2_keep x0 x1 h Q) : Cm MX2_keep 2 0 0 [.ref (x0), .ref (x1)] h (pV Q) := by
  refine cm_of [some (.ref (x0)), some (.ref (x1))] rfl pnX2 (Nat.le_of_ble_eq_true rfl) rfl ?_
  unfold wX2_keep at hw
  refine q_aload_nr eX2_keep_0 rfl ?_
  obtain ⟨hs1, hw⟩ := hw
  obtain ⟨a2, hr3, hw⟩ := hw
  refine q_getR flX2_13 rfl hs1 hr3 eX2_keep_1 ?_
  refine q_aload_nr eX2_keep_4 rfl ?_
  refine q_getI flX2_19 rfl hs1 eX2_keep_5 ?_
  obtain ⟨n5, hs4, hw⟩ := hw
  obtain ⟨hi6, hw⟩ := hw
  obtain ⟨a7, hr8, hw⟩ := hw
  refine q_aald (Or.inl rfl) hs4 hi6 hr8 eX2_keep_8 ?_
  refine q_aload_nr eX2_keep_9 rfl ?_
  obtain ⟨hs9, hw⟩ := hw
  refine q_callV (b := 0) (t := 0) (gX6_copyFrom _ _ _ _ hw) mlX2_26 kX6_copyFrom vX6_copyFrom rfl hs9 ⟨rfl, rfl⟩ (by decide) rfl (Nat.le_of_ble_eq_true rfl) eX2_keep_10 (kV fun h11 hw => ?_)
  refine q_aload_nr eX2_keep_13 rfl ?_
  refine q_aload_nr eX2_keep_14 rfl ?_
  obtain ⟨hs12, hw⟩ := hw
  refine q_getI flX2_19 rfl hs12 eX2_keep_15 ?_
  refine q_iconst (v := nI 1) eX2_keep_18 (by decide) ?_
  refine q_iadd eX2_keep_19 ?_
  refine q_bipush (v := nI 10) eX2_keep_20 (by decide) ?_
  obtain ⟨hz13, hw⟩ := hw
  refine q_irem eX2_keep_22 hz13 ?_
  have hw := hw _ rfl
  refine q_putI (fwX2_19 _) rfl hs12 eX2_keep_23 ?_
  refine q_aload_nr eX2_keep_26 rfl ?_
  refine q_aload_nr eX2_keep_27 rfl ?_
  refine q_getI flX2_23 rfl hs12 eX2_keep_28 ?_
  refine q_iconst (v := nI 1) eX2_keep_31 (by decide) ?_
  refine q_iadd eX2_keep_32 ?_
  refine q_bipush (v := nI 10) eX2_keep_33 (by decide) ?_
  refine q_mmin mlX2_32 sMmin iNMath cMmin (by decide) (Nat.le_of_ble_eq_true rfl) eX2_keep_35 ?_
  have hw := hw _ rfl
  refine q_putI (fwX2_23 _) rfl hs12 eX2_keep_38 ?_
  exact q_retV rfl eX2_keep_41 ⟨rfl, hw⟩
def wX2_bringBack (x0 : Nat) (x1 : Int32) (x2 : Nat) (h : MH) (Q : MH → Prop) : Prop := hS h x0 = (1, 2) ∧ ¬ nI 10 = 0 ∧ ∀ h3, h3 = sI h x0 1 ((((hI h x0 1 + nI 10) - x1) - ((hI h x0 1 + nI 10) - x1) / nI 10 * nI 10)) → ∃ a4, hR h3 x0 0 = some a4 ∧ ∃ n7, hS h3 a4 = (6, n7) ∧ vp_in (hI h3 x0 1) n7 ∧ ∃ a9, hR h3 a4 (hI h3 x0 1).toNatClampNeg = some a9 ∧ hS h3 x2 = (1, 6) ∧ wX6_copyFrom x2 a9 h3 (fun h13 => hS h13 x0 = (1, 2) ∧ ∀ h15, h15 = sI h13 x0 2 ((hI h13 x0 2 - x1)) → Q h15)
set_option maxHeartbeats 4000000 in
set_option maxRecDepth 100000 in
theorem gX2_bringBack (x0 : Nat) (x1 : Int32) (x2 : Nat) (h : MH) (Q : MH → Prop) (hw : wX2_bringBack x0 x1 x2 h Q) : Cm MX2_bringBack 2 0 0 [.ref (x0), .int (x1), .ref (x2)] h (pV Q) := by
  refine cm_of [some (.ref (x0)), some (.int (x1)), some (.ref (x2))] rfl pnX2 (Nat.le_of_ble_eq_true rfl) rfl ?_
  unfold wX2_bringBack at hw
  refine q_aload_nr eX2_bringBack_0 rfl ?_
  refine q_aload_nr eX2_bringBack_1 rfl ?_
  obtain ⟨hs1, hw⟩ := hw
  refine q_getI flX2_19 rfl hs1 eX2_bringBack_2 ?_
  refine q_bipush (v := nI 10) eX2_bringBack_5 (by decide) ?_
  refine q_iadd eX2_bringBack_7 ?_
  refine q_iload_n eX2_bringBack_8 rfl ?_
  refine q_isub eX2_bringBack_9 ?_
  refine q_bipush (v := nI 10) eX2_bringBack_10 (by decide) ?_
  obtain ⟨hz2, hw⟩ := hw
  refine q_irem eX2_bringBack_12 hz2 ?_
  have hw := hw _ rfl
  refine q_putI (fwX2_19 _) rfl hs1 eX2_bringBack_13 ?_
  refine q_aload_nr eX2_bringBack_16 rfl ?_
  refine q_aload_nr eX2_bringBack_17 rfl ?_
  obtain ⟨a4, hr5, hw⟩ := hw
  refine q_getR flX2_13 rfl hs1 hr5 eX2_bringBack_18 ?_
  refine q_aload_nr eX2_bringBack_21 rfl ?_
  refine q_getI flX2_19 rfl hs1 eX2_bringBack_22 ?_
  obtain ⟨n7, hs6, hw⟩ := hw
  obtain ⟨hi8, hw⟩ := hw
  obtain ⟨a9, hr10, hw⟩ := hw
  refine q_aald (Or.inl rfl) hs6 hi8 hr10 eX2_bringBack_25 ?_
  obtain ⟨hs11, hw⟩ := hw
  refine q_callV (b := 0) (t := 0) (gX6_copyFrom _ _ _ _ hw) mlX2_26 kX6_copyFrom vX6_copyFrom rfl hs11 ⟨rfl, rfl⟩ (by decide) rfl (Nat.le_of_ble_eq_true rfl) eX2_bringBack_26 (kV fun h13 hw => ?_)
  refine q_aload_nr eX2_bringBack_29 rfl ?_
  refine q_dup eX2_bringBack_30 rfl ?_
  obtain ⟨hs14, hw⟩ := hw
  refine q_getI flX2_23 rfl hs14 eX2_bringBack_31 ?_
  refine q_iload_n eX2_bringBack_34 rfl ?_
  refine q_isub eX2_bringBack_35 ?_
  have hw := hw _ rfl
  refine q_putI (fwX2_23 _) rfl hs14 eX2_bringBack_36 ?_
  exact q_retV rfl eX2_bringBack_39 ⟨rfl, hw⟩
def wX2_forget (x0 : Nat) (h : MH) (Q : MH → Prop) : Prop := hS h x0 = (1, 2) ∧ ∀ h2, h2 = sI h x0 2 (nI 0) → Q h2
set_option maxHeartbeats 4000000 in
set_option maxRecDepth 100000 in
theorem gX2_forget (x0 : Nat) (h : MH) (Q : MH → Prop) (hw : wX2_forget x0 h Q) : Cm MX2_forget 0 0 0 [.ref (x0)] h (pV Q) := by
  refine cm_of [some (.ref (x0))] rfl pnX2 (Nat.le_of_ble_eq_true rfl) rfl ?_
  unfold wX2_forget at hw
  refine q_aload_nr eX2_forget_0 rfl ?_
  refine q_iconst (v := nI 0) eX2_forget_1 (by decide) ?_
  obtain ⟨hs1, hw⟩ := hw
  have hw := hw _ rfl
  refine q_putI (fwX2_23 _) rfl hs1 eX2_forget_2 ?_
  exact q_retV rfl eX2_forget_5 ⟨rfl, hw⟩
def wX3_init (b t : Nat) (x0 : Nat) (h : MH) (Q : MH → Prop) : Prop := 1 ≤ b ∧ 900 ≤ t ∧ ∀ a1, a1 = hN h → ∀ h2, h2 = al h (2, 900) → hS h2 x0 = (1, 3) ∧ ∀ h6, h6 = sR h2 x0 0 (some a1) → 1 ≤ (b - 1) ∧ 5 ≤ (t - 900) ∧ ∀ a7, a7 = hN h6 → ∀ h8, h8 = al h6 (2, 5) → hS h8 x0 = (1, 3) ∧ ∀ h12, h12 = sR h8 x0 6 (some a7) → 1 ≤ (b - 2) ∧ 64 ≤ (t - 905) ∧ ∀ a13, a13 = hN h12 → ∀ h14, h14 = al h12 (2, 64) → hS h14 x0 = (1, 3) ∧ ∀ h18, h18 = sR h14 x0 7 (some a13) → Q h18
set_option maxHeartbeats 4000000 in
set_option maxRecDepth 100000 in
theorem gX3_init (b t : Nat) (x0 : Nat) (h : MH) (Q : MH → Prop) (hw : wX3_init b t x0 h Q) : Cm MX3_init 1 b t [.ref (x0)] h (pV Q) := by
  refine cm_of [some (.ref (x0))] rfl pnX3 (Nat.le_of_ble_eq_true rfl) rfl ?_
  unfold wX3_init at hw
  refine q_aload_nr eX3_init_0 rfl ?_
  refine q_objI mlX3_3 iOi cOi (by decide) (Nat.le_of_ble_eq_true rfl) eX3_init_1 ?_
  refine q_aload_nr eX3_init_4 rfl ?_
  refine q_sipush (v := nI 900) eX3_init_5 (by decide) ?_
  obtain ⟨hc3, hc4, hw⟩ := hw
  have hw := hw _ rfl _ rfl
  refine q_bud (b' := (b - 1) + 1) (t' := (t - 900) + 900) (by omega) (by omega) ?_
  refine q_newa (k := 2) (Or.inl rfl) rfl aC_int (by decide) (by decide) (by decide) eX3_init_8 ?_
  obtain ⟨hs5, hw⟩ := hw
  have hw := hw _ rfl
  refine q_putR fwX3_9 rfl hs5 eX3_init_10 ?_
  refine q_aload_nr eX3_init_13 rfl ?_
  refine q_iconst (v := nI 5) eX3_init_14 (by decide) ?_
  obtain ⟨hc9, hc10, hw⟩ := hw
  have hw := hw _ rfl _ rfl
  refine q_bud (b' := (b - 2) + 1) (t' := (t - 905) + 5) (by omega) (by omega) ?_
  refine q_newa (k := 2) (Or.inl rfl) rfl aC_int (by decide) (by decide) (by decide) eX3_init_15 ?_
  obtain ⟨hs11, hw⟩ := hw
  have hw := hw _ rfl
  refine q_putR fwX3_15 rfl hs11 eX3_init_17 ?_
  refine q_aload_nr eX3_init_20 rfl ?_
  refine q_bipush (v := nI 64) eX3_init_21 (by decide) ?_
  obtain ⟨hc15, hc16, hw⟩ := hw
  have hw := hw _ rfl _ rfl
  refine q_bud (b' := (b - 3) + 1) (t' := (t - 969) + 64) (by omega) (by omega) ?_
  refine q_newa (k := 2) (Or.inl rfl) rfl aC_int (by decide) (by decide) (by decide) eX3_init_23 ?_
  obtain ⟨hs17, hw⟩ := hw
  have hw := hw _ rfl
  refine q_putR fwX3_18 rfl hs17 eX3_init_25 ?_
  exact q_retV rfl eX3_init_28 ⟨rfl, hw⟩
def wX3_begin (x0 : Nat) (h : MH) (Q : MH → Prop) : Prop := hS h x0 = (1, 3) ∧ ∀ h2, h2 = sI h x0 1 (nI 0) → ∀ h3, h3 = sI h2 x0 2 (nI 0) → ∀ h4, h4 = sI h3 x0 3 (nI 0) → ∀ h5, h5 = sI h4 x0 4 (nI 0) → ∀ h6, h6 = sI h5 x0 5 (nI 0) → Q h6
set_option maxHeartbeats 4000000 in
set_option maxRecDepth 100000 in
theorem gX3_begin (x0 : Nat) (h : MH) (Q : MH → Prop) (hw : wX3_begin x0 h Q) : Cm MX3_begin 0 0 0 [.ref (x0)] h (pV Q) := by
  refine cm_of [some (.ref (x0))] rfl pnX3 (Nat.le_of_ble_eq_true rfl) rfl ?_
  unfold wX3_begin at hw
  refine q_aload_nr eX3_begin_0 rfl ?_
  refine q_iconst (v := nI 0) eX3_begin_1 (by decide) ?_
  obtain ⟨hs1, hw⟩ := hw
  have hw := hw _ rfl
  refine q_putI (fwX3_21 _) rfl hs1 eX3_begin_2 ?_
  refine q_aload_nr eX3_begin_5 rfl ?_
  refine q_iconst (v := nI 0) eX3_begin_6 (by decide) ?_
  have hw := hw _ rfl
  refine q_putI (fwX3_25 _) rfl hs1 eX3_begin_7 ?_
  refine q_aload_nr eX3_begin_10 rfl ?_
  refine q_iconst (v := nI 0) eX3_begin_11 (by decide) ?_
  have hw := hw _ rfl
  refine q_putI (fwX3_28 _) rfl hs1 eX3_begin_12 ?_
  refine q_aload_nr eX3_begin_15 rfl ?_
  refine q_iconst (v := nI 0) eX3_begin_16 (by decide) ?_
  have hw := hw _ rfl
  refine q_putI (fwX3_31 _) rfl hs1 eX3_begin_17 ?_
  refine q_aload_nr eX3_begin_20 rfl ?_
  refine q_iconst (v := nI 0) eX3_begin_21 (by decide) ?_
  have hw := hw _ rfl
  refine q_putI (fwX3_34 _) rfl hs1 eX3_begin_22 ?_
  exact q_retV rfl eX3_begin_25 ⟨rfl, hw⟩
def wX3_open (x0 : Nat) (x1 : Int32) (h : MH) (Q : MH → Prop) : Prop := (x1 = 0 → hS h x0 = (1, 3) ∧ ∀ h2, h2 = sI h x0 2 (hI h x0 1) → Q h2) ∧ (¬ (x1 = 0) → hS h x0 = (1, 3) ∧ ∀ h4, h4 = sI h x0 4 (hI h x0 1) → Q h4)
set_option maxHeartbeats 4000000 in
set_option maxRecDepth 100000 in
theorem gX3_open (x0 : Nat) (x1 : Int32) (h : MH) (Q : MH → Prop) (hw : wX3_open x0 x1 h Q) : Cm MX3_open 0 0 0 [.ref (x0), .int (x1)] h (pV Q) := by
  refine cm_of [some (.ref (x0)), some (.int (x1))] rfl pnX3 (Nat.le_of_ble_eq_true rfl) rfl ?_
  unfold wX3_open at hw
  refine q_iload_n eX3_open_0 rfl ?_
  obtain ⟨hw1, hw2⟩ := hw
  refine q_if_eq (tgt := 15) eX3_open_1 (by decide) (fun c => ?_) (fun c => ?_)
  · have hw := hw1 c
    refine q_aload_nr eX3_open_15 rfl ?_
    refine q_aload_nr eX3_open_16 rfl ?_
    obtain ⟨hs1, hw⟩ := hw
    refine q_getI flX3_21 rfl hs1 eX3_open_17 ?_
    have hw := hw _ rfl
    refine q_putI (fwX3_25 _) rfl hs1 eX3_open_20 ?_
    exact q_retV rfl eX3_open_23 ⟨rfl, hw⟩
  · have hw := hw2 c
    refine q_aload_nr eX3_open_4 rfl ?_
    refine q_aload_nr eX3_open_5 rfl ?_
    obtain ⟨hs3, hw⟩ := hw
    refine q_getI flX3_21 rfl hs3 eX3_open_6 ?_
    have hw := hw _ rfl
    refine q_putI (fwX3_31 _) rfl hs3 eX3_open_9 ?_
    refine q_goto (tgt := 23) eX3_open_12 (by decide) ?_
    exact q_retV rfl eX3_open_23 ⟨rfl, hw⟩
def wX3_close (x0 : Nat) (x1 : Int32) (h : MH) (Q : MH → Prop) : Prop := (x1 = 0 → hS h x0 = (1, 3) ∧ ∀ h2, h2 = sI h x0 3 (hI h x0 1) → Q h2) ∧ (¬ (x1 = 0) → hS h x0 = (1, 3) ∧ ∀ h4, h4 = sI h x0 5 (hI h x0 1) → Q h4)
set_option maxHeartbeats 4000000 in
set_option maxRecDepth 100000 in
theorem gX3_close (x0 : Nat) (x1 : Int32) (h : MH) (Q : MH → Prop) (hw : wX3_close x0 x1 h Q) : Cm MX3_close 0 0 0 [.ref (x0), .int (x1)] h (pV Q) := by
  refine cm_of [some (.ref (x0)), some (.int (x1))] rfl pnX3 (Nat.le_of_ble_eq_true rfl) rfl ?_
  unfold wX3_close at hw
  refine q_iload_n eX3_close_0 rfl ?_
  obtain ⟨hw1, hw2⟩ := hw
  refine q_if_eq (tgt := 15) eX3_close_1 (by decide) (fun c => ?_) (fun c => ?_)
  · have hw := hw1 c
    refine q_aload_nr eX3_close_15 rfl ?_
    refine q_aload_nr eX3_close_16 rfl ?_
    obtain ⟨hs1, hw⟩ := hw
    refine q_getI flX3_21 rfl hs1 eX3_close_17 ?_
    have hw := hw _ rfl
    refine q_putI (fwX3_28 _) rfl hs1 eX3_close_20 ?_
    exact q_retV rfl eX3_close_23 ⟨rfl, hw⟩
  · have hw := hw2 c
    refine q_aload_nr eX3_close_4 rfl ?_
    refine q_aload_nr eX3_close_5 rfl ?_
    obtain ⟨hs3, hw⟩ := hw
    refine q_getI flX3_21 rfl hs3 eX3_close_6 ?_
    have hw := hw _ rfl
    refine q_putI (fwX3_34 _) rfl hs3 eX3_close_9 ?_
    refine q_goto (tgt := 23) eX3_close_12 (by decide) ?_
    exact q_retV rfl eX3_close_23 ⟨rfl, hw⟩
def wX3_put (x0 : Nat) (x1 : Int32) (h : MH) (Q : MH → Prop) : Prop := hS h x0 = (1, 3) ∧ ∃ a2, hR h x0 0 = some a2 ∧ ∃ n5, hS h a2 = (2, n5) ∧ (nI n5 ≤ hI h x0 1 → Q h) ∧ (¬ (nI n5 ≤ hI h x0 1) → vp_in (hI h x0 1) n5 ∧ ∀ h7, h7 = sI h a2 (hI h x0 1).toNatClampNeg (x1) → ∀ h8, h8 = sI h7 x0 1 ((hI h7 x0 1 + nI 1)) → Q h8)
set_option maxHeartbeats 4000000 in
set_option maxRecDepth 100000 in
theorem gX3_put (x0 : Nat) (x1 : Int32) (h : MH) (Q : MH → Prop) (hw : wX3_put x0 x1 h Q) : Cm MX3_put 0 0 0 [.ref (x0), .int (x1)] h (pV Q) := by
  refine cm_of [some (.ref (x0)), some (.int (x1))] rfl pnX3 (Nat.le_of_ble_eq_true rfl) rfl ?_
  unfold wX3_put at hw
  refine q_aload_nr eX3_put_0 rfl ?_
  obtain ⟨hs1, hw⟩ := hw
  refine q_getI flX3_21 rfl hs1 eX3_put_1 ?_
  refine q_aload_nr eX3_put_4 rfl ?_
  obtain ⟨a2, hr3, hw⟩ := hw
  refine q_getR flX3_9 rfl hs1 hr3 eX3_put_5 ?_
  obtain ⟨n5, hs4, hw⟩ := hw
  refine q_alen (by decide) hs4 eX3_put_8 ?_
  show Wm _ _ _ _ _ _ (.int (nI _) :: _) _ _
  obtain ⟨hw1, hw2⟩ := hw
  refine q_icmp_ge (tgt := 32) eX3_put_9 (by decide) (fun c => ?_) (fun c => ?_)
  · have hw := hw1 c
    exact q_retV rfl eX3_put_32 ⟨rfl, hw⟩
  · have hw := hw2 c
    refine q_aload_nr eX3_put_12 rfl ?_
    refine q_getR flX3_9 rfl hs1 hr3 eX3_put_13 ?_
    refine q_aload_nr eX3_put_16 rfl ?_
    refine q_getI flX3_21 rfl hs1 eX3_put_17 ?_
    refine q_iload_n eX3_put_20 rfl ?_
    obtain ⟨hi6, hw⟩ := hw
    have hw := hw _ rfl
    refine q_iast hs4 hi6 eX3_put_21 ?_
    refine q_aload_nr eX3_put_22 rfl ?_
    refine q_dup eX3_put_23 rfl ?_
    refine q_getI flX3_21 rfl hs1 eX3_put_24 ?_
    refine q_iconst (v := nI 1) eX3_put_27 (by decide) ?_
    refine q_iadd eX3_put_28 ?_
    have hw := hw _ rfl
    refine q_putI (fwX3_21 _) rfl hs1 eX3_put_29 ?_
    exact q_retV rfl eX3_put_32 ⟨rfl, hw⟩
def wX3_tell (x0 : Nat) (x1 : Int32) (x2 : Int32) (x3 : Int32) (x4 : Int32) (x5 : Int32) (h : MH) (Q : MH → Prop) : Prop := hS h x0 = (1, 3) ∧ ∃ a2, hR h x0 6 = some a2 ∧ ∃ n5, hS h a2 = (2, n5) ∧ vp_in (nI 0) n5 ∧ ∀ h7, h7 = sI h a2 (nI 0).toNatClampNeg (x1) → vp_in (nI 1) n5 ∧ ∀ h9, h9 = sI h7 a2 (nI 1).toNatClampNeg (x2) → vp_in (nI 2) n5 ∧ ∀ h11, h11 = sI h9 a2 (nI 2).toNatClampNeg (x3) → vp_in (nI 3) n5 ∧ ∀ h13, h13 = sI h11 a2 (nI 3).toNatClampNeg (x4) → vp_in (nI 4) n5 ∧ ∀ h15, h15 = sI h13 a2 (nI 4).toNatClampNeg (x5) → Q h15
set_option maxHeartbeats 4000000 in
set_option maxRecDepth 100000 in
theorem gX3_tell (x0 : Nat) (x1 : Int32) (x2 : Int32) (x3 : Int32) (x4 : Int32) (x5 : Int32) (h : MH) (Q : MH → Prop) (hw : wX3_tell x0 x1 x2 x3 x4 x5 h Q) : Cm MX3_tell 0 0 0 [.ref (x0), .int (x1), .int (x2), .int (x3), .int (x4), .int (x5)] h (pV Q) := by
  refine cm_of [some (.ref (x0)), some (.int (x1)), some (.int (x2)), some (.int (x3)), some (.int (x4)), some (.int (x5))] rfl pnX3 (Nat.le_of_ble_eq_true rfl) rfl ?_
  unfold wX3_tell at hw
  refine q_aload_nr eX3_tell_0 rfl ?_
  obtain ⟨hs1, hw⟩ := hw
  obtain ⟨a2, hr3, hw⟩ := hw
  refine q_getR flX3_15 rfl hs1 hr3 eX3_tell_1 ?_
  refine q_iconst (v := nI 0) eX3_tell_4 (by decide) ?_
  refine q_iload_n eX3_tell_5 rfl ?_
  obtain ⟨n5, hs4, hw⟩ := hw
  obtain ⟨hi6, hw⟩ := hw
  have hw := hw _ rfl
  refine q_iast hs4 hi6 eX3_tell_6 ?_
  refine q_aload_nr eX3_tell_7 rfl ?_
  refine q_getR flX3_15 rfl hs1 hr3 eX3_tell_8 ?_
  refine q_iconst (v := nI 1) eX3_tell_11 (by decide) ?_
  refine q_iload_n eX3_tell_12 rfl ?_
  obtain ⟨hi8, hw⟩ := hw
  have hw := hw _ rfl
  refine q_iast hs4 hi8 eX3_tell_13 ?_
  refine q_aload_nr eX3_tell_14 rfl ?_
  refine q_getR flX3_15 rfl hs1 hr3 eX3_tell_15 ?_
  refine q_iconst (v := nI 2) eX3_tell_18 (by decide) ?_
  refine q_iload_n eX3_tell_19 rfl ?_
  obtain ⟨hi10, hw⟩ := hw
  have hw := hw _ rfl
  refine q_iast hs4 hi10 eX3_tell_20 ?_
  refine q_aload_nr eX3_tell_21 rfl ?_
  refine q_getR flX3_15 rfl hs1 hr3 eX3_tell_22 ?_
  refine q_iconst (v := nI 3) eX3_tell_25 (by decide) ?_
  refine q_iload eX3_tell_26 rfl ?_
  obtain ⟨hi12, hw⟩ := hw
  have hw := hw _ rfl
  refine q_iast hs4 hi12 eX3_tell_28 ?_
  refine q_aload_nr eX3_tell_29 rfl ?_
  refine q_getR flX3_15 rfl hs1 hr3 eX3_tell_30 ?_
  refine q_iconst (v := nI 4) eX3_tell_33 (by decide) ?_
  refine q_iload eX3_tell_34 rfl ?_
  obtain ⟨hi14, hw⟩ := hw
  have hw := hw _ rfl
  refine q_iast hs4 hi14 eX3_tell_36 ?_
  exact q_retV rfl eX3_tell_37 ⟨rfl, hw⟩
def wX3_within (x0 : Int64) (h : MH) (Q : Int32 → MH → Prop) : Prop := Q (((if (if x0 < (1000000 : Int64) then x0 else (1000000 : Int64)) < (-1000000 : Int64) then (-1000000 : Int64) else (if x0 < (1000000 : Int64) then x0 else (1000000 : Int64)))).toInt32) h
set_option maxHeartbeats 4000000 in
set_option maxRecDepth 100000 in
theorem gX3_within (x0 : Int64) (h : MH) (Q : Int32 → MH → Prop) (hw : wX3_within x0 h Q) : Cm MX3_within 1 0 0 [.long (x0)] h (pI Q) := by
  refine cm_of [some (.long (x0)), none] rfl pnX3 (Nat.le_of_ble_eq_true rfl) rfl ?_
  unfold wX3_within at hw
  refine q_ldc2 coX3_57 eX3_within_0 ?_
  refine q_ldc2 coX3_59 eX3_within_3 ?_
  refine q_lload_n eX3_within_6 rfl ?_
  refine q_mminl mlX3_61 sMminl iNMath cMminl (by decide) (Nat.le_of_ble_eq_true rfl) eX3_within_7 ?_
  refine q_mmaxl mlX3_64 sMmaxl iNMath cMmaxl (by decide) (Nat.le_of_ble_eq_true rfl) eX3_within_10 ?_
  refine q_l2i eX3_within_13 ?_
  exact q_ret rfl eX3_within_14 ⟨_, rfl, hw⟩
def wX3_join (x0 : Int32) (x1 : Int32) (x2 : Int32) (h : MH) (Q : Int32 → MH → Prop) : Prop := ((x0).toInt < 1005 ∨ 1011 < (x0).toInt → Q ((x1 ||| x2)) h) ∧ (x0 = nI 1005 → wX3_within ((x1).toInt64 + (x2).toInt64) h (fun r1 h2 => Q (r1) h2)) ∧ (x0 = nI 1006 → wX3_within ((x1).toInt64 - (x2).toInt64) h (fun r3 h4 => Q (r3) h4)) ∧ (x0 = nI 1007 → wX3_within ((x1).toInt64 * (x2).toInt64) h (fun r5 h6 => Q (r5) h6)) ∧ (x0 = nI 1008 → Q ((if x1 = x2 then nI 1 else nI 0)) h) ∧ (x0 = nI 1009 → Q ((if x2 ≤ x1 then nI 0 else nI 1)) h) ∧ (x0 = nI 1010 → Q ((if x1 ≤ x2 then nI 0 else nI 1)) h) ∧ (x0 = nI 1011 → Q ((x1 &&& x2)) h)
set_option maxHeartbeats 4000000 in
set_option maxRecDepth 100000 in
theorem gX3_join (x0 : Int32) (x1 : Int32) (x2 : Int32) (h : MH) (Q : Int32 → MH → Prop) (hw : wX3_join x0 x1 x2 h Q) : Cm MX3_join 2 0 0 [.int (x0), .int (x1), .int (x2)] h (pI Q) := by
  refine cm_of [some (.int (x0)), some (.int (x1)), some (.int (x2))] rfl pnX3 (Nat.le_of_ble_eq_true rfl) rfl ?_
  unfold wX3_join at hw
  refine q_iload_n eX3_join_0 rfl ?_
  obtain ⟨hw0, hw1, hw2, hw3, hw4, hw5, hw6, hw7⟩ := hw
  by_cases hx : (x0).toInt < 1005 ∨ 1011 < (x0).toInt
  · have hw := hw0 hx
    refine q_tabOut (tgt := 108) eX3_join_1 hx (by decide) ?_
    refine q_iload_n eX3_join_108 rfl ?_
    refine q_iload_n eX3_join_109 rfl ?_
    refine q_ior eX3_join_110 ?_
    exact q_ret rfl eX3_join_111 ⟨_, rfl, hw⟩
  · have hk : (x0).toInt = 1005 ∨ (x0).toInt = 1006 ∨ (x0).toInt = 1007 ∨ (x0).toInt = 1008 ∨ (x0).toInt = 1009 ∨ (x0).toInt = 1010 ∨ (x0).toInt = 1011 := by omega
    rcases hk with hk | hk | hk | hk | hk | hk | hk
    · have hw := hw1 (x_toInt (by decide) hk)
      refine q_tabIn (off := 43) (tgt := 44) eX3_join_1 (by omega) (by omega) (by rw [hk]; rfl) (by decide) ?_
      refine q_iload_n eX3_join_44 rfl ?_
      refine q_i2l eX3_join_45 ?_
      refine q_iload_n eX3_join_46 rfl ?_
      refine q_i2l eX3_join_47 ?_
      refine q_ladd eX3_join_48 ?_
      refine q_callS (b := 0) (t := 0) (gX3_within _ _ _ hw) mlX3_53 kX3_within sX3_within rfl (by decide) rfl (Nat.le_of_ble_eq_true rfl) eX3_join_49 (kI fun r1 h2 hw => ?_)
      exact q_ret rfl eX3_join_52 ⟨_, rfl, hw⟩
    · have hw := hw2 (x_toInt (by decide) hk)
      refine q_tabIn (off := 52) (tgt := 53) eX3_join_1 (by omega) (by omega) (by rw [hk]; rfl) (by decide) ?_
      refine q_iload_n eX3_join_53 rfl ?_
      refine q_i2l eX3_join_54 ?_
      refine q_iload_n eX3_join_55 rfl ?_
      refine q_i2l eX3_join_56 ?_
      refine q_lsub eX3_join_57 ?_
      refine q_callS (b := 0) (t := 0) (gX3_within _ _ _ hw) mlX3_53 kX3_within sX3_within rfl (by decide) rfl (Nat.le_of_ble_eq_true rfl) eX3_join_58 (kI fun r3 h4 hw => ?_)
      exact q_ret rfl eX3_join_61 ⟨_, rfl, hw⟩
    · have hw := hw3 (x_toInt (by decide) hk)
      refine q_tabIn (off := 61) (tgt := 62) eX3_join_1 (by omega) (by omega) (by rw [hk]; rfl) (by decide) ?_
      refine q_iload_n eX3_join_62 rfl ?_
      refine q_i2l eX3_join_63 ?_
      refine q_iload_n eX3_join_64 rfl ?_
      refine q_i2l eX3_join_65 ?_
      refine q_lmul eX3_join_66 ?_
      refine q_callS (b := 0) (t := 0) (gX3_within _ _ _ hw) mlX3_53 kX3_within sX3_within rfl (by decide) rfl (Nat.le_of_ble_eq_true rfl) eX3_join_67 (kI fun r5 h6 hw => ?_)
      exact q_ret rfl eX3_join_70 ⟨_, rfl, hw⟩
    · have hw := hw4 (x_toInt (by decide) hk)
      refine q_tabIn (off := 70) (tgt := 71) eX3_join_1 (by omega) (by omega) (by rw [hk]; rfl) (by decide) ?_
      refine q_iload_n eX3_join_71 rfl ?_
      refine q_iload_n eX3_join_72 rfl ?_
      have hj8 : Wm MX3_join 2 0 0 81 [some (.int (x0)), some (.int (x1)), some (.int (x2))] [.int ((if x1 = x2 then nI 1 else nI 0))] h (pI Q) := by
        exact q_ret rfl eX3_join_81 ⟨_, rfl, hw⟩
      refine q_icmp_ne (tgt := 80) eX3_join_73 (by decide) (fun c => ?_) (fun c => ?_)
      · refine q_iconst (v := nI 0) eX3_join_80 (by decide) ?_
        rw [if_neg c] at hj8
        exact hj8
      · refine q_iconst (v := nI 1) eX3_join_76 (by decide) ?_
        refine q_goto (tgt := 81) eX3_join_77 (by decide) ?_
        rw [if_pos c] at hj8
        exact hj8
    · have hw := hw5 (x_toInt (by decide) hk)
      refine q_tabIn (off := 81) (tgt := 82) eX3_join_1 (by omega) (by omega) (by rw [hk]; rfl) (by decide) ?_
      refine q_iload_n eX3_join_82 rfl ?_
      refine q_iload_n eX3_join_83 rfl ?_
      have hj10 : Wm MX3_join 2 0 0 92 [some (.int (x0)), some (.int (x1)), some (.int (x2))] [.int ((if x2 ≤ x1 then nI 0 else nI 1))] h (pI Q) := by
        exact q_ret rfl eX3_join_92 ⟨_, rfl, hw⟩
      refine q_icmp_ge (tgt := 91) eX3_join_84 (by decide) (fun c => ?_) (fun c => ?_)
      · refine q_iconst (v := nI 0) eX3_join_91 (by decide) ?_
        rw [if_pos c] at hj10
        exact hj10
      · refine q_iconst (v := nI 1) eX3_join_87 (by decide) ?_
        refine q_goto (tgt := 92) eX3_join_88 (by decide) ?_
        rw [if_neg c] at hj10
        exact hj10
    · have hw := hw6 (x_toInt (by decide) hk)
      refine q_tabIn (off := 92) (tgt := 93) eX3_join_1 (by omega) (by omega) (by rw [hk]; rfl) (by decide) ?_
      refine q_iload_n eX3_join_93 rfl ?_
      refine q_iload_n eX3_join_94 rfl ?_
      have hj12 : Wm MX3_join 2 0 0 103 [some (.int (x0)), some (.int (x1)), some (.int (x2))] [.int ((if x1 ≤ x2 then nI 0 else nI 1))] h (pI Q) := by
        exact q_ret rfl eX3_join_103 ⟨_, rfl, hw⟩
      refine q_icmp_le (tgt := 102) eX3_join_95 (by decide) (fun c => ?_) (fun c => ?_)
      · refine q_iconst (v := nI 0) eX3_join_102 (by decide) ?_
        rw [if_pos c] at hj12
        exact hj12
      · refine q_iconst (v := nI 1) eX3_join_98 (by decide) ?_
        refine q_goto (tgt := 103) eX3_join_99 (by decide) ?_
        rw [if_neg c] at hj12
        exact hj12
    · have hw := hw7 (x_toInt (by decide) hk)
      refine q_tabIn (off := 103) (tgt := 104) eX3_join_1 (by omega) (by omega) (by rw [hk]; rfl) (by decide) ?_
      refine q_iload_n eX3_join_104 rfl ?_
      refine q_iload_n eX3_join_105 rfl ?_
      refine q_iand eX3_join_106 ?_
      exact q_ret rfl eX3_join_107 ⟨_, rfl, hw⟩
def wX3_workOut_5 (Q : Int32 → MH → Prop) : Nat → Nat → Int32 → Int32 → Int32 → MH → Prop
  | 0, _, _, _, _, _ => False
  | n + 1, x0, x2, x3, x4, h => (x2 ≤ x4 → (x3 ≤ 0 → Q (nI 0) h) ∧ (¬ (x3 ≤ 0) → hS h x0 = (1, 3) ∧ ∃ a2, hR h x0 7 = some a2 ∧ ∃ n5, hS h a2 = (2, n5) ∧ vp_in (nI 0) n5 ∧ Q (hI h a2 (nI 0).toNatClampNeg) h)) ∧ (¬ (x2 ≤ x4) → hS h x0 = (1, 3) ∧ ∃ a8, hR h x0 0 = some a8 ∧ ∃ n11, hS h a8 = (2, n11) ∧ vp_in (x4) n11 ∧ (nI 1005 ≤ hI h a8 (x4).toNatClampNeg → (¬ (hI h a8 (x4).toNatClampNeg = nI 1013) → (¬ (hI h a8 (x4).toNatClampNeg = nI 1014) → (x3 ≤ nI 1 → wX3_workOut_5 Q n x0 x2 x3 (x4 + nI 1) h) ∧ (¬ (x3 ≤ nI 1) → ∃ a13, hR h x0 7 = some a13 ∧ ∃ n16, hS h a13 = (2, n16) ∧ vp_in (((x3 + (-1 : Int32)) - nI 1)) n16 ∧ vp_in ((x3 + (-1 : Int32))) n16 ∧ wX3_join (hI h a8 (x4).toNatClampNeg) (hI h a13 (((x3 + (-1 : Int32)) - nI 1)).toNatClampNeg) (hI h a13 ((x3 + (-1 : Int32))).toNatClampNeg) h (fun r19 h20 => ∃ n22, hS h20 a13 = (2, n22) ∧ vp_in (((x3 + (-1 : Int32)) - nI 1)) n22 ∧ ∀ h24, h24 = sI h20 a13 (((x3 + (-1 : Int32)) - nI 1)).toNatClampNeg (r19) → wX3_workOut_5 Q n x0 x2 (x3 + (-1 : Int32)) (x4 + nI 1) h24))) ∧ (hI h a8 (x4).toNatClampNeg = nI 1014 → (x3 ≤ nI 2 → wX3_workOut_5 Q n x0 x2 x3 (x4 + nI 1) h) ∧ (¬ (x3 ≤ nI 2) → ∃ a25, hR h x0 7 = some a25 ∧ ∃ n28, hS h a25 = (2, n28) ∧ vp_in (((x3 + (-2 : Int32)) - nI 1)) n28 ∧ (hI h a25 (((x3 + (-2 : Int32)) - nI 1)).toNatClampNeg = 0 → vp_in (((x3 + (-2 : Int32)) + nI 1)) n28 ∧ vp_in (((x3 + (-2 : Int32)) - nI 1)) n28 ∧ ∀ h32, h32 = sI h a25 (((x3 + (-2 : Int32)) - nI 1)).toNatClampNeg (hI h a25 (((x3 + (-2 : Int32)) + nI 1)).toNatClampNeg) → wX3_workOut_5 Q n x0 x2 (x3 + (-2 : Int32)) (x4 + nI 1) h32) ∧ (¬ (hI h a25 (((x3 + (-2 : Int32)) - nI 1)).toNatClampNeg = 0) → vp_in ((x3 + (-2 : Int32))) n28 ∧ vp_in (((x3 + (-2 : Int32)) - nI 1)) n28 ∧ ∀ h35, h35 = sI h a25 (((x3 + (-2 : Int32)) - nI 1)).toNatClampNeg (hI h a25 ((x3 + (-2 : Int32))).toNatClampNeg) → wX3_workOut_5 Q n x0 x2 (x3 + (-2 : Int32)) (x4 + nI 1) h35)))) ∧ (hI h a8 (x4).toNatClampNeg = nI 1013 → (x3 ≤ 0 → wX3_workOut_5 Q n x0 x2 x3 (x4 + nI 1) h) ∧ (¬ (x3 ≤ 0) → ∃ a36, hR h x0 7 = some a36 ∧ ∃ n39, hS h a36 = (2, n39) ∧ vp_in ((x3 - nI 1)) n39 ∧ vp_in ((x3 - nI 1)) n39 ∧ ∀ h42, h42 = sI h a36 ((x3 - nI 1)).toNatClampNeg ((nI 1 - hI h a36 ((x3 - nI 1)).toNatClampNeg)) → wX3_workOut_5 Q n x0 x2 x3 (x4 + nI 1) h42))) ∧ (¬ (nI 1005 ≤ hI h a8 (x4).toNatClampNeg) → (nI 64 ≤ x3 → wX3_workOut_5 Q n x0 x2 x3 (x4 + nI 1) h) ∧ (¬ (nI 64 ≤ x3) → ∃ a43, hR h x0 7 = some a43 ∧ (nI 1000 ≤ hI h a8 (x4).toNatClampNeg → ∃ a45, hR h x0 6 = some a45 ∧ ∃ n48, hS h a45 = (2, n48) ∧ vp_in ((hI h a8 (x4).toNatClampNeg - nI 1000)) n48 ∧ ∃ n51, hS h a43 = (2, n51) ∧ vp_in (x3) n51 ∧ ∀ h53, h53 = sI h a43 (x3).toNatClampNeg (hI h a45 ((hI h a8 (x4).toNatClampNeg - nI 1000)).toNatClampNeg) → wX3_workOut_5 Q n x0 x2 (x3 + nI 1) (x4 + nI 1) h53) ∧ (¬ (nI 1000 ≤ hI h a8 (x4).toNatClampNeg) → ∃ n55, hS h a43 = (2, n55) ∧ vp_in (x3) n55 ∧ ∀ h57, h57 = sI h a43 (x3).toNatClampNeg (hI h a8 (x4).toNatClampNeg) → wX3_workOut_5 Q n x0 x2 (x3 + nI 1) (x4 + nI 1) h57))))
set_option maxHeartbeats 4000000 in
set_option maxRecDepth 100000 in
theorem tX3_workOut_5 {Q : Int32 → MH → Prop} : ∀ (n : Nat) (h : MH) (x0 : Nat) (x2 : Int32) (x3 : Int32) (x4 : Int32), wX3_workOut_5 Q n x0 x2 x3 x4 h → Wm MX3_workOut 3 0 0 5 [some (.ref (x0)), none, some (.int (x2)), some (.int (x3)), some (.int (x4)), none] [] h (pI Q) := by
  intro n
  induction n with
  | zero => intro h x0 x2 x3 x4 hw; exact hw.elim
  | succ n ih =>
    intro h x0 x2 x3 x4 hw
    unfold wX3_workOut_5 at hw
    refine q_iload eX3_workOut_5 rfl ?_
    refine q_iload_n eX3_workOut_7 rfl ?_
    obtain ⟨hw1, hw2⟩ := hw
    refine q_icmp_ge (tgt := 199) eX3_workOut_8 (by decide) (fun c => ?_) (fun c => ?_)
    · have hw := hw1 c
      refine q_iload_n eX3_workOut_199 rfl ?_
      obtain ⟨hw1, hw2⟩ := hw
      refine q_if_le (tgt := 212) eX3_workOut_200 (by decide) (fun c => ?_) (fun c => ?_)
      · have hw := hw1 c
        refine q_iconst (v := nI 0) eX3_workOut_212 (by decide) ?_
        exact q_ret rfl eX3_workOut_213 ⟨_, rfl, hw⟩
      · have hw := hw2 c
        refine q_aload_nr eX3_workOut_203 rfl ?_
        obtain ⟨hs1, hw⟩ := hw
        obtain ⟨a2, hr3, hw⟩ := hw
        refine q_getR flX3_18 rfl hs1 hr3 eX3_workOut_204 ?_
        refine q_iconst (v := nI 0) eX3_workOut_207 (by decide) ?_
        obtain ⟨n5, hs4, hw⟩ := hw
        obtain ⟨hi6, hw⟩ := hw
        refine q_iald hs4 hi6 eX3_workOut_208 ?_
        refine q_goto (tgt := 213) eX3_workOut_209 (by decide) ?_
        exact q_ret rfl eX3_workOut_213 ⟨_, rfl, hw⟩
    · have hw := hw2 c
      refine q_aload_nr eX3_workOut_11 rfl ?_
      obtain ⟨hs7, hw⟩ := hw
      obtain ⟨a8, hr9, hw⟩ := hw
      refine q_getR flX3_9 rfl hs7 hr9 eX3_workOut_12 ?_
      refine q_iload eX3_workOut_15 rfl ?_
      obtain ⟨n11, hs10, hw⟩ := hw
      obtain ⟨hi12, hw⟩ := hw
      refine q_iald hs10 hi12 eX3_workOut_17 ?_
      refine x_istore (ls' := [_, _, _, _, _, _]) eX3_workOut_18 (by decide) rfl rfl ?_
      refine q_iload eX3_workOut_20 rfl ?_
      refine q_sipush (v := nI 1005) eX3_workOut_22 (by decide) ?_
      obtain ⟨hw1, hw2⟩ := hw
      refine q_icmp_ge (tgt := 70) eX3_workOut_25 (by decide) (fun c => ?_) (fun c => ?_)
      · have hw := hw1 c
        refine q_iload eX3_workOut_70 rfl ?_
        refine q_sipush (v := nI 1013) eX3_workOut_72 (by decide) ?_
        obtain ⟨hw1, hw2⟩ := hw
        refine q_icmp_ne (tgt := 103) eX3_workOut_75 (by decide) (fun c => ?_) (fun c => ?_)
        · have hw := hw1 c
          refine q_iload eX3_workOut_103 rfl ?_
          refine q_sipush (v := nI 1014) eX3_workOut_105 (by decide) ?_
          obtain ⟨hw1, hw2⟩ := hw
          refine q_icmp_ne (tgt := 158) eX3_workOut_108 (by decide) (fun c => ?_) (fun c => ?_)
          · have hw := hw1 c
            refine q_iload_n eX3_workOut_158 rfl ?_
            refine q_iconst (v := nI 1) eX3_workOut_159 (by decide) ?_
            obtain ⟨hw1, hw2⟩ := hw
            refine q_icmp_le (tgt := 193) eX3_workOut_160 (by decide) (fun c => ?_) (fun c => ?_)
            · have hw := hw1 c
              refine x_iinc (v := (x4 + nI 1)) (ls' := [_, _, _, _, _, _]) eX3_workOut_193 rfl rfl rfl rfl ?_
              refine q_goto (tgt := 5) eX3_workOut_196 (by decide) ?_
              refine q_le (ls' := [some _, none, some _, some _, some _, none]) ⟨rfl, rfl, rfl, rfl, trivial⟩ ?_
              exact ih _ _ _ _ _ hw
            · have hw := hw2 c
              refine x_iinc (v := (x3 + (-1 : Int32))) (ls' := [_, _, _, _, _, _]) eX3_workOut_163 rfl rfl rfl rfl ?_
              refine q_aload_nr eX3_workOut_166 rfl ?_
              obtain ⟨a13, hr14, hw⟩ := hw
              refine q_getR flX3_18 rfl hs7 hr14 eX3_workOut_167 ?_
              refine q_iload_n eX3_workOut_170 rfl ?_
              refine q_iconst (v := nI 1) eX3_workOut_171 (by decide) ?_
              refine q_isub eX3_workOut_172 ?_
              refine q_iload eX3_workOut_173 rfl ?_
              refine q_aload_nr eX3_workOut_175 rfl ?_
              refine q_getR flX3_18 rfl hs7 hr14 eX3_workOut_176 ?_
              refine q_iload_n eX3_workOut_179 rfl ?_
              refine q_iconst (v := nI 1) eX3_workOut_180 (by decide) ?_
              refine q_isub eX3_workOut_181 ?_
              obtain ⟨n16, hs15, hw⟩ := hw
              obtain ⟨hi17, hw⟩ := hw
              refine q_iald hs15 hi17 eX3_workOut_182 ?_
              refine q_aload_nr eX3_workOut_183 rfl ?_
              refine q_getR flX3_18 rfl hs7 hr14 eX3_workOut_184 ?_
              refine q_iload_n eX3_workOut_187 rfl ?_
              obtain ⟨hi18, hw⟩ := hw
              refine q_iald hs15 hi18 eX3_workOut_188 ?_
              refine q_callS (b := 0) (t := 0) (gX3_join _ _ _ _ _ hw) mlX3_49 kX3_join sX3_join rfl (by decide) rfl (Nat.le_of_ble_eq_true rfl) eX3_workOut_189 (kI fun r19 h20 hw => ?_)
              obtain ⟨n22, hs21, hw⟩ := hw
              obtain ⟨hi23, hw⟩ := hw
              have hw := hw _ rfl
              refine q_iast hs21 hi23 eX3_workOut_192 ?_
              refine x_iinc (v := (x4 + nI 1)) (ls' := [_, _, _, _, _, _]) eX3_workOut_193 rfl rfl rfl rfl ?_
              refine q_goto (tgt := 5) eX3_workOut_196 (by decide) ?_
              refine q_le (ls' := [some _, none, some _, some _, some _, none]) ⟨rfl, rfl, rfl, rfl, trivial⟩ ?_
              exact ih _ _ _ _ _ hw
          · have hw := hw2 c
            refine q_iload_n eX3_workOut_111 rfl ?_
            refine q_iconst (v := nI 2) eX3_workOut_112 (by decide) ?_
            obtain ⟨hw1, hw2⟩ := hw
            refine q_icmp_le (tgt := 193) eX3_workOut_113 (by decide) (fun c => ?_) (fun c => ?_)
            · have hw := hw1 c
              refine x_iinc (v := (x4 + nI 1)) (ls' := [_, _, _, _, _, _]) eX3_workOut_193 rfl rfl rfl rfl ?_
              refine q_goto (tgt := 5) eX3_workOut_196 (by decide) ?_
              refine q_le (ls' := [some _, none, some _, some _, some _, none]) ⟨rfl, rfl, rfl, rfl, trivial⟩ ?_
              exact ih _ _ _ _ _ hw
            · have hw := hw2 c
              refine x_iinc (v := (x3 + (-2 : Int32))) (ls' := [_, _, _, _, _, _]) eX3_workOut_116 rfl rfl rfl rfl ?_
              refine q_aload_nr eX3_workOut_119 rfl ?_
              obtain ⟨a25, hr26, hw⟩ := hw
              refine q_getR flX3_18 rfl hs7 hr26 eX3_workOut_120 ?_
              refine q_iload_n eX3_workOut_123 rfl ?_
              refine q_iconst (v := nI 1) eX3_workOut_124 (by decide) ?_
              refine q_isub eX3_workOut_125 ?_
              refine q_aload_nr eX3_workOut_126 rfl ?_
              refine q_getR flX3_18 rfl hs7 hr26 eX3_workOut_127 ?_
              refine q_iload_n eX3_workOut_130 rfl ?_
              refine q_iconst (v := nI 1) eX3_workOut_131 (by decide) ?_
              refine q_isub eX3_workOut_132 ?_
              obtain ⟨n28, hs27, hw⟩ := hw
              obtain ⟨hi29, hw⟩ := hw
              refine q_iald hs27 hi29 eX3_workOut_133 ?_
              obtain ⟨hw1, hw2⟩ := hw
              refine q_if_eq (tgt := 146) eX3_workOut_134 (by decide) (fun c => ?_) (fun c => ?_)
              · have hw := hw1 c
                refine q_aload_nr eX3_workOut_146 rfl ?_
                refine q_getR flX3_18 rfl hs7 hr26 eX3_workOut_147 ?_
                refine q_iload_n eX3_workOut_150 rfl ?_
                refine q_iconst (v := nI 1) eX3_workOut_151 (by decide) ?_
                refine q_iadd eX3_workOut_152 ?_
                obtain ⟨hi30, hw⟩ := hw
                refine q_iald hs27 hi30 eX3_workOut_153 ?_
                obtain ⟨hi31, hw⟩ := hw
                have hw := hw _ rfl
                refine q_iast hs27 hi31 eX3_workOut_154 ?_
                refine q_goto (tgt := 193) eX3_workOut_155 (by decide) ?_
                refine x_iinc (v := (x4 + nI 1)) (ls' := [_, _, _, _, _, _]) eX3_workOut_193 rfl rfl rfl rfl ?_
                refine q_goto (tgt := 5) eX3_workOut_196 (by decide) ?_
                refine q_le (ls' := [some _, none, some _, some _, some _, none]) ⟨rfl, rfl, rfl, rfl, trivial⟩ ?_
                exact ih _ _ _ _ _ hw
              · have hw := hw2 c
                refine q_aload_nr eX3_workOut_137 rfl ?_
                refine q_getR flX3_18 rfl hs7 hr26 eX3_workOut_138 ?_
                refine q_iload_n eX3_workOut_141 rfl ?_
                obtain ⟨hi33, hw⟩ := hw
                refine q_iald hs27 hi33 eX3_workOut_142 ?_
                refine q_goto (tgt := 154) eX3_workOut_143 (by decide) ?_
                obtain ⟨hi34, hw⟩ := hw
                have hw := hw _ rfl
                refine q_iast hs27 hi34 eX3_workOut_154 ?_
                refine q_goto (tgt := 193) eX3_workOut_155 (by decide) ?_
                refine x_iinc (v := (x4 + nI 1)) (ls' := [_, _, _, _, _, _]) eX3_workOut_193 rfl rfl rfl rfl ?_
                refine q_goto (tgt := 5) eX3_workOut_196 (by decide) ?_
                refine q_le (ls' := [some _, none, some _, some _, some _, none]) ⟨rfl, rfl, rfl, rfl, trivial⟩ ?_
                exact ih _ _ _ _ _ hw
        · have hw := hw2 c
          refine q_iload_n eX3_workOut_78 rfl ?_
          obtain ⟨hw1, hw2⟩ := hw
          refine q_if_le (tgt := 193) eX3_workOut_79 (by decide) (fun c => ?_) (fun c => ?_)
          · have hw := hw1 c
            refine x_iinc (v := (x4 + nI 1)) (ls' := [_, _, _, _, _, _]) eX3_workOut_193 rfl rfl rfl rfl ?_
            refine q_goto (tgt := 5) eX3_workOut_196 (by decide) ?_
            refine q_le (ls' := [some _, none, some _, some _, some _, none]) ⟨rfl, rfl, rfl, rfl, trivial⟩ ?_
            exact ih _ _ _ _ _ hw
          · have hw := hw2 c
            refine q_aload_nr eX3_workOut_82 rfl ?_
            obtain ⟨a36, hr37, hw⟩ := hw
            refine q_getR flX3_18 rfl hs7 hr37 eX3_workOut_83 ?_
            refine q_iload_n eX3_workOut_86 rfl ?_
            refine q_iconst (v := nI 1) eX3_workOut_87 (by decide) ?_
            refine q_isub eX3_workOut_88 ?_
            refine q_iconst (v := nI 1) eX3_workOut_89 (by decide) ?_
            refine q_aload_nr eX3_workOut_90 rfl ?_
            refine q_getR flX3_18 rfl hs7 hr37 eX3_workOut_91 ?_
            refine q_iload_n eX3_workOut_94 rfl ?_
            refine q_iconst (v := nI 1) eX3_workOut_95 (by decide) ?_
            refine q_isub eX3_workOut_96 ?_
            obtain ⟨n39, hs38, hw⟩ := hw
            obtain ⟨hi40, hw⟩ := hw
            refine q_iald hs38 hi40 eX3_workOut_97 ?_
            refine q_isub eX3_workOut_98 ?_
            obtain ⟨hi41, hw⟩ := hw
            have hw := hw _ rfl
            refine q_iast hs38 hi41 eX3_workOut_99 ?_
            refine q_goto (tgt := 193) eX3_workOut_100 (by decide) ?_
            refine x_iinc (v := (x4 + nI 1)) (ls' := [_, _, _, _, _, _]) eX3_workOut_193 rfl rfl rfl rfl ?_
            refine q_goto (tgt := 5) eX3_workOut_196 (by decide) ?_
            refine q_le (ls' := [some _, none, some _, some _, some _, none]) ⟨rfl, rfl, rfl, rfl, trivial⟩ ?_
            exact ih _ _ _ _ _ hw
      · have hw := hw2 c
        refine q_iload_n eX3_workOut_28 rfl ?_
        refine q_bipush (v := nI 64) eX3_workOut_29 (by decide) ?_
        obtain ⟨hw1, hw2⟩ := hw
        refine q_icmp_ge (tgt := 193) eX3_workOut_31 (by decide) (fun c => ?_) (fun c => ?_)
        · have hw := hw1 c
          refine x_iinc (v := (x4 + nI 1)) (ls' := [_, _, _, _, _, _]) eX3_workOut_193 rfl rfl rfl rfl ?_
          refine q_goto (tgt := 5) eX3_workOut_196 (by decide) ?_
          refine q_le (ls' := [some _, none, some _, some _, some _, none]) ⟨rfl, rfl, rfl, rfl, trivial⟩ ?_
          exact ih _ _ _ _ _ hw
        · have hw := hw2 c
          refine q_aload_nr eX3_workOut_34 rfl ?_
          obtain ⟨a43, hr44, hw⟩ := hw
          refine q_getR flX3_18 rfl hs7 hr44 eX3_workOut_35 ?_
          refine q_iload_n eX3_workOut_38 rfl ?_
          refine q_iload eX3_workOut_39 rfl ?_
          refine q_sipush (v := nI 1000) eX3_workOut_41 (by decide) ?_
          obtain ⟨hw1, hw2⟩ := hw
          refine q_icmp_ge (tgt := 52) eX3_workOut_44 (by decide) (fun c => ?_) (fun c => ?_)
          · have hw := hw1 c
            refine q_aload_nr eX3_workOut_52 rfl ?_
            obtain ⟨a45, hr46, hw⟩ := hw
            refine q_getR flX3_15 rfl hs7 hr46 eX3_workOut_53 ?_
            refine q_iload eX3_workOut_56 rfl ?_
            refine q_sipush (v := nI 1000) eX3_workOut_58 (by decide) ?_
            refine q_isub eX3_workOut_61 ?_
            obtain ⟨n48, hs47, hw⟩ := hw
            obtain ⟨hi49, hw⟩ := hw
            refine q_iald hs47 hi49 eX3_workOut_62 ?_
            obtain ⟨n51, hs50, hw⟩ := hw
            obtain ⟨hi52, hw⟩ := hw
            have hw := hw _ rfl
            refine q_iast hs50 hi52 eX3_workOut_63 ?_
            refine x_iinc (v := (x3 + nI 1)) (ls' := [_, _, _, _, _, _]) eX3_workOut_64 rfl rfl rfl rfl ?_
            refine q_goto (tgt := 193) eX3_workOut_67 (by decide) ?_
            refine x_iinc (v := (x4 + nI 1)) (ls' := [_, _, _, _, _, _]) eX3_workOut_193 rfl rfl rfl rfl ?_
            refine q_goto (tgt := 5) eX3_workOut_196 (by decide) ?_
            refine q_le (ls' := [some _, none, some _, some _, some _, none]) ⟨rfl, rfl, rfl, rfl, trivial⟩ ?_
            exact ih _ _ _ _ _ hw
          · have hw := hw2 c
            refine q_iload eX3_workOut_47 rfl ?_
            refine q_goto (tgt := 63) eX3_workOut_49 (by decide) ?_
            obtain ⟨n55, hs54, hw⟩ := hw
            obtain ⟨hi56, hw⟩ := hw
            have hw := hw _ rfl
            refine q_iast hs54 hi56 eX3_workOut_63 ?_
            refine x_iinc (v := (x3 + nI 1)) (ls' := [_, _, _, _, _, _]) eX3_workOut_64 rfl rfl rfl rfl ?_
            refine q_goto (tgt := 193) eX3_workOut_67 (by decide) ?_
            refine x_iinc (v := (x4 + nI 1)) (ls' := [_, _, _, _, _, _]) eX3_workOut_193 rfl rfl rfl rfl ?_
            refine q_goto (tgt := 5) eX3_workOut_196 (by decide) ?_
            refine q_le (ls' := [some _, none, some _, some _, some _, none]) ⟨rfl, rfl, rfl, rfl, trivial⟩ ?_
            exact ih _ _ _ _ _ hw
def wX3_workOut (x0 : Nat) (x1 : Int32) (x2 : Int32) (h : MH) (Q : Int32 → MH → Prop) : Prop := ∃ m58, wX3_workOut_5 Q m58 x0 x2 (nI 0) x1 h
set_option maxHeartbeats 4000000 in
set_option maxRecDepth 100000 in
theorem gX3_workOut (x0 : Nat) (x1 : Int32) (x2 : Int32) (h : MH) (Q : Int32 → MH → Prop) (hw : wX3_workOut x0 x1 x2 h Q) : Cm MX3_workOut 3 0 0 [.ref (x0), .int (x1), .int (x2)] h (pI Q) := by
  refine cm_of [some (.ref (x0)), some (.int (x1)), some (.int (x2)), none, none, none] rfl pnX3 (Nat.le_of_ble_eq_true rfl) rfl ?_
  unfold wX3_workOut at hw
  refine q_iconst (v := nI 0) eX3_workOut_0 (by decide) ?_
  refine x_istore_n (ls' := [_, _, _, _, _, _]) eX3_workOut_1 (by decide) rfl rfl ?_
  refine q_iload_n eX3_workOut_2 rfl ?_
  refine x_istore (ls' := [_, _, _, _, _, _]) eX3_workOut_3 (by decide) rfl rfl ?_
  refine q_le (ls' := [some _, none, some _, some _, some _, none]) ⟨rfl, rfl, rfl, rfl, trivial⟩ ?_
  obtain ⟨m58, hw⟩ := hw
  exact tX3_workOut_5 m58 _ _ _ _ _ hw
def wX3_linkCost (x0 : Nat) (x1 : Int32) (h : MH) (Q : Int32 → MH → Prop) : Prop := hS h x0 = (1, 3) ∧ (¬ (hI h x0 2 = hI h x0 3) → wX3_workOut x0 (hI h x0 2) (hI h x0 3) h (fun r2 h3 => Q ((if nI 1 < (if r2 < nI 99 then r2 else nI 99) then (if r2 < nI 99 then r2 else nI 99) else nI 1)) h3)) ∧ (hI h x0 2 = hI h x0 3 → Q (x1) h)
set_option maxHeartbeats 4000000 in
set_option maxRecDepth 100000 in
theorem gX3_linkCost (x0 : Nat) (x1 : Int32) (h : MH) (Q : Int32 → MH → Prop) (hw : wX3_linkCost x0 x1 h Q) : Cm MX3_linkCost 4 0 0 [.ref (x0), .int (x1)] h (pI Q) := by
  refine cm_of [some (.ref (x0)), some (.int (x1))] rfl pnX3 (Nat.le_of_ble_eq_true rfl) rfl ?_
  unfold wX3_linkCost at hw
  refine q_aload_nr eX3_linkCost_0 rfl ?_
  obtain ⟨hs1, hw⟩ := hw
  refine q_getI flX3_25 rfl hs1 eX3_linkCost_1 ?_
  refine q_aload_nr eX3_linkCost_4 rfl ?_
  refine q_getI flX3_28 rfl hs1 eX3_linkCost_5 ?_
  obtain ⟨hw1, hw2⟩ := hw
  refine q_icmp_ne (tgt := 13) eX3_linkCost_8 (by decide) (fun c => ?_) (fun c => ?_)
  · have hw := hw1 c
    refine q_iconst (v := nI 1) eX3_linkCost_13 (by decide) ?_
    refine q_bipush (v := nI 99) eX3_linkCost_14 (by decide) ?_
    refine q_aload_nr eX3_linkCost_16 rfl ?_
    refine q_aload_nr eX3_linkCost_17 rfl ?_
    refine q_getI flX3_25 rfl hs1 eX3_linkCost_18 ?_
    refine q_aload_nr eX3_linkCost_21 rfl ?_
    refine q_getI flX3_28 rfl hs1 eX3_linkCost_22 ?_
    refine q_callV (b := 0) (t := 0) (gX3_workOut _ _ _ _ _ hw) mlX3_37 kX3_workOut vX3_workOut rfl hs1 ⟨rfl, rfl⟩ (by decide) rfl (Nat.le_of_ble_eq_true rfl) eX3_linkCost_25 (kI fun r2 h3 hw => ?_)
    refine q_mmin mlX3_41 sMmin iNMath cMmin (by decide) (Nat.le_of_ble_eq_true rfl) eX3_linkCost_28 ?_
    refine q_mmax mlX3_46 sMmax iNMath cMmax (by decide) (Nat.le_of_ble_eq_true rfl) eX3_linkCost_31 ?_
    exact q_ret rfl eX3_linkCost_34 ⟨_, rfl, hw⟩
  · have hw := hw2 c
    refine q_iload_n eX3_linkCost_11 rfl ?_
    exact q_ret rfl eX3_linkCost_12 ⟨_, rfl, hw⟩
def wX3_mayBe (x0 : Nat) (h : MH) (Q : Int32 → MH → Prop) : Prop := hS h x0 = (1, 3) ∧ (hI h x0 4 = hI h x0 5 → Q (nI 1) h) ∧ (¬ (hI h x0 4 = hI h x0 5) → wX3_workOut x0 (hI h x0 4) (hI h x0 5) h (fun r2 h3 => ((if r2 = 0 then nI 0 else nI 1) = 0 ∨ (if r2 = 0 then nI 0 else nI 1) = 1) ∧ Q ((if r2 = 0 then nI 0 else nI 1)) h3))
set_option maxHeartbeats 4000000 in
set_option maxRecDepth 100000 in
theorem gX3_mayBe (x0 : Nat) (h : MH) (Q : Int32 → MH → Prop) (hw : wX3_mayBe x0 h Q) : Cm MX3_mayBe 4 0 0 [.ref (x0)] h (pI Q) := by
  refine cm_of [some (.ref (x0))] rfl pnX3 (Nat.le_of_ble_eq_true rfl) rfl ?_
  unfold wX3_mayBe at hw
  refine q_aload_nr eX3_mayBe_0 rfl ?_
  obtain ⟨hs1, hw⟩ := hw
  refine q_getI flX3_31 rfl hs1 eX3_mayBe_1 ?_
  refine q_aload_nr eX3_mayBe_4 rfl ?_
  refine q_getI flX3_34 rfl hs1 eX3_mayBe_5 ?_
  obtain ⟨hw1, hw2⟩ := hw
  refine q_icmp_eq (tgt := 26) eX3_mayBe_8 (by decide) (fun c => ?_) (fun c => ?_)
  · have hw := hw1 c
    refine q_iconst (v := nI 1) eX3_mayBe_26 (by decide) ?_
    refine q_goto (tgt := 31) eX3_mayBe_27 (by decide) ?_
    exact q_retZ rfl (by decide) eX3_mayBe_31 ⟨_, rfl, hw⟩
  · have hw := hw2 c
    refine q_aload_nr eX3_mayBe_11 rfl ?_
    refine q_aload_nr eX3_mayBe_12 rfl ?_
    refine q_getI flX3_31 rfl hs1 eX3_mayBe_13 ?_
    refine q_aload_nr eX3_mayBe_16 rfl ?_
    refine q_getI flX3_34 rfl hs1 eX3_mayBe_17 ?_
    refine q_callV (b := 0) (t := 0) (gX3_workOut _ _ _ _ _ hw) mlX3_37 kX3_workOut vX3_workOut rfl hs1 ⟨rfl, rfl⟩ (by decide) rfl (Nat.le_of_ble_eq_true rfl) eX3_mayBe_20 (kI fun r2 h3 hw => ?_)
    have hj6 : Wm MX3_mayBe 4 0 0 31 [some (.ref (x0))] [.int ((if r2 = 0 then nI 0 else nI 1))] h3 (pI Q) := by
      obtain ⟨hz5, hw⟩ := hw
      exact q_retZ rfl hz5 eX3_mayBe_31 ⟨_, rfl, hw⟩
    refine q_if_eq (tgt := 30) eX3_mayBe_23 (by decide) (fun c => ?_) (fun c => ?_)
    · refine q_iconst (v := nI 0) eX3_mayBe_30 (by decide) ?_
      rw [if_pos c] at hj6
      exact hj6
    · refine q_iconst (v := nI 1) eX3_mayBe_26 (by decide) ?_
      refine q_goto (tgt := 31) eX3_mayBe_27 (by decide) ?_
      rw [if_neg c] at hj6
      exact hj6
def wX4_init (b t : Nat) (x0 : Nat) (h : MH) (Q : MH → Prop) : Prop := hS h x0 = (1, 4) ∧ ∀ h2, h2 = sI h x0 0 (nI 1) → ∀ h3, h3 = sI h2 x0 1 (nI 0) → ∀ h4, h4 = sI h3 x0 2 (nI 0) → ∀ h5, h5 = sI h4 x0 3 (nI 0) → 1 ≤ b ∧ 10 ≤ t ∧ ∀ a6, a6 = hN h5 → ∀ h7, h7 = al h5 (2, 10) → hS h7 x0 = (1, 4) ∧ ∀ h11, h11 = sR h7 x0 4 (some a6) → 1 ≤ (b - 1) ∧ 10 ≤ (t - 10) ∧ ∀ a12, a12 = hN h11 → ∀ h13, h13 = al h11 (2, 10) → hS h13 x0 = (1, 4) ∧ ∀ h17, h17 = sR h13 x0 5 (some a12) → 1 ≤ (b - 2) ∧ 10 ≤ (t - 20) ∧ ∀ a18, a18 = hN h17 → ∀ h19, h19 = al h17 (2, 10) → hS h19 x0 = (1, 4) ∧ ∀ h23, h23 = sR h19 x0 6 (some a18) → 1 ≤ (b - 3) ∧ 10 ≤ (t - 30) ∧ ∀ a24, a24 = hN h23 → ∀ h25, h25 = al h23 (2, 10) → hS h25 x0 = (1, 4) ∧ ∀ h29, h29 = sR h25 x0 7 (some a24) → 1 ≤ (b - 4) ∧ 100 ≤ (t - 40) ∧ ∀ a30, a30 = hN h29 → ∀ h31, h31 = al h29 (2, 100) → hS h31 x0 = (1, 4) ∧ ∀ h35, h35 = sR h31 x0 8 (some a30) → 1 ≤ (b - 5) ∧ 10 ≤ (t - 140) ∧ ∀ a36, a36 = hN h35 → ∀ h37, h37 = al h35 (3, 10) → hS h37 x0 = (1, 4) ∧ ∀ h41, h41 = sR h37 x0 9 (some a36) → ∀ h42, h42 = sI h41 x0 10 (nI 0) → 1 ≤ (b - 6) ∧ 0 ≤ (t - 150) ∧ ∀ a43, a43 = hN h42 → ∀ h44, h44 = al h42 (2, 0) → hS h44 x0 = (1, 4) ∧ ∀ h48, h48 = sR h44 x0 11 (some a43) → 1 ≤ (b - 7) ∧ 0 ≤ (t - 150) ∧ ∀ a49, a49 = hN h48 → ∀ h50, h50 = al h48 (2, 0) → hS h50 x0 = (1, 4) ∧ ∀ h54, h54 = sR h50 x0 12 (some a49) → 1 ≤ (b - 8) ∧ 0 ≤ (t - 150) ∧ ∀ a55, a55 = hN h54 → ∀ h56, h56 = al h54 (2, 0) → hS h56 x0 = (1, 4) ∧ ∀ h60, h60 = sR h56 x0 13 (some a55) → 1 ≤ (b - 9) ∧ 0 ≤ (t - 150) ∧ ∀ a61, a61 = hN h60 → ∀ h62, h62 = al h60 (2, 0) → hS h62 x0 = (1, 4) ∧ ∀ h66, h66 = sR h62 x0 14 (some a61) → Q h66
set_option maxHeartbeats 4000000 in
set_option maxRecDepth 100000 in
theorem gX4_init (b t : Nat) (x0 : Nat) (h : MH) (Q : MH → Prop) (hw : wX4_init b t x0 h Q) : Cm MX4_init 1 b t [.ref (x0)] h (pV Q) := by
  refine cm_of [some (.ref (x0))] rfl pnX4 (Nat.le_of_ble_eq_true rfl) rfl ?_
  unfold wX4_init at hw
  refine q_aload_nr eX4_init_0 rfl ?_
  refine q_objI mlX4_3 iOi cOi (by decide) (Nat.le_of_ble_eq_true rfl) eX4_init_1 ?_
  refine q_aload_nr eX4_init_4 rfl ?_
  refine q_iconst (v := nI 1) eX4_init_5 (by decide) ?_
  obtain ⟨hs1, hw⟩ := hw
  have hw := hw _ rfl
  refine q_putI (fwX4_9 _) rfl hs1 eX4_init_6 ?_
  refine q_aload_nr eX4_init_9 rfl ?_
  refine q_iconst (v := nI 0) eX4_init_10 (by decide) ?_
  have hw := hw _ rfl
  refine q_putI (fwX4_15 _) rfl hs1 eX4_init_11 ?_
  refine q_aload_nr eX4_init_14 rfl ?_
  refine q_iconst (v := nI 0) eX4_init_15 (by decide) ?_
  have hw := hw _ rfl
  refine q_putI (fwX4_18 _) rfl hs1 eX4_init_16 ?_
  refine q_aload_nr eX4_init_19 rfl ?_
  refine q_iconst (v := nI 0) eX4_init_20 (by decide) ?_
  have hw := hw _ rfl
  refine q_putI (fwX4_21 _) rfl hs1 eX4_init_21 ?_
  refine q_aload_nr eX4_init_24 rfl ?_
  refine q_bipush (v := nI 10) eX4_init_25 (by decide) ?_
  obtain ⟨hc8, hc9, hw⟩ := hw
  have hw := hw _ rfl _ rfl
  refine q_bud (b' := (b - 1) + 1) (t' := (t - 10) + 10) (by omega) (by omega) ?_
  refine q_newa (k := 2) (Or.inl rfl) rfl aC_int (by decide) (by decide) (by decide) eX4_init_27 ?_
  obtain ⟨hs10, hw⟩ := hw
  have hw := hw _ rfl
  refine q_putR fwX4_24 rfl hs10 eX4_init_29 ?_
  refine q_aload_nr eX4_init_32 rfl ?_
  refine q_bipush (v := nI 10) eX4_init_33 (by decide) ?_
  obtain ⟨hc14, hc15, hw⟩ := hw
  have hw := hw _ rfl _ rfl
  refine q_bud (b' := (b - 2) + 1) (t' := (t - 20) + 10) (by omega) (by omega) ?_
  refine q_newa (k := 2) (Or.inl rfl) rfl aC_int (by decide) (by decide) (by decide) eX4_init_35 ?_
  obtain ⟨hs16, hw⟩ := hw
  have hw := hw _ rfl
  refine q_putR fwX4_28 rfl hs16 eX4_init_37 ?_
  refine q_aload_nr eX4_init_40 rfl ?_
  refine q_bipush (v := nI 10) eX4_init_41 (by decide) ?_
  obtain ⟨hc20, hc21, hw⟩ := hw
  have hw := hw _ rfl _ rfl
  refine q_bud (b' := (b - 3) + 1) (t' := (t - 30) + 10) (by omega) (by omega) ?_
  refine q_newa (k := 2) (Or.inl rfl) rfl aC_int (by decide) (by decide) (by decide) eX4_init_43 ?_
  obtain ⟨hs22, hw⟩ := hw
  have hw := hw _ rfl
  refine q_putR fwX4_31 rfl hs22 eX4_init_45 ?_
  refine q_aload_nr eX4_init_48 rfl ?_
  refine q_bipush (v := nI 10) eX4_init_49 (by decide) ?_
  obtain ⟨hc26, hc27, hw⟩ := hw
  have hw := hw _ rfl _ rfl
  refine q_bud (b' := (b - 4) + 1) (t' := (t - 40) + 10) (by omega) (by omega) ?_
  refine q_newa (k := 2) (Or.inl rfl) rfl aC_int (by decide) (by decide) (by decide) eX4_init_51 ?_
  obtain ⟨hs28, hw⟩ := hw
  have hw := hw _ rfl
  refine q_putR fwX4_34 rfl hs28 eX4_init_53 ?_
  refine q_aload_nr eX4_init_56 rfl ?_
  refine q_bipush (v := nI 100) eX4_init_57 (by decide) ?_
  obtain ⟨hc32, hc33, hw⟩ := hw
  have hw := hw _ rfl _ rfl
  refine q_bud (b' := (b - 5) + 1) (t' := (t - 140) + 100) (by omega) (by omega) ?_
  refine q_newa (k := 2) (Or.inl rfl) rfl aC_int (by decide) (by decide) (by decide) eX4_init_59 ?_
  obtain ⟨hs34, hw⟩ := hw
  have hw := hw _ rfl
  refine q_putR fwX4_37 rfl hs34 eX4_init_61 ?_
  refine q_aload_nr eX4_init_64 rfl ?_
  refine q_bipush (v := nI 10) eX4_init_65 (by decide) ?_
  obtain ⟨hc38, hc39, hw⟩ := hw
  have hw := hw _ rfl _ rfl
  refine q_bud (b' := (b - 6) + 1) (t' := (t - 150) + 10) (by omega) (by omega) ?_
  refine q_newa (k := 3) (Or.inr (Or.inl rfl)) rfl aC_long (by decide) (by decide) (by decide) eX4_init_67 ?_
  obtain ⟨hs40, hw⟩ := hw
  have hw := hw _ rfl
  refine q_putR fwX4_40 rfl hs40 eX4_init_69 ?_
  refine q_aload_nr eX4_init_72 rfl ?_
  refine q_iconst (v := nI 0) eX4_init_73 (by decide) ?_
  have hw := hw _ rfl
  refine q_putI (fwX4_44 _) rfl hs40 eX4_init_74 ?_
  refine q_aload_nr eX4_init_77 rfl ?_
  refine q_iconst (v := nI 0) eX4_init_78 (by decide) ?_
  obtain ⟨hc45, hc46, hw⟩ := hw
  have hw := hw _ rfl _ rfl
  refine q_bud (b' := (b - 7) + 1) (t' := (t - 150) + 0) (by omega) (by omega) ?_
  refine q_newa (k := 2) (Or.inl rfl) rfl aC_int (by decide) (by decide) (by decide) eX4_init_79 ?_
  obtain ⟨hs47, hw⟩ := hw
  have hw := hw _ rfl
  refine q_putR (fwX4_47 _) rfl hs47 eX4_init_81 ?_
  refine q_aload_nr eX4_init_84 rfl ?_
  refine q_iconst (v := nI 0) eX4_init_85 (by decide) ?_
  obtain ⟨hc51, hc52, hw⟩ := hw
  have hw := hw _ rfl _ rfl
  refine q_bud (b' := (b - 8) + 1) (t' := (t - 150) + 0) (by omega) (by omega) ?_
  refine q_newa (k := 2) (Or.inl rfl) rfl aC_int (by decide) (by decide) (by decide) eX4_init_86 ?_
  obtain ⟨hs53, hw⟩ := hw
  have hw := hw _ rfl
  refine q_putR (fwX4_50 _) rfl hs53 eX4_init_88 ?_
  refine q_aload_nr eX4_init_91 rfl ?_
  refine q_iconst (v := nI 0) eX4_init_92 (by decide) ?_
  obtain ⟨hc57, hc58, hw⟩ := hw
  have hw := hw _ rfl _ rfl
  refine q_bud (b' := (b - 9) + 1) (t' := (t - 150) + 0) (by omega) (by omega) ?_
  refine q_newa (k := 2) (Or.inl rfl) rfl aC_int (by decide) (by decide) (by decide) eX4_init_93 ?_
  obtain ⟨hs59, hw⟩ := hw
  have hw := hw _ rfl
  refine q_putR (fwX4_53 _) rfl hs59 eX4_init_95 ?_
  refine q_aload_nr eX4_init_98 rfl ?_
  refine q_iconst (v := nI 0) eX4_init_99 (by decide) ?_
  obtain ⟨hc63, hc64, hw⟩ := hw
  have hw := hw _ rfl _ rfl
  refine q_bud (b' := (b - 10) + 1) (t' := (t - 150) + 0) (by omega) (by omega) ?_
  refine q_newa (k := 2) (Or.inl rfl) rfl aC_int (by decide) (by decide) (by decide) eX4_init_100 ?_
  obtain ⟨hs65, hw⟩ := hw
  have hw := hw _ rfl
  refine q_putR (fwX4_56 _) rfl hs65 eX4_init_102 ?_
  exact q_retV rfl eX4_init_105 ⟨rfl, hw⟩
def wX4_hasLink (x0 : Nat) (x1 : Int32) (h : MH) (Q : Int32 → MH → Prop) : Prop := (x1 < 0 → Q (nI 0) h) ∧ (¬ (x1 < 0) → hS h x0 = (1, 4) ∧ ((if hI h x0 3 ≤ x1 then nI 0 else nI 1) = 0 ∨ (if hI h x0 3 ≤ x1 then nI 0 else nI 1) = 1) ∧ Q ((if hI h x0 3 ≤ x1 then nI 0 else nI 1)) h)
set_option maxHeartbeats 4000000 in
set_option maxRecDepth 100000 in
theorem gX4_hasLink (x0 : Nat) (x1 : Int32) (h : MH) (Q : Int32 → MH → Prop) (hw : wX4_hasLink x0 x1 h Q) : Cm MX4_hasLink 0 0 0 [.ref (x0), .int (x1)] h (pI Q) := by
  refine cm_of [some (.ref (x0)), some (.int (x1))] rfl pnX4 (Nat.le_of_ble_eq_true rfl) rfl ?_
  unfold wX4_hasLink at hw
  refine q_iload_n eX4_hasLink_0 rfl ?_
  obtain ⟨hw1, hw2⟩ := hw
  refine q_if_lt (tgt := 16) eX4_hasLink_1 (by decide) (fun c => ?_) (fun c => ?_)
  · have hw := hw1 c
    refine q_iconst (v := nI 0) eX4_hasLink_16 (by decide) ?_
    exact q_retZ rfl (by decide) eX4_hasLink_17 ⟨_, rfl, hw⟩
  · have hw := hw2 c
    refine q_iload_n eX4_hasLink_4 rfl ?_
    refine q_aload_nr eX4_hasLink_5 rfl ?_
    obtain ⟨hs1, hw⟩ := hw
    refine q_getI flX4_21 rfl hs1 eX4_hasLink_6 ?_
    have hj4 : Wm MX4_hasLink 0 0 0 17 [some (.ref (x0)), some (.int (x1))] [.int ((if hI h x0 3 ≤ x1 then nI 0 else nI 1))] h (pI Q) := by
      obtain ⟨hz3, hw⟩ := hw
      exact q_retZ rfl hz3 eX4_hasLink_17 ⟨_, rfl, hw⟩
    refine q_icmp_ge (tgt := 16) eX4_hasLink_9 (by decide) (fun c => ?_) (fun c => ?_)
    · refine q_iconst (v := nI 0) eX4_hasLink_16 (by decide) ?_
      rw [if_pos c] at hj4
      exact hj4
    · refine q_iconst (v := nI 1) eX4_hasLink_12 (by decide) ?_
      refine q_goto (tgt := 17) eX4_hasLink_13 (by decide) ?_
      rw [if_neg c] at hj4
      exact hj4
def wX4_hasNode (x0 : Nat) (x1 : Int32) (h : MH) (Q : Int32 → MH → Prop) : Prop := (x1 < 0 → Q (nI 0) h) ∧ (¬ (x1 < 0) → hS h x0 = (1, 4) ∧ ((if hI h x0 0 ≤ x1 then nI 0 else nI 1) = 0 ∨ (if hI h x0 0 ≤ x1 then nI 0 else nI 1) = 1) ∧ Q ((if hI h x0 0 ≤ x1 then nI 0 else nI 1)) h)
set_option maxHeartbeats 4000000 in
set_option maxRecDepth 100000 in
theorem gX4_hasNode (x0 : Nat) (x1 : Int32) (h : MH) (Q : Int32 → MH → Prop) (hw : wX4_hasNode x0 x1 h Q) : Cm MX4_hasNode 0 0 0 [.ref (x0), .int (x1)] h (pI Q) := by
  refine cm_of [some (.ref (x0)), some (.int (x1))] rfl pnX4 (Nat.le_of_ble_eq_true rfl) rfl ?_
  unfold wX4_hasNode at hw
  refine q_iload_n eX4_hasNode_0 rfl ?_
  obtain ⟨hw1, hw2⟩ := hw
  refine q_if_lt (tgt := 16) eX4_hasNode_1 (by decide) (fun c => ?_) (fun c => ?_)
  · have hw := hw1 c
    refine q_iconst (v := nI 0) eX4_hasNode_16 (by decide) ?_
    exact q_retZ rfl (by decide) eX4_hasNode_17 ⟨_, rfl, hw⟩
  · have hw := hw2 c
    refine q_iload_n eX4_hasNode_4 rfl ?_
    refine q_aload_nr eX4_hasNode_5 rfl ?_
    obtain ⟨hs1, hw⟩ := hw
    refine q_getI flX4_9 rfl hs1 eX4_hasNode_6 ?_
    have hj4 : Wm MX4_hasNode 0 0 0 17 [some (.ref (x0)), some (.int (x1))] [.int ((if hI h x0 0 ≤ x1 then nI 0 else nI 1))] h (pI Q) := by
      obtain ⟨hz3, hw⟩ := hw
      exact q_retZ rfl hz3 eX4_hasNode_17 ⟨_, rfl, hw⟩
    refine q_icmp_ge (tgt := 16) eX4_hasNode_9 (by decide) (fun c => ?_) (fun c => ?_)
    · refine q_iconst (v := nI 0) eX4_hasNode_16 (by decide) ?_
      rw [if_pos c] at hj4
      exact hj4
    · refine q_iconst (v := nI 1) eX4_hasNode_12 (by decide) ?_
      refine q_goto (tgt := 17) eX4_hasNode_13 (by decide) ?_
      rw [if_neg c] at hj4
      exact hj4
def wX4_addLink (x0 : Nat) (x1 : Int32) (x2 : Int32) (x3 : Int32) (x4 : Int32) (h : MH) (Q : MH → Prop) : Prop := hS h x0 = (1, 4) ∧ (nI 10 ≤ hI h x0 3 → Q h) ∧ (¬ (nI 10 ≤ hI h x0 3) → ∃ a2, hR h x0 4 = some a2 ∧ ∃ n5, hS h a2 = (2, n5) ∧ vp_in (hI h x0 3) n5 ∧ ∀ h7, h7 = sI h a2 (hI h x0 3).toNatClampNeg (x1) → ∃ a8, hR h7 x0 5 = some a8 ∧ ∃ n11, hS h7 a8 = (2, n11) ∧ vp_in (hI h7 x0 3) n11 ∧ ∀ h13, h13 = sI h7 a8 (hI h7 x0 3).toNatClampNeg (x2) → ∃ a14, hR h13 x0 6 = some a14 ∧ ∃ n17, hS h13 a14 = (2, n17) ∧ vp_in (hI h13 x0 3) n17 ∧ ∀ h19, h19 = sI h13 a14 (hI h13 x0 3).toNatClampNeg (x3) → ∃ a20, hR h19 x0 7 = some a20 ∧ ∃ n23, hS h19 a20 = (2, n23) ∧ vp_in (hI h19 x0 3) n23 ∧ ∀ h25, h25 = sI h19 a20 (hI h19 x0 3).toNatClampNeg (x4) → ∀ h26, h26 = sI h25 x0 3 ((hI h25 x0 3 + nI 1)) → Q h26)
set_option maxHeartbeats 4000000 in
set_option maxRecDepth 100000 in
theorem gX4_addLink (x0 : Nat) (x1 : Int32) (x2 : Int32) (x3 : Int32) (x4 : Int32) (h : MH) (Q : MH → Prop) (hw : wX4_addLink x0 x1 x2 x3 x4 h Q) : Cm MX4_addLink 0 0 0 [.ref (x0), .int (x1), .int (x2), .int (x3), .int (x4)] h (pV Q) := by
  refine cm_of [some (.ref (x0)), some (.int (x1)), some (.int (x2)), some (.int (x3)), some (.int (x4))] rfl pnX4 (Nat.le_of_ble_eq_true rfl) rfl ?_
  unfold wX4_addLink at hw
  refine q_aload_nr eX4_addLink_0 rfl ?_
  obtain ⟨hs1, hw⟩ := hw
  refine q_getI flX4_21 rfl hs1 eX4_addLink_1 ?_
  refine q_bipush (v := nI 10) eX4_addLink_4 (by decide) ?_
  obtain ⟨hw1, hw2⟩ := hw
  refine q_icmp_ge (tgt := 60) eX4_addLink_6 (by decide) (fun c => ?_) (fun c => ?_)
  · have hw := hw1 c
    exact q_retV rfl eX4_addLink_60 ⟨rfl, hw⟩
  · have hw := hw2 c
    refine q_aload_nr eX4_addLink_9 rfl ?_
    obtain ⟨a2, hr3, hw⟩ := hw
    refine q_getR flX4_24 rfl hs1 hr3 eX4_addLink_10 ?_
    refine q_aload_nr eX4_addLink_13 rfl ?_
    refine q_getI flX4_21 rfl hs1 eX4_addLink_14 ?_
    refine q_iload_n eX4_addLink_17 rfl ?_
    obtain ⟨n5, hs4, hw⟩ := hw
    obtain ⟨hi6, hw⟩ := hw
    have hw := hw _ rfl
    refine q_iast hs4 hi6 eX4_addLink_18 ?_
    refine q_aload_nr eX4_addLink_19 rfl ?_
    obtain ⟨a8, hr9, hw⟩ := hw
    refine q_getR flX4_28 rfl hs1 hr9 eX4_addLink_20 ?_
    refine q_aload_nr eX4_addLink_23 rfl ?_
    refine q_getI flX4_21 rfl hs1 eX4_addLink_24 ?_
    refine q_iload_n eX4_addLink_27 rfl ?_
    obtain ⟨n11, hs10, hw⟩ := hw
    obtain ⟨hi12, hw⟩ := hw
    have hw := hw _ rfl
    refine q_iast hs10 hi12 eX4_addLink_28 ?_
    refine q_aload_nr eX4_addLink_29 rfl ?_
    obtain ⟨a14, hr15, hw⟩ := hw
    refine q_getR flX4_31 rfl hs1 hr15 eX4_addLink_30 ?_
    refine q_aload_nr eX4_addLink_33 rfl ?_
    refine q_getI flX4_21 rfl hs1 eX4_addLink_34 ?_
    refine q_iload_n eX4_addLink_37 rfl ?_
    obtain ⟨n17, hs16, hw⟩ := hw
    obtain ⟨hi18, hw⟩ := hw
    have hw := hw _ rfl
    refine q_iast hs16 hi18 eX4_addLink_38 ?_
    refine q_aload_nr eX4_addLink_39 rfl ?_
    obtain ⟨a20, hr21, hw⟩ := hw
    refine q_getR flX4_34 rfl hs1 hr21 eX4_addLink_40 ?_
    refine q_aload_nr eX4_addLink_43 rfl ?_
    refine q_getI flX4_21 rfl hs1 eX4_addLink_44 ?_
    refine q_iload eX4_addLink_47 rfl ?_
    obtain ⟨n23, hs22, hw⟩ := hw
    obtain ⟨hi24, hw⟩ := hw
    have hw := hw _ rfl
    refine q_iast hs22 hi24 eX4_addLink_49 ?_
    refine q_aload_nr eX4_addLink_50 rfl ?_
    refine q_dup eX4_addLink_51 rfl ?_
    refine q_getI flX4_21 rfl hs1 eX4_addLink_52 ?_
    refine q_iconst (v := nI 1) eX4_addLink_55 (by decide) ?_
    refine q_iadd eX4_addLink_56 ?_
    have hw := hw _ rfl
    refine q_putI (fwX4_21 _) rfl hs1 eX4_addLink_57 ?_
    exact q_retV rfl eX4_addLink_60 ⟨rfl, hw⟩
