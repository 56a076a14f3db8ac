/-! ===== methods: what each needs and does (by program) ===== -/
def wX10_lists_68 (Q : Int32 → MH → Prop) (K56 : Nat → Int32 → Int32 → Int32 → MH → Prop) : Nat → Nat → Int32 → Int32 → Int32 → Int32 → MH → Prop
  | 0, _, _, _, _, _, _ => False
  | n + 1, x0, x1, x4, x5, x6, h => hS h x0 = (1, 10) ∧ ∃ a15, hR h x0 28 = some a15 ∧ ∃ n18, hS h a15 = (2, n18) ∧ vp_in (x5) n18 ∧ (hI h a15 (x5).toNatClampNeg ≤ x6 → K56 x0 x1 x4 (x5 + nI 1) h) ∧ (¬ (hI h a15 (x5).toNatClampNeg ≤ x6) → ∃ a20, hR h x0 35 = some a20 ∧ ∃ n23, hS h a20 = (2, n23) ∧ vp_in (x1) n23 ∧ (hI h a20 (x1).toNatClampNeg ≤ x4 → K56 x0 x1 x4 (x5 + nI 1) h) ∧ (¬ (hI h a20 (x1).toNatClampNeg ≤ x4) → ∃ a25, hR h x0 36 = some a25 ∧ ∃ n28, hS h a25 = (3, n28) ∧ vp_in (((nI 40 * x1) + x4)) n28 ∧ ∀ h30, h30 = sL h a25 (((nI 40 * x1) + x4)).toNatClampNeg ((x5).toInt64) → wX10_lists_68 Q K56 n x0 x1 (x4 + nI 1) x5 (x6 + nI 1) h30))
set_option maxHeartbeats 4000000 in
set_option maxRecDepth 100000 in
theorem tX10_lists_68 {Q : Int32 → MH → Prop} {K56 : Nat → Int32 → Int32 → Int32 → MH → Prop} (hK56 : ∀ (h : MH) (x0 : Nat) (x1 : Int32) (x4 : Int32) (x5 : Int32), K56 x0 x1 x4 x5 h → Wm MX10_lists 302 0 0 56 [some (.ref (x0)), some (.int (x1)), none, none, some (.int (x4)), some (.int (x5)), none] [] h (pI Q)) : ∀ (n : Nat) (h : MH) (x0 : Nat) (x1 : Int32) (x4 : Int32) (x5 : Int32) (x6 : Int32), wX10_lists_68 Q K56 n x0 x1 x4 x5 x6 h → Wm MX10_lists 302 0 0 68 [some (.ref (x0)), some (.int (x1)), none, none, some (.int (x4)), some (.int (x5)), some (.int (x6))] [] h (pI Q) := by
  intro n
  induction n with
  | zero => intro h x0 x1 x4 x5 x6 hw; exact hw.elim
  | succ n ih =>
    intro h x0 x1 x4 x5 x6 hw
    unfold wX10_lists_68 at hw
    refine q_iload eX10_lists_68 rfl ?_
    refine q_aload_nr eX10_lists_70 rfl ?_
    obtain ⟨hs14, hw⟩ := hw
    obtain ⟨a15, hr16, hw⟩ := hw
    refine q_getR flX10_58 rfl hs14 hr16 eX10_lists_71 ?_
    refine q_iload eX10_lists_74 rfl ?_
    obtain ⟨n18, hs17, hw⟩ := hw
    obtain ⟨hi19, hw⟩ := hw
    refine q_iald hs17 hi19 eX10_lists_76 ?_
    obtain ⟨hw1, hw2⟩ := hw
    refine q_icmp_ge (tgt := 115) eX10_lists_77 (by decide) (fun c => ?_) (fun c => ?_)
    · have hw := hw1 c
      refine x_iinc (v := (x5 + nI 1)) (ls' := [_, _, _, _, _, _, _]) eX10_lists_115 rfl rfl rfl rfl ?_
      refine q_goto (tgt := 56) eX10_lists_118 (by decide) ?_
      refine q_le (ls' := [some _, some _, none, none, some _, some _, none]) ⟨rfl, rfl, rfl, rfl, trivial⟩ ?_
      exact hK56 _ _ _ _ _ hw
    · have hw := hw2 c
      refine q_iload eX10_lists_80 rfl ?_
      refine q_aload_nr eX10_lists_82 rfl ?_
      obtain ⟨a20, hr21, hw⟩ := hw
      refine q_getR flX10_73 rfl hs14 hr21 eX10_lists_83 ?_
      refine q_iload_n eX10_lists_86 rfl ?_
      obtain ⟨n23, hs22, hw⟩ := hw
      obtain ⟨hi24, hw⟩ := hw
      refine q_iald hs22 hi24 eX10_lists_87 ?_
      obtain ⟨hw1, hw2⟩ := hw
      refine q_icmp_ge (tgt := 115) eX10_lists_88 (by decide) (fun c => ?_) (fun c => ?_)
      · have hw := hw1 c
        refine x_iinc (v := (x5 + nI 1)) (ls' := [_, _, _, _, _, _, _]) eX10_lists_115 rfl rfl rfl rfl ?_
        refine q_goto (tgt := 56) eX10_lists_118 (by decide) ?_
        refine q_le (ls' := [some _, some _, none, none, some _, some _, none]) ⟨rfl, rfl, rfl, rfl, trivial⟩ ?_
        exact hK56 _ _ _ _ _ hw
      · have hw := hw2 c
        refine q_aload_nr eX10_lists_91 rfl ?_
        obtain ⟨a25, hr26, hw⟩ := hw
        refine q_getR flX10_76 rfl hs14 hr26 eX10_lists_92 ?_
        refine q_bipush (v := nI 40) eX10_lists_95 (by decide) ?_
        refine q_iload_n eX10_lists_97 rfl ?_
        refine q_imul eX10_lists_98 ?_
        refine q_iload eX10_lists_99 rfl ?_
        refine q_iadd eX10_lists_101 ?_
        refine q_iload eX10_lists_102 rfl ?_
        refine q_i2l eX10_lists_104 ?_
        obtain ⟨n28, hs27, hw⟩ := hw
        obtain ⟨hi29, hw⟩ := hw
        have hw := hw _ rfl
        refine q_last hs27 hi29 eX10_lists_105 ?_
        refine x_iinc (v := (x4 + nI 1)) (ls' := [_, _, _, _, _, _, _]) eX10_lists_106 rfl rfl rfl rfl ?_
        refine x_iinc (v := (x6 + nI 1)) (ls' := [_, _, _, _, _, _, _]) eX10_lists_109 rfl rfl rfl rfl ?_
        refine q_goto (tgt := 68) eX10_lists_112 (by decide) ?_
        refine q_le (ls' := [some _, some _, none, none, some _, some _, some _]) ⟨rfl, rfl, rfl, rfl, rfl, trivial⟩ ?_
        exact ih _ _ _ _ _ _ hw
def wX10_lists_56 (Q : Int32 → MH → Prop) : Nat → Nat → Int32 → Int32 → Int32 → MH → Prop
  | 0, _, _, _, _, _ => False
  | n + 1, x0, x1, x4, x5, h => hS h x0 = (1, 10) ∧ (hI h x0 23 ≤ x5 → Q (x4) h) ∧ (¬ (hI h x0 23 ≤ x5) → ∃ m31, wX10_lists_68 Q (wX10_lists_56 Q n) m31 x0 x1 x4 x5 (nI 0) h)
set_option maxHeartbeats 4000000 in
set_option maxRecDepth 100000 in
theorem tX10_lists_56 {Q : Int32 → MH → Prop} : ∀ (n : Nat) (h : MH) (x0 : Nat) (x1 : Int32) (x4 : Int32) (x5 : Int32), wX10_lists_56 Q n x0 x1 x4 x5 h → Wm MX10_lists 302 0 0 56 [some (.ref (x0)), some (.int (x1)), none, none, some (.int (x4)), some (.int (x5)), none] [] h (pI Q) := by
  intro n
  induction n with
  | zero => intro h x0 x1 x4 x5 hw; exact hw.elim
  | succ n ih =>
    intro h x0 x1 x4 x5 hw
    unfold wX10_lists_56 at hw
    refine q_iload eX10_lists_56 rfl ?_
    refine q_aload_nr eX10_lists_58 rfl ?_
    obtain ⟨hs13, hw⟩ := hw
    refine q_getI flX10_216 rfl hs13 eX10_lists_59 ?_
    obtain ⟨hw1, hw2⟩ := hw
    refine q_icmp_ge (tgt := 121) eX10_lists_62 (by decide) (fun c => ?_) (fun c => ?_)
    · have hw := hw1 c
      refine q_iload eX10_lists_121 rfl ?_
      exact q_ret rfl eX10_lists_123 ⟨_, rfl, hw⟩
    · have hw := hw2 c
      refine q_iconst (v := nI 0) eX10_lists_65 (by decide) ?_
      refine x_istore (ls' := [_, _, _, _, _, _, _]) eX10_lists_66 (by decide) rfl rfl ?_
      refine q_le (ls' := [some _, some _, none, none, some _, some _, some _]) ⟨rfl, rfl, rfl, rfl, rfl, trivial⟩ ?_
      obtain ⟨m31, hw⟩ := hw
      exact tX10_lists_68 ih m31 _ _ _ _ _ _ hw
def wX10_lists (x0 : Nat) (x1 : Int32) (x2 : Int32) (h : MH) (Q : Int32 → MH → Prop) : Prop := hS h x0 = (1, 10) ∧ ∀ h2, h2 = sI h x0 0 (nI 0) → wX10_within ((x1).toInt64) (0 : Int64) (3 : Int64) h2 (fun r3 h4 => (r3 = 0 → Q ((-2 : Int32)) h4) ∧ (¬ (r3 = 0) → wX10_isAim x2 h4 (fun r5 h6 => (¬ (r5 = 0) → hS h6 x0 = (1, 10) ∧ wX10_noTray x0 x1 h6 (fun r8 h9 => (r8 = 0 → hS h9 x0 = (1, 10) ∧ wX10_laysYet x0 x2 h9 (fun r11 h12 => (¬ (r11 = 0) → ∃ m32, wX10_lists_56 Q m32 x0 x1 (nI 0) (nI 0) h12) ∧ (r11 = 0 → Q ((-5 : Int32)) h12))) ∧ (¬ (r8 = 0) → Q (r8) h9))) ∧ (r5 = 0 → Q ((-2 : Int32)) h6))))
set_option maxHeartbeats 4000000 in
set_option maxRecDepth 100000 in
theorem gX10_lists (x0 : Nat) (x1 : Int32) (x2 : Int32) (h : MH) (Q : Int32 → MH → Prop) (hw : wX10_lists x0 x1 x2 h Q) : Cm MX10_lists 302 0 0 [.ref (x0), .int (x1), .int (x2)] h (pI Q) := by
  refine cm_of [some (.ref (x0)), some (.int (x1)), some (.int (x2)), none, none, none, none] rfl pnX10 (Nat.le_of_ble_eq_true rfl) rfl ?_
  unfold wX10_lists at hw
  refine q_aload_nr eX10_lists_0 rfl ?_
  refine q_iconst (v := nI 0) eX10_lists_1 (by decide) ?_
  obtain ⟨hs1, hw⟩ := hw
  have hw := hw _ rfl
  refine q_putI (fwX10_1 _) rfl hs1 eX10_lists_2 ?_
  refine q_iload_n eX10_lists_5 rfl ?_
  refine q_i2l eX10_lists_6 ?_
  refine q_lconst (v := (0 : Int64)) eX10_lists_7 (by decide) ?_
  refine q_ldc2 coX10_371 eX10_lists_8 ?_
  refine q_callS (b := 0) (t := 0) (gX10_within _ _ _ _ _ hw) mlX10_149 kX10_within sX10_within rfl (by decide) rfl (Nat.le_of_ble_eq_true rfl) eX10_lists_11 (kI fun r3 h4 hw => ?_)
  obtain ⟨hw1, hw2⟩ := hw
  refine q_if_eq (tgt := 24) eX10_lists_14 (by decide) (fun c => ?_) (fun c => ?_)
  · have hw := hw1 c
    refine q_bipush (v := (-2 : Int32)) eX10_lists_24 (by decide) ?_
    exact q_ret rfl eX10_lists_26 ⟨_, rfl, hw⟩
  · have hw := hw2 c
    refine q_iload_n eX10_lists_17 rfl ?_
    refine q_callS (b := 0) (t := 0) (gX10_isAim _ _ _ hw) mlX10_410 kX10_isAim sX10_isAim rfl (by decide) rfl (Nat.le_of_ble_eq_true rfl) eX10_lists_18 (kI fun r5 h6 hw => ?_)
    obtain ⟨hw1, hw2⟩ := hw
    refine q_if_ne (tgt := 27) eX10_lists_21 (by decide) (fun c => ?_) (fun c => ?_)
    · have hw := hw1 c
      refine q_aload_nr eX10_lists_27 rfl ?_
      refine q_iload_n eX10_lists_28 rfl ?_
      obtain ⟨hs7, hw⟩ := hw
      refine q_callV (b := 0) (t := 0) (gX10_noTray _ _ _ _ hw) mlX10_373 kX10_noTray vX10_noTray rfl hs7 ⟨rfl, rfl⟩ (by decide) rfl (Nat.le_of_ble_eq_true rfl) eX10_lists_29 (kI fun r8 h9 hw => ?_)
      refine x_istore_n (ls' := [_, _, _, _, _, _, _]) eX10_lists_32 (by decide) rfl rfl ?_
      refine q_iload_n eX10_lists_33 rfl ?_
      obtain ⟨hw1, hw2⟩ := hw
      refine q_if_eq (tgt := 39) eX10_lists_34 (by decide) (fun c => ?_) (fun c => ?_)
      · have hw := hw1 c
        refine q_aload_nr eX10_lists_39 rfl ?_
        refine q_iload_n eX10_lists_40 rfl ?_
        obtain ⟨hs10, hw⟩ := hw
        refine q_callV (b := 0) (t := 0) (gX10_laysYet _ _ _ _ hw) mlX10_413 kX10_laysYet vX10_laysYet rfl hs10 ⟨rfl, rfl⟩ (by decide) rfl (Nat.le_of_ble_eq_true rfl) eX10_lists_41 (kI fun r11 h12 hw => ?_)
        obtain ⟨hw1, hw2⟩ := hw
        refine q_if_ne (tgt := 50) eX10_lists_44 (by decide) (fun c => ?_) (fun c => ?_)
        · have hw := hw1 c
          refine q_iconst (v := nI 0) eX10_lists_50 (by decide) ?_
          refine x_istore (ls' := [_, _, _, _, _, _, _]) eX10_lists_51 (by decide) rfl rfl ?_
          refine q_iconst (v := nI 0) eX10_lists_53 (by decide) ?_
          refine x_istore (ls' := [_, _, _, _, _, _, _]) eX10_lists_54 (by decide) rfl rfl ?_
          refine q_le (ls' := [some _, some _, none, none, some _, some _, none]) ⟨rfl, rfl, rfl, rfl, trivial⟩ ?_
          obtain ⟨m32, hw⟩ := hw
          exact tX10_lists_56 m32 _ _ _ _ _ hw
        · have hw := hw2 c
          refine q_bipush (v := (-5 : Int32)) eX10_lists_47 (by decide) ?_
          exact q_ret rfl eX10_lists_49 ⟨_, rfl, hw⟩
      · have hw := hw2 c
        refine q_iload_n eX10_lists_37 rfl ?_
        exact q_ret rfl eX10_lists_38 ⟨_, rfl, hw⟩
    · have hw := hw2 c
      refine q_bipush (v := (-2 : Int32)) eX10_lists_24 (by decide) ?_
      exact q_ret rfl eX10_lists_26 ⟨_, rfl, hw⟩
def wX10_image_20 (Q : Int32 → MH → Prop) : Nat → Nat → Int32 → Int32 → MH → Prop
  | 0, _, _, _, _ => False
  | n + 1, x0, x1, x2, h => (nI 2337 ≤ x2 → hS h x0 = (1, 10) ∧ ∃ a6, hR h x0 2 = some a6 ∧ ∃ n9, hS h a6 = (5, n9) ∧ vp_in (x1) n9 ∧ ∀ h11, h11 = sI h a6 (x1).toNatClampNeg (nI 1) → Q (nI 0) h11) ∧ (¬ (nI 2337 ≤ x2) → hS h x0 = (1, 10) ∧ ∃ a13, hR h x0 1 = some a13 ∧ ∃ n16, hS h a13 = (2, n16) ∧ vp_in (x2) n16 ∧ vp_in (((nI 2337 * (x1 + nI 1)) + x2)) n16 ∧ ∀ h19, h19 = sI h a13 (((nI 2337 * (x1 + nI 1)) + x2)).toNatClampNeg (hI h a13 (x2).toNatClampNeg) → wX10_image_20 Q n x0 x1 (x2 + nI 1) h19)
set_option maxHeartbeats 4000000 in
set_option maxRecDepth 100000 in
theorem tX10_image_20 {Q : Int32 → MH → Prop} : ∀ (n : Nat) (h : MH) (x0 : Nat) (x1 : Int32) (x2 : Int32), wX10_image_20 Q n x0 x1 x2 h → Wm MX10_image 1 0 0 20 [some (.ref (x0)), some (.int (x1)), some (.int (x2))] [] h (pI Q) := by
  intro n
  induction n with
  | zero => intro h x0 x1 x2 hw; exact hw.elim
  | succ n ih =>
    intro h x0 x1 x2 hw
    unfold wX10_image_20 at hw
    refine q_iload_n eX10_image_20 rfl ?_
    refine q_sipush (v := nI 2337) eX10_image_21 (by decide) ?_
    obtain ⟨hw1, hw2⟩ := hw
    refine q_icmp_ge (tgt := 53) eX10_image_24 (by decide) (fun c => ?_) (fun c => ?_)
    · have hw := hw1 c
      refine q_aload_nr eX10_image_53 rfl ?_
      obtain ⟨hs5, hw⟩ := hw
      obtain ⟨a6, hr7, hw⟩ := hw
      refine q_getR flX10_17 rfl hs5 hr7 eX10_image_54 ?_
      refine q_iload_n eX10_image_57 rfl ?_
      refine q_iconst (v := nI 1) eX10_image_58 (by decide) ?_
      obtain ⟨n9, hs8, hw⟩ := hw
      obtain ⟨hi10, hw⟩ := hw
      have hw := hw _ rfl
      refine q_zast (by decide) hs8 hi10 eX10_image_59 ?_
      refine q_iconst (v := nI 0) eX10_image_60 (by decide) ?_
      exact q_ret rfl eX10_image_61 ⟨_, rfl, hw⟩
    · have hw := hw2 c
      refine q_aload_nr eX10_image_27 rfl ?_
      obtain ⟨hs12, hw⟩ := hw
      obtain ⟨a13, hr14, hw⟩ := hw
      refine q_getR flX10_13 rfl hs12 hr14 eX10_image_28 ?_
      refine q_sipush (v := nI 2337) eX10_image_31 (by decide) ?_
      refine q_iload_n eX10_image_34 rfl ?_
      refine q_iconst (v := nI 1) eX10_image_35 (by decide) ?_
      refine q_iadd eX10_image_36 ?_
      refine q_imul eX10_image_37 ?_
      refine q_iload_n eX10_image_38 rfl ?_
      refine q_iadd eX10_image_39 ?_
      refine q_aload_nr eX10_image_40 rfl ?_
      refine q_getR flX10_13 rfl hs12 hr14 eX10_image_41 ?_
      refine q_iload_n eX10_image_44 rfl ?_
      obtain ⟨n16, hs15, hw⟩ := hw
      obtain ⟨hi17, hw⟩ := hw
      refine q_iald hs15 hi17 eX10_image_45 ?_
      obtain ⟨hi18, hw⟩ := hw
      have hw := hw _ rfl
      refine q_iast hs15 hi18 eX10_image_46 ?_
      refine x_iinc (v := (x2 + nI 1)) (ls' := [_, _, _]) eX10_image_47 rfl rfl rfl rfl ?_
      refine q_goto (tgt := 20) eX10_image_50 (by decide) ?_
      refine q_le (ls' := [some _, some _, some _]) ⟨rfl, rfl, rfl, trivial⟩ ?_
      exact ih _ _ _ _ hw
def wX10_image (x0 : Nat) (x1 : Int32) (h : MH) (Q : Int32 → MH → Prop) : Prop := hS h x0 = (1, 10) ∧ ∀ h2, h2 = sI h x0 0 (nI 0) → wX10_within ((x1).toInt64) (0 : Int64) (1 : Int64) h2 (fun r3 h4 => (¬ (r3 = 0) → ∃ m20, wX10_image_20 Q m20 x0 x1 (nI 0) h4) ∧ (r3 = 0 → Q ((-2 : Int32)) h4))
set_option maxHeartbeats 4000000 in
set_option maxRecDepth 100000 in
theorem gX10_image (x0 : Nat) (x1 : Int32) (h : MH) (Q : Int32 → MH → Prop) (hw : wX10_image x0 x1 h Q) : Cm MX10_image 1 0 0 [.ref (x0), .int (x1)] h (pI Q) := by
  refine cm_of [some (.ref (x0)), some (.int (x1)), none] rfl pnX10 (Nat.le_of_ble_eq_true rfl) rfl ?_
  unfold wX10_image at hw
  refine q_aload_nr eX10_image_0 rfl ?_
  refine q_iconst (v := nI 0) eX10_image_1 (by decide) ?_
  obtain ⟨hs1, hw⟩ := hw
  have hw := hw _ rfl
  refine q_putI (fwX10_1 _) rfl hs1 eX10_image_2 ?_
  refine q_iload_n eX10_image_5 rfl ?_
  refine q_i2l eX10_image_6 ?_
  refine q_lconst (v := (0 : Int64)) eX10_image_7 (by decide) ?_
  refine q_lconst (v := (1 : Int64)) eX10_image_8 (by decide) ?_
  refine q_callS (b := 0) (t := 0) (gX10_within _ _ _ _ _ hw) mlX10_149 kX10_within sX10_within rfl (by decide) rfl (Nat.le_of_ble_eq_true rfl) eX10_image_9 (kI fun r3 h4 hw => ?_)
  obtain ⟨hw1, hw2⟩ := hw
  refine q_if_ne (tgt := 18) eX10_image_12 (by decide) (fun c => ?_) (fun c => ?_)
  · have hw := hw1 c
    refine q_iconst (v := nI 0) eX10_image_18 (by decide) ?_
    refine x_istore_n (ls' := [_, _, _]) eX10_image_19 (by decide) rfl rfl ?_
    refine q_le (ls' := [some _, some _, some _]) ⟨rfl, rfl, rfl, trivial⟩ ?_
    obtain ⟨m20, hw⟩ := hw
    exact tX10_image_20 m20 _ _ _ _ hw
  · have hw := hw2 c
    refine q_bipush (v := (-2 : Int32)) eX10_image_15 (by decide) ?_
    exact q_ret rfl eX10_image_17 ⟨_, rfl, hw⟩
def wX10_restore_32 (Q : Int32 → MH → Prop) : Nat → Nat → Int32 → Int32 → MH → Prop
  | 0, _, _, _, _ => False
  | n + 1, x0, x1, x2, h => (nI 2337 ≤ x2 → hS h x0 = (1, 10) ∧ ∃ a12, hR h x0 1 = some a12 ∧ ∃ n15, hS h a12 = (2, n15) ∧ vp_in (nI 175) n15 ∧ ∀ h17, h17 = sI h a12 (nI 175).toNatClampNeg (nI 0) → wX10_laysRings x0 h17 (fun h19 => Q (nI 0) h19)) ∧ (¬ (nI 2337 ≤ x2) → hS h x0 = (1, 10) ∧ ∃ a21, hR h x0 1 = some a21 ∧ ∃ n24, hS h a21 = (2, n24) ∧ vp_in (((nI 2337 * (x1 + nI 1)) + x2)) n24 ∧ vp_in (x2) n24 ∧ ∀ h27, h27 = sI h a21 (x2).toNatClampNeg (hI h a21 (((nI 2337 * (x1 + nI 1)) + x2)).toNatClampNeg) → wX10_restore_32 Q n x0 x1 (x2 + nI 1) h27)
set_option maxHeartbeats 4000000 in
set_option maxRecDepth 100000 in
theorem tX10_restore_32 {Q : Int32 → MH → Prop} : ∀ (n : Nat) (h : MH) (x0 : Nat) (x1 : Int32) (x2 : Int32), wX10_restore_32 Q n x0 x1 x2 h → Wm MX10_restore 4 0 0 32 [some (.ref (x0)), some (.int (x1)), some (.int (x2))] [] h (pI Q) := by
  intro n
  induction n with
  | zero => intro h x0 x1 x2 hw; exact hw.elim
  | succ n ih =>
    intro h x0 x1 x2 hw
    unfold wX10_restore_32 at hw
    refine q_iload_n eX10_restore_32 rfl ?_
    refine q_sipush (v := nI 2337) eX10_restore_33 (by decide) ?_
    obtain ⟨hw1, hw2⟩ := hw
    refine q_icmp_ge (tgt := 65) eX10_restore_36 (by decide) (fun c => ?_) (fun c => ?_)
    · have hw := hw1 c
      refine q_aload_nr eX10_restore_65 rfl ?_
      obtain ⟨hs11, hw⟩ := hw
      obtain ⟨a12, hr13, hw⟩ := hw
      refine q_getR flX10_13 rfl hs11 hr13 eX10_restore_66 ?_
      refine q_sipush (v := nI 175) eX10_restore_69 (by decide) ?_
      refine q_iconst (v := nI 0) eX10_restore_72 (by decide) ?_
      obtain ⟨n15, hs14, hw⟩ := hw
      obtain ⟨hi16, hw⟩ := hw
      have hw := hw _ rfl
      refine q_iast hs14 hi16 eX10_restore_73 ?_
      refine q_aload_nr eX10_restore_74 rfl ?_
      refine q_callV (b := 0) (t := 0) (gX10_laysRings _ _ _ hw) mlX10_84 kX10_laysRings vX10_laysRings rfl hs11 ⟨rfl, rfl⟩ (by decide) rfl (Nat.le_of_ble_eq_true rfl) eX10_restore_75 (kV fun h19 hw => ?_)
      refine q_iconst (v := nI 0) eX10_restore_78 (by decide) ?_
      exact q_ret rfl eX10_restore_79 ⟨_, rfl, hw⟩
    · have hw := hw2 c
      refine q_aload_nr eX10_restore_39 rfl ?_
      obtain ⟨hs20, hw⟩ := hw
      obtain ⟨a21, hr22, hw⟩ := hw
      refine q_getR flX10_13 rfl hs20 hr22 eX10_restore_40 ?_
      refine q_iload_n eX10_restore_43 rfl ?_
      refine q_aload_nr eX10_restore_44 rfl ?_
      refine q_getR flX10_13 rfl hs20 hr22 eX10_restore_45 ?_
      refine q_sipush (v := nI 2337) eX10_restore_48 (by decide) ?_
      refine q_iload_n eX10_restore_51 rfl ?_
      refine q_iconst (v := nI 1) eX10_restore_52 (by decide) ?_
      refine q_iadd eX10_restore_53 ?_
      refine q_imul eX10_restore_54 ?_
      refine q_iload_n eX10_restore_55 rfl ?_
      refine q_iadd eX10_restore_56 ?_
      obtain ⟨n24, hs23, hw⟩ := hw
      obtain ⟨hi25, hw⟩ := hw
      refine q_iald hs23 hi25 eX10_restore_57 ?_
      obtain ⟨hi26, hw⟩ := hw
      have hw := hw _ rfl
      refine q_iast hs23 hi26 eX10_restore_58 ?_
      refine x_iinc (v := (x2 + nI 1)) (ls' := [_, _, _]) eX10_restore_59 rfl rfl rfl rfl ?_
      refine q_goto (tgt := 32) eX10_restore_62 (by decide) ?_
      refine q_le (ls' := [some _, some _, some _]) ⟨rfl, rfl, rfl, trivial⟩ ?_
      exact ih _ _ _ _ hw
def wX10_restore (x0 : Nat) (x1 : Int32) (h : MH) (Q : Int32 → MH → Prop) : Prop := hS h x0 = (1, 10) ∧ ∀ h2, h2 = sI h x0 0 (nI 0) → wX10_within ((x1).toInt64) (0 : Int64) (1 : Int64) h2 (fun r3 h4 => (¬ (r3 = 0) → hS h4 x0 = (1, 10) ∧ ∃ a6, hR h4 x0 2 = some a6 ∧ ∃ n9, hS h4 a6 = (5, n9) ∧ vp_in (x1) n9 ∧ (¬ (hI h4 a6 (x1).toNatClampNeg = 0) → ∃ m28, wX10_restore_32 Q m28 x0 x1 (nI 0) h4) ∧ (hI h4 a6 (x1).toNatClampNeg = 0 → Q ((-5 : Int32)) h4)) ∧ (r3 = 0 → Q ((-2 : Int32)) h4))
set_option maxHeartbeats 4000000 in
set_option maxRecDepth 100000 in
theorem gX10_restore (x0 : Nat) (x1 : Int32) (h : MH) (Q : Int32 → MH → Prop) (hw : wX10_restore x0 x1 h Q) : Cm MX10_restore 4 0 0 [.ref (x0), .int (x1)] h (pI Q) := by
  refine cm_of [some (.ref (x0)), some (.int (x1)), none] rfl pnX10 (Nat.le_of_ble_eq_true rfl) rfl ?_
  unfold wX10_restore at hw
  refine q_aload_nr eX10_restore_0 rfl ?_
  refine q_iconst (v := nI 0) eX10_restore_1 (by decide) ?_
  obtain ⟨hs1, hw⟩ := hw
  have hw := hw _ rfl
  refine q_putI (fwX10_1 _) rfl hs1 eX10_restore_2 ?_
  refine q_iload_n eX10_restore_5 rfl ?_
  refine q_i2l eX10_restore_6 ?_
  refine q_lconst (v := (0 : Int64)) eX10_restore_7 (by decide) ?_
  refine q_lconst (v := (1 : Int64)) eX10_restore_8 (by decide) ?_
  refine q_callS (b := 0) (t := 0) (gX10_within _ _ _ _ _ hw) mlX10_149 kX10_within sX10_within rfl (by decide) rfl (Nat.le_of_ble_eq_true rfl) eX10_restore_9 (kI fun r3 h4 hw => ?_)
  obtain ⟨hw1, hw2⟩ := hw
  refine q_if_ne (tgt := 18) eX10_restore_12 (by decide) (fun c => ?_) (fun c => ?_)
  · have hw := hw1 c
    refine q_aload_nr eX10_restore_18 rfl ?_
    obtain ⟨hs5, hw⟩ := hw
    obtain ⟨a6, hr7, hw⟩ := hw
    refine q_getR flX10_17 rfl hs5 hr7 eX10_restore_19 ?_
    refine q_iload_n eX10_restore_22 rfl ?_
    obtain ⟨n9, hs8, hw⟩ := hw
    obtain ⟨hi10, hw⟩ := hw
    refine q_zald hs8 hi10 eX10_restore_23 ?_
    obtain ⟨hw1, hw2⟩ := hw
    refine q_if_ne (tgt := 30) eX10_restore_24 (by decide) (fun c => ?_) (fun c => ?_)
    · have hw := hw1 c
      refine q_iconst (v := nI 0) eX10_restore_30 (by decide) ?_
      refine x_istore_n (ls' := [_, _, _]) eX10_restore_31 (by decide) rfl rfl ?_
      refine q_le (ls' := [some _, some _, some _]) ⟨rfl, rfl, rfl, trivial⟩ ?_
      obtain ⟨m28, hw⟩ := hw
      exact tX10_restore_32 m28 _ _ _ _ hw
    · have hw := hw2 c
      refine q_bipush (v := (-5 : Int32)) eX10_restore_27 (by decide) ?_
      exact q_ret rfl eX10_restore_29 ⟨_, rfl, hw⟩
  · have hw := hw2 c
    refine q_bipush (v := (-2 : Int32)) eX10_restore_15 (by decide) ?_
    exact q_ret rfl eX10_restore_17 ⟨_, rfl, hw⟩
def wX10_count_82 (Q : Int32 → MH → Prop) : Nat → Nat → Int32 → Int32 → MH → Prop
  | 0, _, _, _, _ => False
  | n + 1, x0, x2, x3, h => hS h x0 = (1, 10) ∧ (hI h x0 23 ≤ x3 → Q (x2) h) ∧ (¬ (hI h x0 23 ≤ x3) → ∃ a19, hR h x0 1 = some a19 ∧ ∃ n22, hS h a19 = (2, n22) ∧ vp_in ((nI 49 + x3)) n22 ∧ ∀ v24, v24 = (x2 + hI h a19 ((nI 49 + x3)).toNatClampNeg) → wX10_count_82 Q n x0 v24 (x3 + nI 1) h)
set_option maxHeartbeats 4000000 in
set_option maxRecDepth 100000 in
theorem tX10_count_82 {Q : Int32 → MH → Prop} : ∀ (n : Nat) (h : MH) (x0 : Nat) (x2 : Int32) (x3 : Int32), wX10_count_82 Q n x0 x2 x3 h → Wm MX10_count 0 0 0 82 [some (.ref (x0)), none, some (.int (x2)), some (.int (x3))] [] h (pI Q) := by
  intro n
  induction n with
  | zero => intro h x0 x2 x3 hw; exact hw.elim
  | succ n ih =>
    intro h x0 x2 x3 hw
    unfold wX10_count_82 at hw
    refine q_iload_n eX10_count_82 rfl ?_
    refine q_aload_nr eX10_count_83 rfl ?_
    obtain ⟨hs18, hw⟩ := hw
    refine q_getI flX10_216 rfl hs18 eX10_count_84 ?_
    obtain ⟨hw1, hw2⟩ := hw
    refine q_icmp_ge (tgt := 108) eX10_count_87 (by decide) (fun c => ?_) (fun c => ?_)
    · have hw := hw1 c
      refine q_iload_n eX10_count_108 rfl ?_
      exact q_ret rfl eX10_count_109 ⟨_, rfl, hw⟩
    · have hw := hw2 c
      refine q_iload_n eX10_count_90 rfl ?_
      refine q_aload_nr eX10_count_91 rfl ?_
      obtain ⟨a19, hr20, hw⟩ := hw
      refine q_getR flX10_13 rfl hs18 hr20 eX10_count_92 ?_
      refine q_bipush (v := nI 49) eX10_count_95 (by decide) ?_
      refine q_iload_n eX10_count_97 rfl ?_
      refine q_iadd eX10_count_98 ?_
      obtain ⟨n22, hs21, hw⟩ := hw
      obtain ⟨hi23, hw⟩ := hw
      refine q_iald hs21 hi23 eX10_count_99 ?_
      refine q_iadd eX10_count_100 ?_
      have hw := hw _ rfl
      refine x_istore_n (ls' := [_, _, _, _]) eX10_count_101 (by decide) rfl rfl ?_
      refine x_iinc (v := (x3 + nI 1)) (ls' := [_, _, _, _]) eX10_count_102 rfl rfl rfl rfl ?_
      refine q_goto (tgt := 82) eX10_count_105 (by decide) ?_
      refine q_le (ls' := [some _, none, some _, some _]) ⟨rfl, rfl, rfl, trivial⟩ ?_
      exact ih _ _ _ _ hw
def wX10_count_122 (Q : Int32 → MH → Prop) : Nat → Nat → Int32 → Int32 → MH → Prop
  | 0, _, _, _, _ => False
  | n + 1, x0, x2, x3, h => hS h x0 = (1, 10) ∧ ∃ a32, hR h x0 1 = some a32 ∧ ∃ n35, hS h a32 = (2, n35) ∧ vp_in (nI 2) n35 ∧ (hI h a32 (nI 2).toNatClampNeg ≤ x3 → Q (x2) h) ∧ (¬ (hI h a32 (nI 2).toNatClampNeg ≤ x3) → vp_in ((nI 39 + x3)) n35 ∧ ∀ v38, v38 = (x2 + hI h a32 ((nI 39 + x3)).toNatClampNeg) → wX10_count_122 Q n x0 v38 (x3 + nI 1) h)
set_option maxHeartbeats 4000000 in
set_option maxRecDepth 100000 in
theorem tX10_count_122 {Q : Int32 → MH → Prop} : ∀ (n : Nat) (h : MH) (x0 : Nat) (x2 : Int32) (x3 : Int32), wX10_count_122 Q n x0 x2 x3 h → Wm MX10_count 0 0 0 122 [some (.ref (x0)), none, some (.int (x2)), some (.int (x3))] [] h (pI Q) := by
  intro n
  induction n with
  | zero => intro h x0 x2 x3 hw; exact hw.elim
  | succ n ih =>
    intro h x0 x2 x3 hw
    unfold wX10_count_122 at hw
    refine q_iload_n eX10_count_122 rfl ?_
    refine q_aload_nr eX10_count_123 rfl ?_
    obtain ⟨hs31, hw⟩ := hw
    obtain ⟨a32, hr33, hw⟩ := hw
    refine q_getR flX10_13 rfl hs31 hr33 eX10_count_124 ?_
    refine q_iconst (v := nI 2) eX10_count_127 (by decide) ?_
    obtain ⟨n35, hs34, hw⟩ := hw
    obtain ⟨hi36, hw⟩ := hw
    refine q_iald hs34 hi36 eX10_count_128 ?_
    obtain ⟨hw1, hw2⟩ := hw
    refine q_icmp_ge (tgt := 150) eX10_count_129 (by decide) (fun c => ?_) (fun c => ?_)
    · have hw := hw1 c
      refine q_iload_n eX10_count_150 rfl ?_
      exact q_ret rfl eX10_count_151 ⟨_, rfl, hw⟩
    · have hw := hw2 c
      refine q_iload_n eX10_count_132 rfl ?_
      refine q_aload_nr eX10_count_133 rfl ?_
      refine q_getR flX10_13 rfl hs31 hr33 eX10_count_134 ?_
      refine q_bipush (v := nI 39) eX10_count_137 (by decide) ?_
      refine q_iload_n eX10_count_139 rfl ?_
      refine q_iadd eX10_count_140 ?_
      obtain ⟨hi37, hw⟩ := hw
      refine q_iald hs34 hi37 eX10_count_141 ?_
      refine q_iadd eX10_count_142 ?_
      have hw := hw _ rfl
      refine x_istore_n (ls' := [_, _, _, _]) eX10_count_143 (by decide) rfl rfl ?_
      refine x_iinc (v := (x3 + nI 1)) (ls' := [_, _, _, _]) eX10_count_144 rfl rfl rfl rfl ?_
      refine q_goto (tgt := 122) eX10_count_147 (by decide) ?_
      refine q_le (ls' := [some _, none, some _, some _]) ⟨rfl, rfl, rfl, trivial⟩ ?_
      exact ih _ _ _ _ hw
def wX10_count (x0 : Nat) (x1 : Int32) (h : MH) (Q : Int32 → MH → Prop) : Prop := hS h x0 = (1, 10) ∧ ∀ h2, h2 = sI h x0 0 (nI 0) → ((x1).toInt < 0 ∨ 8 < (x1).toInt → Q ((-1 : Int32)) h2) ∧ (x1 = nI 0 → ∃ a3, hR h2 x0 1 = some a3 ∧ ∃ n6, hS h2 a3 = (2, n6) ∧ vp_in (nI 1) n6 ∧ Q (hI h2 a3 (nI 1).toNatClampNeg) h2) ∧ (x1 = nI 1 → ∃ a8, hR h2 x0 1 = some a8 ∧ ∃ n11, hS h2 a8 = (2, n11) ∧ vp_in (nI 2) n11 ∧ Q (hI h2 a8 (nI 2).toNatClampNeg) h2) ∧ (x1 = nI 2 → ∃ a13, hR h2 x0 1 = some a13 ∧ ∃ n16, hS h2 a13 = (2, n16) ∧ vp_in (nI 114) n16 ∧ Q (hI h2 a13 (nI 114).toNatClampNeg) h2) ∧ (x1 = nI 3 → ∃ m25, wX10_count_82 Q m25 x0 (nI 0) (nI 0) h2) ∧ (x1 = nI 4 → ∃ a26, hR h2 x0 1 = some a26 ∧ ∃ n29, hS h2 a26 = (2, n29) ∧ vp_in (nI 113) n29 ∧ Q (hI h2 a26 (nI 113).toNatClampNeg) h2) ∧ (x1 = nI 5 → ∃ m39, wX10_count_122 Q m39 x0 (nI 0) (nI 0) h2) ∧ (x1 = nI 6 → ∃ a40, hR h2 x0 1 = some a40 ∧ ∃ n43, hS h2 a40 = (2, n43) ∧ vp_in (nI 175) n43 ∧ Q (hI h2 a40 (nI 175).toNatClampNeg) h2) ∧ (x1 = nI 7 → Q (hI h2 x0 5) h2) ∧ (x1 = nI 8 → ∃ a45, hR h2 x0 1 = some a45 ∧ ∃ n48, hS h2 a45 = (2, n48) ∧ vp_in (nI 0) n48 ∧ Q (hI h2 a45 (nI 0).toNatClampNeg) h2)
set_option maxHeartbeats 4000000 in
set_option maxRecDepth 100000 in
theorem gX10_count (x0 : Nat) (x1 : Int32) (h : MH) (Q : Int32 → MH → Prop) (hw : wX10_count x0 x1 h Q) : Cm MX10_count 0 0 0 [.ref (x0), .int (x1)] h (pI Q) := by
  refine cm_of [some (.ref (x0)), some (.int (x1)), none, none] rfl pnX10 (Nat.le_of_ble_eq_true rfl) rfl ?_
  unfold wX10_count at hw
  refine q_aload_nr eX10_count_0 rfl ?_
  refine q_iconst (v := nI 0) eX10_count_1 (by decide) ?_
  obtain ⟨hs1, hw⟩ := hw
  have hw := hw _ rfl
  refine q_putI (fwX10_1 _) rfl hs1 eX10_count_2 ?_
  refine q_iload_n eX10_count_5 rfl ?_
  obtain ⟨hw0, hw1, hw2, hw3, hw4, hw5, hw6, hw7, hw8, hw9⟩ := hw
  by_cases hx : (x1).toInt < 0 ∨ 8 < (x1).toInt
  · have hw := hw0 hx
    refine q_tabOut (tgt := 173) eX10_count_6 hx (by decide) ?_
    refine q_iconst (v := (-1 : Int32)) eX10_count_173 (by decide) ?_
    exact q_ret rfl eX10_count_174 ⟨_, rfl, hw⟩
  · have hk : (x1).toInt = 0 ∨ (x1).toInt = 1 ∨ (x1).toInt = 2 ∨ (x1).toInt = 3 ∨ (x1).toInt = 4 ∨ (x1).toInt = 5 ∨ (x1).toInt = 6 ∨ (x1).toInt = 7 ∨ (x1).toInt = 8 := by omega
    rcases hk with hk | hk | hk | hk | hk | hk | hk | hk | hk
    · have hw := hw1 (x_toInt (by decide) hk)
      refine q_tabIn (off := 50) (tgt := 56) eX10_count_6 (by omega) (by omega) (by rw [hk]; rfl) (by decide) ?_
      refine q_aload_nr eX10_count_56 rfl ?_
      obtain ⟨a3, hr4, hw⟩ := hw
      refine q_getR flX10_13 rfl hs1 hr4 eX10_count_57 ?_
      refine q_iconst (v := nI 1) eX10_count_60 (by decide) ?_
      obtain ⟨n6, hs5, hw⟩ := hw
      obtain ⟨hi7, hw⟩ := hw
      refine q_iald hs5 hi7 eX10_count_61 ?_
      exact q_ret rfl eX10_count_62 ⟨_, rfl, hw⟩
    · have hw := hw2 (x_toInt (by decide) hk)
      refine q_tabIn (off := 57) (tgt := 63) eX10_count_6 (by omega) (by omega) (by rw [hk]; rfl) (by decide) ?_
      refine q_aload_nr eX10_count_63 rfl ?_
      obtain ⟨a8, hr9, hw⟩ := hw
      refine q_getR flX10_13 rfl hs1 hr9 eX10_count_64 ?_
      refine q_iconst (v := nI 2) eX10_count_67 (by decide) ?_
      obtain ⟨n11, hs10, hw⟩ := hw
      obtain ⟨hi12, hw⟩ := hw
      refine q_iald hs10 hi12 eX10_count_68 ?_
      exact q_ret rfl eX10_count_69 ⟨_, rfl, hw⟩
    · have hw := hw3 (x_toInt (by decide) hk)
      refine q_tabIn (off := 64) (tgt := 70) eX10_count_6 (by omega) (by omega) (by rw [hk]; rfl) (by decide) ?_
      refine q_aload_nr eX10_count_70 rfl ?_
      obtain ⟨a13, hr14, hw⟩ := hw
      refine q_getR flX10_13 rfl hs1 hr14 eX10_count_71 ?_
      refine q_bipush (v := nI 114) eX10_count_74 (by decide) ?_
      obtain ⟨n16, hs15, hw⟩ := hw
      obtain ⟨hi17, hw⟩ := hw
      refine q_iald hs15 hi17 eX10_count_76 ?_
      exact q_ret rfl eX10_count_77 ⟨_, rfl, hw⟩
    · have hw := hw4 (x_toInt (by decide) hk)
      refine q_tabIn (off := 72) (tgt := 78) eX10_count_6 (by omega) (by omega) (by rw [hk]; rfl) (by decide) ?_
      refine q_iconst (v := nI 0) eX10_count_78 (by decide) ?_
      refine x_istore_n (ls' := [_, _, _, _]) eX10_count_79 (by decide) rfl rfl ?_
      refine q_iconst (v := nI 0) eX10_count_80 (by decide) ?_
      refine x_istore_n (ls' := [_, _, _, _]) eX10_count_81 (by decide) rfl rfl ?_
      refine q_le (ls' := [some _, none, some _, some _]) ⟨rfl, rfl, rfl, trivial⟩ ?_
      obtain ⟨m25, hw⟩ := hw
      exact tX10_count_82 m25 _ _ _ _ hw
    · have hw := hw5 (x_toInt (by decide) hk)
      refine q_tabIn (off := 104) (tgt := 110) eX10_count_6 (by omega) (by omega) (by rw [hk]; rfl) (by decide) ?_
      refine q_aload_nr eX10_count_110 rfl ?_
      obtain ⟨a26, hr27, hw⟩ := hw
      refine q_getR flX10_13 rfl hs1 hr27 eX10_count_111 ?_
      refine q_bipush (v := nI 113) eX10_count_114 (by decide) ?_
      obtain ⟨n29, hs28, hw⟩ := hw
      obtain ⟨hi30, hw⟩ := hw
      refine q_iald hs28 hi30 eX10_count_116 ?_
      exact q_ret rfl eX10_count_117 ⟨_, rfl, hw⟩
    · have hw := hw6 (x_toInt (by decide) hk)
      refine q_tabIn (off := 112) (tgt := 118) eX10_count_6 (by omega) (by omega) (by rw [hk]; rfl) (by decide) ?_
      refine q_iconst (v := nI 0) eX10_count_118 (by decide) ?_
      refine x_istore_n (ls' := [_, _, _, _]) eX10_count_119 (by decide) rfl rfl ?_
      refine q_iconst (v := nI 0) eX10_count_120 (by decide) ?_
      refine x_istore_n (ls' := [_, _, _, _]) eX10_count_121 (by decide) rfl rfl ?_
      refine q_le (ls' := [some _, none, some _, some _]) ⟨rfl, rfl, rfl, trivial⟩ ?_
      obtain ⟨m39, hw⟩ := hw
      exact tX10_count_122 m39 _ _ _ _ hw
    · have hw := hw7 (x_toInt (by decide) hk)
      refine q_tabIn (off := 146) (tgt := 152) eX10_count_6 (by omega) (by omega) (by rw [hk]; rfl) (by decide) ?_
      refine q_aload_nr eX10_count_152 rfl ?_
      obtain ⟨a40, hr41, hw⟩ := hw
      refine q_getR flX10_13 rfl hs1 hr41 eX10_count_153 ?_
      refine q_sipush (v := nI 175) eX10_count_156 (by decide) ?_
      obtain ⟨n43, hs42, hw⟩ := hw
      obtain ⟨hi44, hw⟩ := hw
      refine q_iald hs42 hi44 eX10_count_159 ?_
      exact q_ret rfl eX10_count_160 ⟨_, rfl, hw⟩
    · have hw := hw8 (x_toInt (by decide) hk)
      refine q_tabIn (off := 155) (tgt := 161) eX10_count_6 (by omega) (by omega) (by rw [hk]; rfl) (by decide) ?_
      refine q_aload_nr eX10_count_161 rfl ?_
      refine q_getI flX10_87 rfl hs1 eX10_count_162 ?_
      exact q_ret rfl eX10_count_165 ⟨_, rfl, hw⟩
    · have hw := hw9 (x_toInt (by decide) hk)
      refine q_tabIn (off := 160) (tgt := 166) eX10_count_6 (by omega) (by omega) (by rw [hk]; rfl) (by decide) ?_
      refine q_aload_nr eX10_count_166 rfl ?_
      obtain ⟨a45, hr46, hw⟩ := hw
      refine q_getR flX10_13 rfl hs1 hr46 eX10_count_167 ?_
      refine q_iconst (v := nI 0) eX10_count_170 (by decide) ?_
      obtain ⟨n48, hs47, hw⟩ := hw
      obtain ⟨hi49, hw⟩ := hw
      refine q_iald hs47 hi49 eX10_count_171 ?_
      exact q_ret rfl eX10_count_172 ⟨_, rfl, hw⟩
