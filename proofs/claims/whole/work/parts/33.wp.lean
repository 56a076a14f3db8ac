/-! ===== methods: what each needs and does (by program) ===== -/
def wX5_readNet_87 (Q : Option Nat → MH → Prop) (b t : Nat) (x0 : Nat) (x2 : Int32) (h : MH) : Prop := (¬ (x2 = 0) → hS h x0 = (1, 5) ∧ ∃ a29, hR h x0 5 = some a29 ∧ ∃ a31, hR h x0 4 = some a31 ∧ hS h a29 = (1, 4) ∧ 5 ≤ b ∧ 960 ≤ t ∧ wX4_settle 5 960 a29 a31 h (fun h37 => hS h37 x0 = (1, 5) ∧ ∃ a39, hR h37 x0 5 = some a39 ∧ Q (some a39) h37)) ∧ (x2 = 0 → Q (none) h)
set_option maxHeartbeats 4000000 in
set_option maxRecDepth 100000 in
theorem tX5_readNet_87 {Q : Option Nat → MH → Prop} (h : MH) (b t : Nat) (x0 : Nat) (x2 : Int32) (hw : wX5_readNet_87 Q b t x0 x2 h) : Wm MX5_readNet 303 b t 87 [some (.ref (x0)), none, some (.int (x2)), none] [] h (pO Q) := by
  unfold wX5_readNet_87 at hw
  refine q_iload_n eX5_readNet_87 rfl ?_
  obtain ⟨hw1, hw2⟩ := hw
  refine q_if_ne (tgt := 93) eX5_readNet_88 (by decide) (fun c => ?_) (fun c => ?_)
  · have hw := hw1 c
    refine q_aload_nr eX5_readNet_93 rfl ?_
    obtain ⟨hs28, hw⟩ := hw
    obtain ⟨a29, hr30, hw⟩ := hw
    refine q_getR flX5_41 rfl hs28 hr30 eX5_readNet_94 ?_
    refine q_aload_nr eX5_readNet_97 rfl ?_
    obtain ⟨a31, hr32, hw⟩ := hw
    refine q_getR flX5_28 rfl hs28 hr32 eX5_readNet_98 ?_
    obtain ⟨hs33, hw⟩ := hw
    obtain ⟨hc34, hc35, hw⟩ := hw
    refine q_bud (b' := (b - 5) + 5) (t' := (t - 960) + 960) (by omega) (by omega) ?_
    refine q_callV (b := (b - 5)) (t := (t - 960)) (gX4_settle 5 960 _ _ _ _ hw) mlX5_61 kX4_settle vX4_settle rfl hs33 ⟨rfl, rfl⟩ (by decide) rfl (Nat.le_of_ble_eq_true rfl) eX5_readNet_101 (kV fun h37 hw => ?_)
    refine q_aload_nr eX5_readNet_104 rfl ?_
    obtain ⟨hs38, hw⟩ := hw
    obtain ⟨a39, hr40, hw⟩ := hw
    refine q_getR flX5_41 rfl hs38 hr40 eX5_readNet_105 ?_
    exact q_retR (r := some a39) (Or.inl ⟨_, rfl⟩) eX5_readNet_108 ⟨_, rfl, hw⟩
  · have hw := hw2 c
    refine q_null eX5_readNet_91 ?_
    show Wm _ _ _ _ _ _ (fromR none :: _) _ _
    exact q_retR (r := none) (Or.inl ⟨_, rfl⟩) eX5_readNet_92 ⟨_, rfl, hw⟩
def wX5_readNet_54 (Q : Option Nat → MH → Prop) : Nat → Nat → Nat → Nat → Int32 → Int32 → MH → Prop
  | 0, _, _, _, _, _, _ => False
  | n + 1, b, t, x0, x2, x3, h => (nI 900 ≤ x3 → wX5_readNet_87 Q b t x0 x2 h) ∧ (¬ (nI 900 ≤ x3) → (x2 = 0 → wX5_readNet_87 Q b t x0 x2 h) ∧ (¬ (x2 = 0) → hS h x0 = (1, 5) ∧ (hI h x0 6 ≤ hI h x0 7 → wX5_readNet_87 Q b t x0 x2 h) ∧ (¬ (hI h x0 6 ≤ hI h x0 7) → wX5_readLine x0 h (fun r42 h43 => wX5_readNet_54 Q n b t x0 r42 (x3 + nI 1) h43))))
set_option maxHeartbeats 4000000 in
set_option maxRecDepth 100000 in
theorem tX5_readNet_54 {Q : Option Nat → MH → Prop} : ∀ (n : Nat) (h : MH) (b t : Nat) (x0 : Nat) (x2 : Int32) (x3 : Int32), wX5_readNet_54 Q n b t x0 x2 x3 h → Wm MX5_readNet 303 b t 54 [some (.ref (x0)), none, some (.int (x2)), some (.int (x3))] [] h (pO Q) := by
  intro n
  induction n with
  | zero => intro h b t x0 x2 x3 hw; exact hw.elim
  | succ n ih =>
    intro h b t x0 x2 x3 hw
    unfold wX5_readNet_54 at hw
    refine q_iload_n eX5_readNet_54 rfl ?_
    refine q_sipush (v := nI 900) eX5_readNet_55 (by decide) ?_
    obtain ⟨hw1, hw2⟩ := hw
    refine q_icmp_ge (tgt := 87) eX5_readNet_58 (by decide) (fun c => ?_) (fun c => ?_)
    · have hw := hw1 c
      refine q_le (ls' := [some _, none, some _, none]) ⟨rfl, rfl, trivial⟩ ?_
      exact tX5_readNet_87 _ _ _ _ _ hw
    · have hw := hw2 c
      refine q_iload_n eX5_readNet_61 rfl ?_
      obtain ⟨hw1, hw2⟩ := hw
      refine q_if_eq (tgt := 87) eX5_readNet_62 (by decide) (fun c => ?_) (fun c => ?_)
      · have hw := hw1 c
        refine q_le (ls' := [some _, none, some _, none]) ⟨rfl, rfl, trivial⟩ ?_
        exact tX5_readNet_87 _ _ _ _ _ hw
      · have hw := hw2 c
        refine q_aload_nr eX5_readNet_65 rfl ?_
        obtain ⟨hs41, hw⟩ := hw
        refine q_getI flX5_55 rfl hs41 eX5_readNet_66 ?_
        refine q_aload_nr eX5_readNet_69 rfl ?_
        refine q_getI flX5_32 rfl hs41 eX5_readNet_70 ?_
        obtain ⟨hw1, hw2⟩ := hw
        refine q_icmp_ge (tgt := 87) eX5_readNet_73 (by decide) (fun c => ?_) (fun c => ?_)
        · have hw := hw1 c
          refine q_le (ls' := [some _, none, some _, none]) ⟨rfl, rfl, trivial⟩ ?_
          exact tX5_readNet_87 _ _ _ _ _ hw
        · have hw := hw2 c
          refine q_aload_nr eX5_readNet_76 rfl ?_
          refine q_bud (b' := b + 0) (t' := t + 0) (Nat.add_zero _) (Nat.add_zero _) ?_
          refine q_callV (b := b) (t := t) (gX5_readLine _ _ _ hw) mlX5_58 kX5_readLine vX5_readLine rfl hs41 ⟨rfl, rfl⟩ (by decide) rfl (Nat.le_of_ble_eq_true rfl) eX5_readNet_77 (kI fun r42 h43 hw => ?_)
          refine x_istore_n (ls' := [_, _, _, _]) eX5_readNet_80 (by decide) rfl rfl ?_
          refine x_iinc (v := (x3 + nI 1)) (ls' := [_, _, _, _]) eX5_readNet_81 rfl rfl rfl rfl ?_
          refine q_goto (tgt := 54) eX5_readNet_84 (by decide) ?_
          refine q_le (ls' := [some _, none, some _, some _]) ⟨rfl, rfl, rfl, trivial⟩ ?_
          exact ih _ _ _ _ _ _ hw
def wX5_readNet (b t : Nat) (x0 : Nat) (x1 : Int32) (h : MH) (Q : Option Nat → MH → Prop) : Prop := hS h x0 = (1, 5) ∧ ∀ h2, h2 = sI h x0 0 (nI 0) → ∀ h3, h3 = sI h2 x0 1 (nI 0) → ∀ h4, h4 = sI h3 x0 2 ((-1 : Int32)) → ∀ h5, h5 = sI h4 x0 6 (x1) → ∀ h6, h6 = sI h5 x0 8 (nI 0) → 1 ≤ b ∧ 15 ≤ t ∧ ∀ a9, a9 = hN h6 → ∀ h10, h10 = al h6 (1, 4) → 10 ≤ (b - 1) ∧ 150 ≤ (t - 15) ∧ wX4_init 10 150 a9 h10 (fun h14 => hS h14 x0 = (1, 5) ∧ ∀ h16, h16 = sR h14 x0 5 (some a9) → ∃ a17, hR h16 x0 4 = some a17 ∧ hS h16 a17 = (1, 3) ∧ wX3_begin a17 h16 (fun h21 => hS h21 x0 = (1, 5) ∧ wX5_advance x0 h21 (fun h24 => hS h24 x0 = (1, 5) ∧ wX5_readHead x0 h24 (fun r26 h27 => ∃ m44, wX5_readNet_54 Q m44 (b - 11) (t - 165) x0 r26 (nI 0) h27))))
set_option maxHeartbeats 4000000 in
set_option maxRecDepth 100000 in
theorem gX5_readNet (b t : Nat) (x0 : Nat) (x1 : Int32) (h : MH) (Q : Option Nat → MH → Prop) (hw : wX5_readNet b t x0 x1 h Q) : Cm MX5_readNet 303 b t [.ref (x0), .int (x1)] h (pO Q) := by
  refine cm_of [some (.ref (x0)), some (.int (x1)), none, none] rfl pnX5 (Nat.le_of_ble_eq_true rfl) rfl ?_
  unfold wX5_readNet at hw
  refine q_aload_nr eX5_readNet_0 rfl ?_
  refine q_iconst (v := nI 0) eX5_readNet_1 (by decide) ?_
  obtain ⟨hs1, hw⟩ := hw
  have hw := hw _ rfl
  refine q_putI (fwX5_9 _) rfl hs1 eX5_readNet_2 ?_
  refine q_aload_nr eX5_readNet_5 rfl ?_
  refine q_iconst (v := nI 0) eX5_readNet_6 (by decide) ?_
  have hw := hw _ rfl
  refine q_putI (fwX5_15 _) rfl hs1 eX5_readNet_7 ?_
  refine q_aload_nr eX5_readNet_10 rfl ?_
  refine q_iconst (v := (-1 : Int32)) eX5_readNet_11 (by decide) ?_
  have hw := hw _ rfl
  refine q_putI (fwX5_18 _) rfl hs1 eX5_readNet_12 ?_
  refine q_aload_nr eX5_readNet_15 rfl ?_
  refine q_iload_n eX5_readNet_16 rfl ?_
  have hw := hw _ rfl
  refine q_putI (fwX5_32 _) rfl hs1 eX5_readNet_17 ?_
  refine q_aload_nr eX5_readNet_20 rfl ?_
  refine q_iconst (v := nI 0) eX5_readNet_21 (by decide) ?_
  have hw := hw _ rfl
  refine q_putI (fwX5_35 _) rfl hs1 eX5_readNet_22 ?_
  refine q_aload_nr eX5_readNet_25 rfl ?_
  obtain ⟨hc7, hc8, hw⟩ := hw
  have hw := hw _ rfl _ rfl
  refine q_bud (b' := (b - 1) + 1) (t' := (t - 15) + 15) (by omega) (by omega) ?_
  refine q_new (c := 4) rfl clX5_38 inX4 iNX4 eX5_readNet_26 ?_
  refine q_dup eX5_readNet_29 rfl ?_
  obtain ⟨hc11, hc12, hw⟩ := hw
  refine q_bud (b' := (b - 11) + 10) (t' := (t - 165) + 150) (by omega) (by omega) ?_
  refine q_callIN (b := (b - 11)) (t := (t - 165)) (gX4_init 10 150 _ _ _ hw) rfl (host := "SpareRings") (by decide +kernel) kX4_init vX4_init rfl (by decide) rfl (Nat.le_of_ble_eq_true rfl) eX5_readNet_30 (kV fun h14 hw => ?_)
  obtain ⟨hs15, hw⟩ := hw
  have hw := hw _ rfl
  refine q_putR (fwX5_41 _) rfl hs15 eX5_readNet_33 ?_
  refine q_aload_nr eX5_readNet_36 rfl ?_
  obtain ⟨a17, hr18, hw⟩ := hw
  refine q_getR flX5_28 rfl hs15 hr18 eX5_readNet_37 ?_
  obtain ⟨hs19, hw⟩ := hw
  refine q_bud (b' := (b - 11) + 0) (t' := (t - 165) + 0) (Nat.add_zero _) (Nat.add_zero _) ?_
  refine q_callV (b := (b - 11)) (t := (t - 165)) (gX3_begin _ _ _ hw) mlX5_45 kX3_begin vX3_begin rfl hs19 ⟨rfl, rfl⟩ (by decide) rfl (Nat.le_of_ble_eq_true rfl) eX5_readNet_40 (kV fun h21 hw => ?_)
  refine q_aload_nr eX5_readNet_43 rfl ?_
  obtain ⟨hs22, hw⟩ := hw
  refine q_bud (b' := (b - 11) + 0) (t' := (t - 165) + 0) (Nat.add_zero _) (Nat.add_zero _) ?_
  refine q_callV (b := (b - 11)) (t := (t - 165)) (gX5_advance _ _ _ hw) mlX5_48 kX5_advance vX5_advance rfl hs22 ⟨rfl, rfl⟩ (by decide) rfl (Nat.le_of_ble_eq_true rfl) eX5_readNet_44 (kV fun h24 hw => ?_)
  refine q_aload_nr eX5_readNet_47 rfl ?_
  obtain ⟨hs25, hw⟩ := hw
  refine q_bud (b' := (b - 11) + 0) (t' := (t - 165) + 0) (Nat.add_zero _) (Nat.add_zero _) ?_
  refine q_callV (b := (b - 11)) (t := (t - 165)) (gX5_readHead _ _ _ hw) mlX5_51 kX5_readHead vX5_readHead rfl hs25 ⟨rfl, rfl⟩ (by decide) rfl (Nat.le_of_ble_eq_true rfl) eX5_readNet_48 (kI fun r26 h27 hw => ?_)
  refine x_istore_n (ls' := [_, _, _, _]) eX5_readNet_51 (by decide) rfl rfl ?_
  refine q_iconst (v := nI 0) eX5_readNet_52 (by decide) ?_
  refine x_istore_n (ls' := [_, _, _, _]) eX5_readNet_53 (by decide) rfl rfl ?_
  refine q_le (ls' := [some _, none, some _, some _]) ⟨rfl, rfl, rfl, trivial⟩ ?_
  obtain ⟨m44, hw⟩ := hw
  exact tX5_readNet_54 m44 _ _ _ _ _ _ hw
def wX5_readBoth_8 (Q : Int32 → MH → Prop) (PX5_readUnit : Nat → Int32 → MH → (Int32 → MH → Prop) → Prop) : Nat → Nat → Int32 → Int32 → Int32 → MH → Prop
  | 0, _, _, _, _, _ => False
  | n + 1, x0, x1, x2, x3, h => (nI 900 ≤ x3 → (x2 = 0 ∨ x2 = 1) ∧ Q (x2) h) ∧ (¬ (nI 900 ≤ x3) → (x2 = 0 → (x2 = 0 ∨ x2 = 1) ∧ Q (x2) h) ∧ (¬ (x2 = 0) → hS h x0 = (1, 5) ∧ wX5_isAt x0 29 h (fun r7 h8 => (r7 = 0 → (x2 = 0 ∨ x2 = 1) ∧ Q (x2) h8) ∧ (¬ (r7 = 0) → hS h8 x0 = (1, 5) ∧ wX5_advance x0 h8 (fun h12 => hS h12 x0 = (1, 5) ∧ PX5_readUnit x0 x1 h12 (fun r14 h15 => hS h15 x0 = (1, 5) ∧ ∃ a17, hR h15 x0 4 = some a17 ∧ hS h15 a17 = (1, 3) ∧ wX3_put a17 (nI 1011) h15 (fun h21 => wX5_readBoth_8 Q PX5_readUnit n x0 x1 r14 (x3 + nI 1) h21)))))))
set_option maxHeartbeats 4000000 in
set_option maxRecDepth 100000 in
theorem tX5_readBoth_8 {Q : Int32 → MH → Prop} {PX5_readUnit : Nat → Int32 → MH → (Int32 → MH → Prop) → Prop} {d d2 : Nat} (hd : 5 ≤ d) (hd2 : d2 < d) (hPX5_readUnit : ∀ (y0 : Nat) (y1 : Int32) (h : MH) (Q : Int32 → MH → Prop), PX5_readUnit y0 y1 h Q → Cm MX5_readUnit d2 0 0 [.ref (y0), .int (y1)] h (pI Q)) : ∀ (n : Nat) (h : MH) (x0 : Nat) (x1 : Int32) (x2 : Int32) (x3 : Int32), wX5_readBoth_8 Q PX5_readUnit n x0 x1 x2 x3 h → Wm MX5_readBoth d 0 0 8 [some (.ref (x0)), some (.int (x1)), some (.int (x2)), some (.int (x3))] [] h (pI Q) := by
  intro n
  induction n with
  | zero => intro h x0 x1 x2 x3 hw; exact hw.elim
  | succ n ih =>
    intro h x0 x1 x2 x3 hw
    unfold wX5_readBoth_8 at hw
    refine q_iload_n eX5_readBoth_8 rfl ?_
    refine q_sipush (v := nI 900) eX5_readBoth_9 (by decide) ?_
    obtain ⟨hw1, hw2⟩ := hw
    refine q_icmp_ge (tgt := 54) eX5_readBoth_12 (by decide) (fun c => ?_) (fun c => ?_)
    · have hw := hw1 c
      refine q_iload_n eX5_readBoth_54 rfl ?_
      obtain ⟨hz4, hw⟩ := hw
      exact q_retZ rfl hz4 eX5_readBoth_55 ⟨_, rfl, hw⟩
    · have hw := hw2 c
      refine q_iload_n eX5_readBoth_15 rfl ?_
      obtain ⟨hw1, hw2⟩ := hw
      refine q_if_eq (tgt := 54) eX5_readBoth_16 (by decide) (fun c => ?_) (fun c => ?_)
      · have hw := hw1 c
        refine q_iload_n eX5_readBoth_54 rfl ?_
        obtain ⟨hz5, hw⟩ := hw
        exact q_retZ rfl hz5 eX5_readBoth_55 ⟨_, rfl, hw⟩
      · have hw := hw2 c
        refine q_aload_nr eX5_readBoth_19 rfl ?_
        refine q_ldcS (x := 29) (tx := "and") (by decide +kernel) (by decide) eX5_readBoth_20 ?_
        obtain ⟨hs6, hw⟩ := hw
        refine q_callV (b := 0) (t := 0) (gX5_isAt _ _ _ _ hw) mlX5_91 kX5_isAt vX5_isAt rfl hs6 ⟨rfl, rfl⟩ (by omega) rfl (Nat.le_of_ble_eq_true rfl) eX5_readBoth_22 (kI fun r7 h8 hw => ?_)
        obtain ⟨hw1, hw2⟩ := hw
        refine q_if_eq (tgt := 54) eX5_readBoth_25 (by decide) (fun c => ?_) (fun c => ?_)
        · have hw := hw1 c
          refine q_iload_n eX5_readBoth_54 rfl ?_
          obtain ⟨hz9, hw⟩ := hw
          exact q_retZ rfl hz9 eX5_readBoth_55 ⟨_, rfl, hw⟩
        · have hw := hw2 c
          refine q_aload_nr eX5_readBoth_28 rfl ?_
          obtain ⟨hs10, hw⟩ := hw
          refine q_callV (b := 0) (t := 0) (gX5_advance _ _ _ hw) mlX5_48 kX5_advance vX5_advance rfl hs10 ⟨rfl, rfl⟩ (by omega) rfl (Nat.le_of_ble_eq_true rfl) eX5_readBoth_29 (kV fun h12 hw => ?_)
          refine q_aload_nr eX5_readBoth_32 rfl ?_
          refine q_iload_n eX5_readBoth_33 rfl ?_
          obtain ⟨hs13, hw⟩ := hw
          refine q_callV (b := 0) (t := 0) (hPX5_readUnit _ _ _ _ hw) mlX5_152 kX5_readUnit vX5_readUnit rfl hs13 ⟨rfl, rfl⟩ (by omega) rfl (Nat.le_of_ble_eq_true rfl) eX5_readBoth_34 (kI fun r14 h15 hw => ?_)
          refine x_istore_n (ls' := [_, _, _, _]) eX5_readBoth_37 (by decide) rfl rfl ?_
          refine q_aload_nr eX5_readBoth_38 rfl ?_
          obtain ⟨hs16, hw⟩ := hw
          obtain ⟨a17, hr18, hw⟩ := hw
          refine q_getR flX5_28 rfl hs16 hr18 eX5_readBoth_39 ?_
          refine q_sipush (v := nI 1011) eX5_readBoth_42 (by decide) ?_
          obtain ⟨hs19, hw⟩ := hw
          refine q_callV (b := 0) (t := 0) (gX3_put _ _ _ _ hw) mlX5_148 kX3_put vX3_put rfl hs19 ⟨rfl, rfl⟩ (by omega) rfl (Nat.le_of_ble_eq_true rfl) eX5_readBoth_45 (kV fun h21 hw => ?_)
          refine x_iinc (v := (x3 + nI 1)) (ls' := [_, _, _, _]) eX5_readBoth_48 rfl rfl rfl rfl ?_
          refine q_goto (tgt := 8) eX5_readBoth_51 (by decide) ?_
          refine q_le (ls' := [some _, some _, some _, some _]) ⟨rfl, rfl, rfl, rfl, trivial⟩ ?_
          exact ih _ _ _ _ _ hw
def wX5_readBoth (PX5_readUnit : Nat → Int32 → MH → (Int32 → MH → Prop) → Prop) (x0 : Nat) (x1 : Int32) (h : MH) (Q : Int32 → MH → Prop) : Prop := hS h x0 = (1, 5) ∧ PX5_readUnit x0 x1 h (fun r2 h3 => ∃ m22, wX5_readBoth_8 Q PX5_readUnit m22 x0 x1 r2 (nI 0) h3)
set_option maxHeartbeats 4000000 in
set_option maxRecDepth 100000 in
theorem gX5_readBoth {PX5_readUnit : Nat → Int32 → MH → (Int32 → MH → Prop) → Prop} {d d2 : Nat} (hd : 5 ≤ d) (hd2 : d2 < d) (hPX5_readUnit : ∀ (y0 : Nat) (y1 : Int32) (h : MH) (Q : Int32 → MH → Prop), PX5_readUnit y0 y1 h Q → Cm MX5_readUnit d2 0 0 [.ref (y0), .int (y1)] h (pI Q)) (x0 : Nat) (x1 : Int32) (h : MH) (Q : Int32 → MH → Prop) (hw : wX5_readBoth PX5_readUnit x0 x1 h Q) : Cm MX5_readBoth d 0 0 [.ref (x0), .int (x1)] h (pI Q) := by
  refine cm_of [some (.ref (x0)), some (.int (x1)), none, none] rfl pnX5 (Nat.le_of_ble_eq_true rfl) rfl ?_
  unfold wX5_readBoth at hw
  refine q_aload_nr eX5_readBoth_0 rfl ?_
  refine q_iload_n eX5_readBoth_1 rfl ?_
  obtain ⟨hs1, hw⟩ := hw
  refine q_callV (b := 0) (t := 0) (hPX5_readUnit _ _ _ _ hw) mlX5_152 kX5_readUnit vX5_readUnit rfl hs1 ⟨rfl, rfl⟩ (by omega) rfl (Nat.le_of_ble_eq_true rfl) eX5_readBoth_2 (kI fun r2 h3 hw => ?_)
  refine x_istore_n (ls' := [_, _, _, _]) eX5_readBoth_5 (by decide) rfl rfl ?_
  refine q_iconst (v := nI 0) eX5_readBoth_6 (by decide) ?_
  refine x_istore_n (ls' := [_, _, _, _]) eX5_readBoth_7 (by decide) rfl rfl ?_
  refine q_le (ls' := [some _, some _, some _, some _]) ⟨rfl, rfl, rfl, rfl, trivial⟩ ?_
  obtain ⟨m22, hw⟩ := hw
  exact tX5_readBoth_8 hd hd2 hPX5_readUnit m22 _ _ _ _ _ hw
def wX5_goWithin (x0 : Nat) (x1 : Int32) (h : MH) (Q : Int32 → MH → Prop) : Prop := (x1 < nI 6 → hS h x0 = (1, 5) ∧ wX5_advance x0 h (fun h3 => Q (nI 1) h3)) ∧ (¬ (x1 < nI 6) → hS h x0 = (1, 5) ∧ wX5_refuse x0 (nI 4) h (fun r5 h6 => (r5 = 0 ∨ r5 = 1) ∧ Q (r5) h6))
set_option maxHeartbeats 4000000 in
set_option maxRecDepth 100000 in
theorem gX5_goWithin (x0 : Nat) (x1 : Int32) (h : MH) (Q : Int32 → MH → Prop) (hw : wX5_goWithin x0 x1 h Q) : Cm MX5_goWithin 5 0 0 [.ref (x0), .int (x1)] h (pI Q) := by
  refine cm_of [some (.ref (x0)), some (.int (x1))] rfl pnX5 (Nat.le_of_ble_eq_true rfl) rfl ?_
  unfold wX5_goWithin at hw
  refine q_iload_n eX5_goWithin_0 rfl ?_
  refine q_bipush (v := nI 6) eX5_goWithin_1 (by decide) ?_
  obtain ⟨hw1, hw2⟩ := hw
  refine q_icmp_lt (tgt := 12) eX5_goWithin_3 (by decide) (fun c => ?_) (fun c => ?_)
  · have hw := hw1 c
    refine q_aload_nr eX5_goWithin_12 rfl ?_
    obtain ⟨hs1, hw⟩ := hw
    refine q_callV (b := 0) (t := 0) (gX5_advance _ _ _ hw) mlX5_48 kX5_advance vX5_advance rfl hs1 ⟨rfl, rfl⟩ (by decide) rfl (Nat.le_of_ble_eq_true rfl) eX5_goWithin_13 (kV fun h3 hw => ?_)
    refine q_iconst (v := nI 1) eX5_goWithin_16 (by decide) ?_
    exact q_retZ rfl (by decide) eX5_goWithin_17 ⟨_, rfl, hw⟩
  · have hw := hw2 c
    refine q_aload_nr eX5_goWithin_6 rfl ?_
    refine q_iconst (v := nI 4) eX5_goWithin_7 (by decide) ?_
    obtain ⟨hs4, hw⟩ := hw
    refine q_callV (b := 0) (t := 0) (gX5_refuse _ _ _ _ hw) mlX5_105 kX5_refuse vX5_refuse rfl hs4 ⟨rfl, rfl⟩ (by decide) rfl (Nat.le_of_ble_eq_true rfl) eX5_goWithin_8 (kI fun r5 h6 hw => ?_)
    obtain ⟨hz7, hw⟩ := hw
    exact q_retZ rfl hz7 eX5_goWithin_11 ⟨_, rfl, hw⟩
def wX5_readUnit_139 (Q : Int32 → MH → Prop) (PX5_readTruth : Nat → Int32 → MH → (Int32 → MH → Prop) → Prop) (PX5_readUnit : Nat → Int32 → MH → (Int32 → MH → Prop) → Prop) (PX5_readSum : Nat → Int32 → MH → (Int32 → MH → Prop) → Prop) (x0 : Nat) (x1 : Int32) (s0 : Int32) (h : MH) : Prop := (0 ≤ s0 → hS h x0 = (1, 5) ∧ wX5_advance x0 h (fun h22 => hS h22 x0 = (1, 5) ∧ PX5_readSum x0 x1 h22 (fun r24 h25 => hS h25 x0 = (1, 5) ∧ ∃ a27, hR h25 x0 4 = some a27 ∧ hS h25 a27 = (1, 3) ∧ wX3_put a27 s0 h25 (fun h31 => (r24 = 0 ∨ r24 = 1) ∧ Q (r24) h31)))) ∧ (¬ (0 ≤ s0) → hS h x0 = (1, 5) ∧ wX5_refuse x0 (nI 2) h (fun r34 h35 => (r34 = 0 ∨ r34 = 1) ∧ Q (r34) h35))
set_option maxHeartbeats 4000000 in
set_option maxRecDepth 100000 in
theorem tX5_readUnit_139 {Q : Int32 → MH → Prop} {PX5_readTruth : Nat → Int32 → MH → (Int32 → MH → Prop) → Prop} {PX5_readUnit : Nat → Int32 → MH → (Int32 → MH → Prop) → Prop} {PX5_readSum : Nat → Int32 → MH → (Int32 → MH → Prop) → Prop} {d d2 : Nat} (hd : 6 ≤ d) (hd2 : d2 < d) (hPX5_readTruth : ∀ (y0 : Nat) (y1 : Int32) (h : MH) (Q : Int32 → MH → Prop), PX5_readTruth y0 y1 h Q → Cm MX5_readTruth d2 0 0 [.ref (y0), .int (y1)] h (pI Q)) (hPX5_readUnit : ∀ (y0 : Nat) (y1 : Int32) (h : MH) (Q : Int32 → MH → Prop), PX5_readUnit y0 y1 h Q → Cm MX5_readUnit d2 0 0 [.ref (y0), .int (y1)] h (pI Q)) (hPX5_readSum : ∀ (y0 : Nat) (y1 : Int32) (h : MH) (Q : Int32 → MH → Prop), PX5_readSum y0 y1 h Q → Cm MX5_readSum d2 0 0 [.ref (y0), .int (y1)] h (pI Q)) (h : MH) (x0 : Nat) (x1 : Int32) (s0 : Int32) (hw : wX5_readUnit_139 Q PX5_readTruth PX5_readUnit PX5_readSum x0 x1 s0 h) : Wm MX5_readUnit d 0 0 139 [some (.ref (x0)), some (.int (x1)), none, none] [.int (s0)] h (pI Q) := by
  unfold wX5_readUnit_139 at hw
  refine x_istore_n (ls' := [_, _, _, _]) eX5_readUnit_139 (by decide) rfl rfl ?_
  refine q_iload_n eX5_readUnit_140 rfl ?_
  obtain ⟨hw1, hw2⟩ := hw
  refine q_if_ge (tgt := 150) eX5_readUnit_141 (by decide) (fun c => ?_) (fun c => ?_)
  · have hw := hw1 c
    refine q_aload_nr eX5_readUnit_150 rfl ?_
    obtain ⟨hs20, hw⟩ := hw
    refine q_callV (b := 0) (t := 0) (gX5_advance _ _ _ hw) mlX5_48 kX5_advance vX5_advance rfl hs20 ⟨rfl, rfl⟩ (by omega) rfl (Nat.le_of_ble_eq_true rfl) eX5_readUnit_151 (kV fun h22 hw => ?_)
    refine q_aload_nr eX5_readUnit_154 rfl ?_
    refine q_iload_n eX5_readUnit_155 rfl ?_
    obtain ⟨hs23, hw⟩ := hw
    refine q_callV (b := 0) (t := 0) (hPX5_readSum _ _ _ _ hw) mlX5_137 kX5_readSum vX5_readSum rfl hs23 ⟨rfl, rfl⟩ (by omega) rfl (Nat.le_of_ble_eq_true rfl) eX5_readUnit_156 (kI fun r24 h25 hw => ?_)
    refine x_istore_n (ls' := [_, _, _, _]) eX5_readUnit_159 (by decide) rfl rfl ?_
    refine q_aload_nr eX5_readUnit_160 rfl ?_
    obtain ⟨hs26, hw⟩ := hw
    obtain ⟨a27, hr28, hw⟩ := hw
    refine q_getR flX5_28 rfl hs26 hr28 eX5_readUnit_161 ?_
    refine q_iload_n eX5_readUnit_164 rfl ?_
    obtain ⟨hs29, hw⟩ := hw
    refine q_callV (b := 0) (t := 0) (gX3_put _ _ _ _ hw) mlX5_148 kX3_put vX3_put rfl hs29 ⟨rfl, rfl⟩ (by omega) rfl (Nat.le_of_ble_eq_true rfl) eX5_readUnit_165 (kV fun h31 hw => ?_)
    refine q_iload_n eX5_readUnit_168 rfl ?_
    obtain ⟨hz32, hw⟩ := hw
    exact q_retZ rfl hz32 eX5_readUnit_169 ⟨_, rfl, hw⟩
  · have hw := hw2 c
    refine q_aload_nr eX5_readUnit_144 rfl ?_
    refine q_iconst (v := nI 2) eX5_readUnit_145 (by decide) ?_
    obtain ⟨hs33, hw⟩ := hw
    refine q_callV (b := 0) (t := 0) (gX5_refuse _ _ _ _ hw) mlX5_105 kX5_refuse vX5_refuse rfl hs33 ⟨rfl, rfl⟩ (by omega) rfl (Nat.le_of_ble_eq_true rfl) eX5_readUnit_146 (kI fun r34 h35 hw => ?_)
    obtain ⟨hz36, hw⟩ := hw
    exact q_retZ rfl hz36 eX5_readUnit_149 ⟨_, rfl, hw⟩
def wX5_readUnit (PX5_readTruth : Nat → Int32 → MH → (Int32 → MH → Prop) → Prop) (PX5_readUnit : Nat → Int32 → MH → (Int32 → MH → Prop) → Prop) (PX5_readSum : Nat → Int32 → MH → (Int32 → MH → Prop) → Prop) (x0 : Nat) (x1 : Int32) (h : MH) (Q : Int32 → MH → Prop) : Prop := hS h x0 = (1, 5) ∧ wX5_isAt x0 10 h (fun r2 h3 => (r2 = 0 → hS h3 x0 = (1, 5) ∧ wX5_isAt x0 11 h3 (fun r5 h6 => (r5 = 0 → hS h6 x0 = (1, 5) ∧ PX5_readSum x0 x1 h6 (fun r8 h9 => (¬ (r8 = 0) → hS h9 x0 = (1, 5) ∧ wX5_isAt x0 26 h9 (fun r11 h12 => (r11 = 0 → hS h12 x0 = (1, 5) ∧ wX5_isAt x0 27 h12 (fun r14 h15 => (r14 = 0 → hS h15 x0 = (1, 5) ∧ wX5_isAt x0 28 h15 (fun r17 h18 => wX5_readUnit_139 Q PX5_readTruth PX5_readUnit PX5_readSum x0 x1 (if r17 = 0 then (-1 : Int32) else nI 1010) h18)) ∧ (¬ (r14 = 0) → wX5_readUnit_139 Q PX5_readTruth PX5_readUnit PX5_readSum x0 x1 (nI 1009) h15))) ∧ (¬ (r11 = 0) → wX5_readUnit_139 Q PX5_readTruth PX5_readUnit PX5_readSum x0 x1 (nI 1008) h12))) ∧ (r8 = 0 → Q (nI 0) h9))) ∧ (¬ (r5 = 0) → hS h6 x0 = (1, 5) ∧ wX5_goWithin x0 x1 h6 (fun r39 h40 => (r39 = 0 → Q (nI 0) h40) ∧ (¬ (r39 = 0) → hS h40 x0 = (1, 5) ∧ PX5_readTruth x0 (x1 + nI 1) h40 (fun r42 h43 => (r42 = 0 → Q (nI 0) h43) ∧ (¬ (r42 = 0) → hS h43 x0 = (1, 5) ∧ wX5_pass x0 12 h43 (fun r45 h46 => ((if r45 = 0 then nI 0 else nI 1) = 0 ∨ (if r45 = 0 then nI 0 else nI 1) = 1) ∧ Q ((if r45 = 0 then nI 0 else nI 1)) h46)))))))) ∧ (¬ (r2 = 0) → hS h3 x0 = (1, 5) ∧ wX5_goWithin x0 x1 h3 (fun r51 h52 => (r51 = 0 → Q (nI 0) h52) ∧ (¬ (r51 = 0) → hS h52 x0 = (1, 5) ∧ PX5_readUnit x0 (x1 + nI 1) h52 (fun r54 h55 => (¬ (r54 = 0) → hS h55 x0 = (1, 5) ∧ ∃ a57, hR h55 x0 4 = some a57 ∧ hS h55 a57 = (1, 3) ∧ wX3_put a57 (nI 1013) h55 (fun h61 => Q (nI 1) h61)) ∧ (r54 = 0 → Q (nI 0) h55))))))
set_option maxHeartbeats 4000000 in
set_option maxRecDepth 100000 in
theorem gX5_readUnit {PX5_readTruth : Nat → Int32 → MH → (Int32 → MH → Prop) → Prop} {PX5_readUnit : Nat → Int32 → MH → (Int32 → MH → Prop) → Prop} {PX5_readSum : Nat → Int32 → MH → (Int32 → MH → Prop) → Prop} {d d2 : Nat} (hd : 6 ≤ d) (hd2 : d2 < d) (hPX5_readTruth : ∀ (y0 : Nat) (y1 : Int32) (h : MH) (Q : Int32 → MH → Prop), PX5_readTruth y0 y1 h Q → Cm MX5_readTruth d2 0 0 [.ref (y0), .int (y1)] h (pI Q)) (hPX5_readUnit : ∀ (y0 : Nat) (y1 : Int32) (h : MH) (Q : Int32 → MH → Prop), PX5_readUnit y0 y1 h Q → Cm MX5_readUnit d2 0 0 [.ref (y0), .int (y1)] h (pI Q)) (hPX5_readSum : ∀ (y0 : Nat) (y1 : Int32) (h : MH) (Q : Int32 → MH → Prop), PX5_readSum y0 y1 h Q → Cm MX5_readSum d2 0 0 [.ref (y0), .int (y1)] h (pI Q)) (x0 : Nat) (x1 : Int32) (h : MH) (Q : Int32 → MH → Prop) (hw : wX5_readUnit PX5_readTruth PX5_readUnit PX5_readSum x0 x1 h Q) : Cm MX5_readUnit d 0 0 [.ref (x0), .int (x1)] h (pI Q) := by
  refine cm_of [some (.ref (x0)), some (.int (x1)), none, none] rfl pnX5 (Nat.le_of_ble_eq_true rfl) rfl ?_
  unfold wX5_readUnit at hw
  refine q_aload_nr eX5_readUnit_0 rfl ?_
  refine q_ldcS (x := 10) (tx := "not") (by decide +kernel) (by decide) eX5_readUnit_1 ?_
  obtain ⟨hs1, hw⟩ := hw
  refine q_callV (b := 0) (t := 0) (gX5_isAt _ _ _ _ hw) mlX5_91 kX5_isAt vX5_isAt rfl hs1 ⟨rfl, rfl⟩ (by omega) rfl (Nat.le_of_ble_eq_true rfl) eX5_readUnit_3 (kI fun r2 h3 hw => ?_)
  obtain ⟨hw1, hw2⟩ := hw
  refine q_if_eq (tgt := 41) eX5_readUnit_6 (by decide) (fun c => ?_) (fun c => ?_)
  · have hw := hw1 c
    refine q_aload_nr eX5_readUnit_41 rfl ?_
    refine q_ldcS (x := 11) (tx := "[") (by decide +kernel) (by decide) eX5_readUnit_42 ?_
    obtain ⟨hs4, hw⟩ := hw
    refine q_callV (b := 0) (t := 0) (gX5_isAt _ _ _ _ hw) mlX5_91 kX5_isAt vX5_isAt rfl hs4 ⟨rfl, rfl⟩ (by omega) rfl (Nat.le_of_ble_eq_true rfl) eX5_readUnit_44 (kI fun r5 h6 hw => ?_)
    obtain ⟨hw1, hw2⟩ := hw
    refine q_if_eq (tgt := 83) eX5_readUnit_47 (by decide) (fun c => ?_) (fun c => ?_)
    · have hw := hw1 c
      refine q_aload_nr eX5_readUnit_83 rfl ?_
      refine q_iload_n eX5_readUnit_84 rfl ?_
      obtain ⟨hs7, hw⟩ := hw
      refine q_callV (b := 0) (t := 0) (hPX5_readSum _ _ _ _ hw) mlX5_137 kX5_readSum vX5_readSum rfl hs7 ⟨rfl, rfl⟩ (by omega) rfl (Nat.le_of_ble_eq_true rfl) eX5_readUnit_85 (kI fun r8 h9 hw => ?_)
      obtain ⟨hw1, hw2⟩ := hw
      refine q_if_ne (tgt := 93) eX5_readUnit_88 (by decide) (fun c => ?_) (fun c => ?_)
      · have hw := hw1 c
        refine q_aload_nr eX5_readUnit_93 rfl ?_
        refine q_ldcS (x := 26) (tx := "=") (by decide +kernel) (by decide) eX5_readUnit_94 ?_
        obtain ⟨hs10, hw⟩ := hw
        refine q_callV (b := 0) (t := 0) (gX5_isAt _ _ _ _ hw) mlX5_91 kX5_isAt vX5_isAt rfl hs10 ⟨rfl, rfl⟩ (by omega) rfl (Nat.le_of_ble_eq_true rfl) eX5_readUnit_96 (kI fun r11 h12 hw => ?_)
        obtain ⟨hw1, hw2⟩ := hw
        refine q_if_eq (tgt := 108) eX5_readUnit_99 (by decide) (fun c => ?_) (fun c => ?_)
        · have hw := hw1 c
          refine q_aload_nr eX5_readUnit_108 rfl ?_
          refine q_ldcS (x := 27) (tx := "<") (by decide +kernel) (by decide) eX5_readUnit_109 ?_
          obtain ⟨hs13, hw⟩ := hw
          refine q_callV (b := 0) (t := 0) (gX5_isAt _ _ _ _ hw) mlX5_91 kX5_isAt vX5_isAt rfl hs13 ⟨rfl, rfl⟩ (by omega) rfl (Nat.le_of_ble_eq_true rfl) eX5_readUnit_111 (kI fun r14 h15 hw => ?_)
          obtain ⟨hw1, hw2⟩ := hw
          refine q_if_eq (tgt := 123) eX5_readUnit_114 (by decide) (fun c => ?_) (fun c => ?_)
          · have hw := hw1 c
            refine q_aload_nr eX5_readUnit_123 rfl ?_
            refine q_ldcS (x := 28) (tx := ">") (by decide +kernel) (by decide) eX5_readUnit_124 ?_
            obtain ⟨hs16, hw⟩ := hw
            refine q_callV (b := 0) (t := 0) (gX5_isAt _ _ _ _ hw) mlX5_91 kX5_isAt vX5_isAt rfl hs16 ⟨rfl, rfl⟩ (by omega) rfl (Nat.le_of_ble_eq_true rfl) eX5_readUnit_126 (kI fun r17 h18 hw => ?_)
            have hj37 : Wm MX5_readUnit d 0 0 139 [some (.ref (x0)), some (.int (x1)), none, none] [.int ((if r17 = 0 then (-1 : Int32) else nI 1010))] h18 (pI Q) := by
              refine q_le (ls' := [some _, some _, none, none]) ⟨rfl, rfl, trivial⟩ ?_
              exact tX5_readUnit_139 hd hd2 hPX5_readTruth hPX5_readUnit hPX5_readSum _ _ _ _ hw
            refine q_if_eq (tgt := 138) eX5_readUnit_129 (by decide) (fun c => ?_) (fun c => ?_)
            · refine q_iconst (v := (-1 : Int32)) eX5_readUnit_138 (by decide) ?_
              rw [if_pos c] at hj37
              exact hj37
            · refine q_sipush (v := nI 1010) eX5_readUnit_132 (by decide) ?_
              refine q_goto (tgt := 139) eX5_readUnit_135 (by decide) ?_
              rw [if_neg c] at hj37
              exact hj37
          · have hw := hw2 c
            refine q_sipush (v := nI 1009) eX5_readUnit_117 (by decide) ?_
            refine q_goto (tgt := 139) eX5_readUnit_120 (by decide) ?_
            refine q_le (ls' := [some _, some _, none, none]) ⟨rfl, rfl, trivial⟩ ?_
            exact tX5_readUnit_139 hd hd2 hPX5_readTruth hPX5_readUnit hPX5_readSum _ _ _ _ hw
        · have hw := hw2 c
          refine q_sipush (v := nI 1008) eX5_readUnit_102 (by decide) ?_
          refine q_goto (tgt := 139) eX5_readUnit_105 (by decide) ?_
          refine q_le (ls' := [some _, some _, none, none]) ⟨rfl, rfl, trivial⟩ ?_
          exact tX5_readUnit_139 hd hd2 hPX5_readTruth hPX5_readUnit hPX5_readSum _ _ _ _ hw
      · have hw := hw2 c
        refine q_iconst (v := nI 0) eX5_readUnit_91 (by decide) ?_
        exact q_retZ rfl (by decide) eX5_readUnit_92 ⟨_, rfl, hw⟩
    · have hw := hw2 c
      refine q_aload_nr eX5_readUnit_50 rfl ?_
      refine q_iload_n eX5_readUnit_51 rfl ?_
      obtain ⟨hs38, hw⟩ := hw
      refine q_callV (b := 0) (t := 0) (gX5_goWithin _ _ _ _ hw) mlX5_159 kX5_goWithin vX5_goWithin rfl hs38 ⟨rfl, rfl⟩ (by omega) rfl (Nat.le_of_ble_eq_true rfl) eX5_readUnit_52 (kI fun r39 h40 hw => ?_)
      obtain ⟨hw1, hw2⟩ := hw
      refine q_if_eq (tgt := 81) eX5_readUnit_55 (by decide) (fun c => ?_) (fun c => ?_)
      · have hw := hw1 c
        refine q_iconst (v := nI 0) eX5_readUnit_81 (by decide) ?_
        exact q_retZ rfl (by decide) eX5_readUnit_82 ⟨_, rfl, hw⟩
      · have hw := hw2 c
        refine q_aload_nr eX5_readUnit_58 rfl ?_
        refine q_iload_n eX5_readUnit_59 rfl ?_
        refine q_iconst (v := nI 1) eX5_readUnit_60 (by decide) ?_
        refine q_iadd eX5_readUnit_61 ?_
        obtain ⟨hs41, hw⟩ := hw
        refine q_callV (b := 0) (t := 0) (hPX5_readTruth _ _ _ _ hw) mlX5_134 kX5_readTruth vX5_readTruth rfl hs41 ⟨rfl, rfl⟩ (by omega) rfl (Nat.le_of_ble_eq_true rfl) eX5_readUnit_62 (kI fun r42 h43 hw => ?_)
        obtain ⟨hw1, hw2⟩ := hw
        refine q_if_eq (tgt := 81) eX5_readUnit_65 (by decide) (fun c => ?_) (fun c => ?_)
        · have hw := hw1 c
          refine q_iconst (v := nI 0) eX5_readUnit_81 (by decide) ?_
          exact q_retZ rfl (by decide) eX5_readUnit_82 ⟨_, rfl, hw⟩
        · have hw := hw2 c
          refine q_aload_nr eX5_readUnit_68 rfl ?_
          refine q_ldcS (x := 12) (tx := "]") (by decide +kernel) (by decide) eX5_readUnit_69 ?_
          obtain ⟨hs44, hw⟩ := hw
          refine q_callV (b := 0) (t := 0) (gX5_pass _ _ _ _ hw) mlX5_67 kX5_pass vX5_pass rfl hs44 ⟨rfl, rfl⟩ (by omega) rfl (Nat.le_of_ble_eq_true rfl) eX5_readUnit_71 (kI fun r45 h46 hw => ?_)
          have hj49 : Wm MX5_readUnit d 0 0 82 [some (.ref (x0)), some (.int (x1)), none, none] [.int ((if r45 = 0 then nI 0 else nI 1))] h46 (pI Q) := by
            obtain ⟨hz48, hw⟩ := hw
            exact q_retZ rfl hz48 eX5_readUnit_82 ⟨_, rfl, hw⟩
          refine q_if_eq (tgt := 81) eX5_readUnit_74 (by decide) (fun c => ?_) (fun c => ?_)
          · refine q_iconst (v := nI 0) eX5_readUnit_81 (by decide) ?_
            rw [if_pos c] at hj49
            exact hj49
          · refine q_iconst (v := nI 1) eX5_readUnit_77 (by decide) ?_
            refine q_goto (tgt := 82) eX5_readUnit_78 (by decide) ?_
            rw [if_neg c] at hj49
            exact hj49
  · have hw := hw2 c
    refine q_aload_nr eX5_readUnit_9 rfl ?_
    refine q_iload_n eX5_readUnit_10 rfl ?_
    obtain ⟨hs50, hw⟩ := hw
    refine q_callV (b := 0) (t := 0) (gX5_goWithin _ _ _ _ hw) mlX5_159 kX5_goWithin vX5_goWithin rfl hs50 ⟨rfl, rfl⟩ (by omega) rfl (Nat.le_of_ble_eq_true rfl) eX5_readUnit_11 (kI fun r51 h52 hw => ?_)
    obtain ⟨hw1, hw2⟩ := hw
    refine q_if_eq (tgt := 27) eX5_readUnit_14 (by decide) (fun c => ?_) (fun c => ?_)
    · have hw := hw1 c
      refine q_iconst (v := nI 0) eX5_readUnit_27 (by decide) ?_
      exact q_retZ rfl (by decide) eX5_readUnit_28 ⟨_, rfl, hw⟩
    · have hw := hw2 c
      refine q_aload_nr eX5_readUnit_17 rfl ?_
      refine q_iload_n eX5_readUnit_18 rfl ?_
      refine q_iconst (v := nI 1) eX5_readUnit_19 (by decide) ?_
      refine q_iadd eX5_readUnit_20 ?_
      obtain ⟨hs53, hw⟩ := hw
      refine q_callV (b := 0) (t := 0) (hPX5_readUnit _ _ _ _ hw) mlX5_152 kX5_readUnit vX5_readUnit rfl hs53 ⟨rfl, rfl⟩ (by omega) rfl (Nat.le_of_ble_eq_true rfl) eX5_readUnit_21 (kI fun r54 h55 hw => ?_)
      obtain ⟨hw1, hw2⟩ := hw
      refine q_if_ne (tgt := 29) eX5_readUnit_24 (by decide) (fun c => ?_) (fun c => ?_)
      · have hw := hw1 c
        refine q_aload_nr eX5_readUnit_29 rfl ?_
        obtain ⟨hs56, hw⟩ := hw
        obtain ⟨a57, hr58, hw⟩ := hw
        refine q_getR flX5_28 rfl hs56 hr58 eX5_readUnit_30 ?_
        refine q_sipush (v := nI 1013) eX5_readUnit_33 (by decide) ?_
        obtain ⟨hs59, hw⟩ := hw
        refine q_callV (b := 0) (t := 0) (gX3_put _ _ _ _ hw) mlX5_148 kX3_put vX3_put rfl hs59 ⟨rfl, rfl⟩ (by omega) rfl (Nat.le_of_ble_eq_true rfl) eX5_readUnit_36 (kV fun h61 hw => ?_)
        refine q_iconst (v := nI 1) eX5_readUnit_39 (by decide) ?_
        exact q_retZ rfl (by decide) eX5_readUnit_40 ⟨_, rfl, hw⟩
      · have hw := hw2 c
        refine q_iconst (v := nI 0) eX5_readUnit_27 (by decide) ?_
        exact q_retZ rfl (by decide) eX5_readUnit_28 ⟨_, rfl, hw⟩
def wX5_readTerm_8 (Q : Int32 → MH → Prop) (PX5_readAtom : Nat → Int32 → MH → (Int32 → MH → Prop) → Prop) : Nat → Nat → Int32 → Int32 → Int32 → MH → Prop
  | 0, _, _, _, _, _ => False
  | n + 1, x0, x1, x2, x3, h => (nI 900 ≤ x3 → (x2 = 0 ∨ x2 = 1) ∧ Q (x2) h) ∧ (¬ (nI 900 ≤ x3) → (x2 = 0 → (x2 = 0 ∨ x2 = 1) ∧ Q (x2) h) ∧ (¬ (x2 = 0) → hS h x0 = (1, 5) ∧ wX5_isAt x0 23 h (fun r7 h8 => (r7 = 0 → (x2 = 0 ∨ x2 = 1) ∧ Q (x2) h8) ∧ (¬ (r7 = 0) → hS h8 x0 = (1, 5) ∧ wX5_advance x0 h8 (fun h12 => hS h12 x0 = (1, 5) ∧ PX5_readAtom x0 x1 h12 (fun r14 h15 => hS h15 x0 = (1, 5) ∧ ∃ a17, hR h15 x0 4 = some a17 ∧ hS h15 a17 = (1, 3) ∧ wX3_put a17 (nI 1007) h15 (fun h21 => wX5_readTerm_8 Q PX5_readAtom n x0 x1 r14 (x3 + nI 1) h21)))))))
set_option maxHeartbeats 4000000 in
set_option maxRecDepth 100000 in
theorem tX5_readTerm_8 {Q : Int32 → MH → Prop} {PX5_readAtom : Nat → Int32 → MH → (Int32 → MH → Prop) → Prop} {d d2 : Nat} (hd : 5 ≤ d) (hd2 : d2 < d) (hPX5_readAtom : ∀ (y0 : Nat) (y1 : Int32) (h : MH) (Q : Int32 → MH → Prop), PX5_readAtom y0 y1 h Q → Cm MX5_readAtom d2 0 0 [.ref (y0), .int (y1)] h (pI Q)) : ∀ (n : Nat) (h : MH) (x0 : Nat) (x1 : Int32) (x2 : Int32) (x3 : Int32), wX5_readTerm_8 Q PX5_readAtom n x0 x1 x2 x3 h → Wm MX5_readTerm d 0 0 8 [some (.ref (x0)), some (.int (x1)), some (.int (x2)), some (.int (x3))] [] h (pI Q) := by
  intro n
  induction n with
  | zero => intro h x0 x1 x2 x3 hw; exact hw.elim
  | succ n ih =>
    intro h x0 x1 x2 x3 hw
    unfold wX5_readTerm_8 at hw
    refine q_iload_n eX5_readTerm_8 rfl ?_
    refine q_sipush (v := nI 900) eX5_readTerm_9 (by decide) ?_
    obtain ⟨hw1, hw2⟩ := hw
    refine q_icmp_ge (tgt := 54) eX5_readTerm_12 (by decide) (fun c => ?_) (fun c => ?_)
    · have hw := hw1 c
      refine q_iload_n eX5_readTerm_54 rfl ?_
      obtain ⟨hz4, hw⟩ := hw
      exact q_retZ rfl hz4 eX5_readTerm_55 ⟨_, rfl, hw⟩
    · have hw := hw2 c
      refine q_iload_n eX5_readTerm_15 rfl ?_
      obtain ⟨hw1, hw2⟩ := hw
      refine q_if_eq (tgt := 54) eX5_readTerm_16 (by decide) (fun c => ?_) (fun c => ?_)
      · have hw := hw1 c
        refine q_iload_n eX5_readTerm_54 rfl ?_
        obtain ⟨hz5, hw⟩ := hw
        exact q_retZ rfl hz5 eX5_readTerm_55 ⟨_, rfl, hw⟩
      · have hw := hw2 c
        refine q_aload_nr eX5_readTerm_19 rfl ?_
        refine q_ldcS (x := 23) (tx := "*") (by decide +kernel) (by decide) eX5_readTerm_20 ?_
        obtain ⟨hs6, hw⟩ := hw
        refine q_callV (b := 0) (t := 0) (gX5_isAt _ _ _ _ hw) mlX5_91 kX5_isAt vX5_isAt rfl hs6 ⟨rfl, rfl⟩ (by omega) rfl (Nat.le_of_ble_eq_true rfl) eX5_readTerm_22 (kI fun r7 h8 hw => ?_)
        obtain ⟨hw1, hw2⟩ := hw
        refine q_if_eq (tgt := 54) eX5_readTerm_25 (by decide) (fun c => ?_) (fun c => ?_)
        · have hw := hw1 c
          refine q_iload_n eX5_readTerm_54 rfl ?_
          obtain ⟨hz9, hw⟩ := hw
          exact q_retZ rfl hz9 eX5_readTerm_55 ⟨_, rfl, hw⟩
        · have hw := hw2 c
          refine q_aload_nr eX5_readTerm_28 rfl ?_
          obtain ⟨hs10, hw⟩ := hw
          refine q_callV (b := 0) (t := 0) (gX5_advance _ _ _ hw) mlX5_48 kX5_advance vX5_advance rfl hs10 ⟨rfl, rfl⟩ (by omega) rfl (Nat.le_of_ble_eq_true rfl) eX5_readTerm_29 (kV fun h12 hw => ?_)
          refine q_aload_nr eX5_readTerm_32 rfl ?_
          refine q_iload_n eX5_readTerm_33 rfl ?_
          obtain ⟨hs13, hw⟩ := hw
          refine q_callV (b := 0) (t := 0) (hPX5_readAtom _ _ _ _ hw) mlX5_179 kX5_readAtom vX5_readAtom rfl hs13 ⟨rfl, rfl⟩ (by omega) rfl (Nat.le_of_ble_eq_true rfl) eX5_readTerm_34 (kI fun r14 h15 hw => ?_)
          refine x_istore_n (ls' := [_, _, _, _]) eX5_readTerm_37 (by decide) rfl rfl ?_
          refine q_aload_nr eX5_readTerm_38 rfl ?_
          obtain ⟨hs16, hw⟩ := hw
          obtain ⟨a17, hr18, hw⟩ := hw
          refine q_getR flX5_28 rfl hs16 hr18 eX5_readTerm_39 ?_
          refine q_sipush (v := nI 1007) eX5_readTerm_42 (by decide) ?_
          obtain ⟨hs19, hw⟩ := hw
          refine q_callV (b := 0) (t := 0) (gX3_put _ _ _ _ hw) mlX5_148 kX3_put vX3_put rfl hs19 ⟨rfl, rfl⟩ (by omega) rfl (Nat.le_of_ble_eq_true rfl) eX5_readTerm_45 (kV fun h21 hw => ?_)
          refine x_iinc (v := (x3 + nI 1)) (ls' := [_, _, _, _]) eX5_readTerm_48 rfl rfl rfl rfl ?_
          refine q_goto (tgt := 8) eX5_readTerm_51 (by decide) ?_
          refine q_le (ls' := [some _, some _, some _, some _]) ⟨rfl, rfl, rfl, rfl, trivial⟩ ?_
          exact ih _ _ _ _ _ hw
def wX5_readTerm (PX5_readAtom : Nat → Int32 → MH → (Int32 → MH → Prop) → Prop) (x0 : Nat) (x1 : Int32) (h : MH) (Q : Int32 → MH → Prop) : Prop := hS h x0 = (1, 5) ∧ PX5_readAtom x0 x1 h (fun r2 h3 => ∃ m22, wX5_readTerm_8 Q PX5_readAtom m22 x0 x1 r2 (nI 0) h3)
set_option maxHeartbeats 4000000 in
set_option maxRecDepth 100000 in
theorem gX5_readTerm {PX5_readAtom : Nat → Int32 → MH → (Int32 → MH → Prop) → Prop} {d d2 : Nat} (hd : 5 ≤ d) (hd2 : d2 < d) (hPX5_readAtom : ∀ (y0 : Nat) (y1 : Int32) (h : MH) (Q : Int32 → MH → Prop), PX5_readAtom y0 y1 h Q → Cm MX5_readAtom d2 0 0 [.ref (y0), .int (y1)] h (pI Q)) (x0 : Nat) (x1 : Int32) (h : MH) (Q : Int32 → MH → Prop) (hw : wX5_readTerm PX5_readAtom x0 x1 h Q) : Cm MX5_readTerm d 0 0 [.ref (x0), .int (x1)] h (pI Q) := by
  refine cm_of [some (.ref (x0)), some (.int (x1)), none, none] rfl pnX5 (Nat.le_of_ble_eq_true rfl) rfl ?_
  unfold wX5_readTerm at hw
  refine q_aload_nr eX5_readTerm_0 rfl ?_
  refine q_iload_n eX5_readTerm_1 rfl ?_
  obtain ⟨hs1, hw⟩ := hw
  refine q_callV (b := 0) (t := 0) (hPX5_readAtom _ _ _ _ hw) mlX5_179 kX5_readAtom vX5_readAtom rfl hs1 ⟨rfl, rfl⟩ (by omega) rfl (Nat.le_of_ble_eq_true rfl) eX5_readTerm_2 (kI fun r2 h3 hw => ?_)
  refine x_istore_n (ls' := [_, _, _, _]) eX5_readTerm_5 (by decide) rfl rfl ?_
  refine q_iconst (v := nI 0) eX5_readTerm_6 (by decide) ?_
  refine x_istore_n (ls' := [_, _, _, _]) eX5_readTerm_7 (by decide) rfl rfl ?_
  refine q_le (ls' := [some _, some _, some _, some _]) ⟨rfl, rfl, rfl, rfl, trivial⟩ ?_
  obtain ⟨m22, hw⟩ := hw
  exact tX5_readTerm_8 hd hd2 hPX5_readAtom m22 _ _ _ _ _ hw
def wX5_wordCode_79 (Q : Int32 → MH → Prop) (s0 : Nat) (s1 : Nat) (h : MH) : Prop := hS h s1 = (1, 5) ∧ wX5_isAt s1 s0 h (fun r16 h17 => Q ((if r16 = 0 then (-1 : Int32) else nI 1004)) h17)
set_option maxHeartbeats 4000000 in
set_option maxRecDepth 100000 in
theorem tX5_wordCode_79 {Q : Int32 → MH → Prop} (h : MH) (s0 : Nat) (s1 : Nat) (hw : wX5_wordCode_79 Q s0 s1 h) : Wm MX5_wordCode 5 0 0 79 [none] [.ref (s0), .ref (s1)] h (pI Q) := by
  unfold wX5_wordCode_79 at hw
  obtain ⟨hs15, hw⟩ := hw
  refine q_callV (b := 0) (t := 0) (gX5_isAt _ _ _ _ hw) mlX5_91 kX5_isAt vX5_isAt rfl hs15 ⟨rfl, rfl⟩ (by decide) rfl (Nat.le_of_ble_eq_true rfl) eX5_wordCode_79 (kI fun r16 h17 hw => ?_)
  have hj19 : Wm MX5_wordCode 5 0 0 92 [none] [.int ((if r16 = 0 then (-1 : Int32) else nI 1004))] h17 (pI Q) := by
    exact q_ret rfl eX5_wordCode_92 ⟨_, rfl, hw⟩
  refine q_if_eq (tgt := 91) eX5_wordCode_82 (by decide) (fun c => ?_) (fun c => ?_)
  · refine q_iconst (v := (-1 : Int32)) eX5_wordCode_91 (by decide) ?_
    rw [if_pos c] at hj19
    exact hj19
  · refine q_sipush (v := nI 1004) eX5_wordCode_85 (by decide) ?_
    refine q_goto (tgt := 92) eX5_wordCode_88 (by decide) ?_
    rw [if_neg c] at hj19
    exact hj19
def wX5_wordCode_54 (Q : Int32 → MH → Prop) (x0 : Nat) (s0 : Nat) (s1 : Nat) (h : MH) : Prop := hS h s1 = (1, 5) ∧ wX5_isAt s1 s0 h (fun r12 h13 => (r12 = 0 → hS h13 x0 = (1, 5) ∧ (hI h13 x0 10 = 0 → wX5_wordCode_79 Q 22 x0 h13) ∧ (¬ (hI h13 x0 10 = 0) → wX5_wordCode_79 Q 21 x0 h13)) ∧ (¬ (r12 = 0) → Q (nI 1003) h13))
set_option maxHeartbeats 4000000 in
set_option maxRecDepth 100000 in
theorem tX5_wordCode_54 {Q : Int32 → MH → Prop} (h : MH) (x0 : Nat) (s0 : Nat) (s1 : Nat) (hw : wX5_wordCode_54 Q x0 s0 s1 h) : Wm MX5_wordCode 5 0 0 54 [some (.ref (x0))] [.ref (s0), .ref (s1)] h (pI Q) := by
  unfold wX5_wordCode_54 at hw
  obtain ⟨hs11, hw⟩ := hw
  refine q_callV (b := 0) (t := 0) (gX5_isAt _ _ _ _ hw) mlX5_91 kX5_isAt vX5_isAt rfl hs11 ⟨rfl, rfl⟩ (by decide) rfl (Nat.le_of_ble_eq_true rfl) eX5_wordCode_54 (kI fun r12 h13 hw => ?_)
  obtain ⟨hw1, hw2⟩ := hw
  refine q_if_eq (tgt := 64) eX5_wordCode_57 (by decide) (fun c => ?_) (fun c => ?_)
  · have hw := hw1 c
    refine q_aload_nr eX5_wordCode_64 rfl ?_
    refine q_aload_nr eX5_wordCode_65 rfl ?_
    obtain ⟨hs14, hw⟩ := hw
    refine q_getI flX5_124 rfl hs14 eX5_wordCode_66 ?_
    obtain ⟨hw1, hw2⟩ := hw
    refine q_if_eq (tgt := 77) eX5_wordCode_69 (by decide) (fun c => ?_) (fun c => ?_)
    · have hw := hw1 c
      refine q_ldcS (x := 22) (tx := "to") (by decide +kernel) (by decide) eX5_wordCode_77 ?_
      refine q_le (ls' := [none]) trivial ?_
      exact tX5_wordCode_79 _ _ _ hw
    · have hw := hw2 c
      refine q_ldcS (x := 21) (tx := "chords") (by decide +kernel) (by decide) eX5_wordCode_72 ?_
      refine q_goto (tgt := 79) eX5_wordCode_74 (by decide) ?_
      refine q_le (ls' := [none]) trivial ?_
      exact tX5_wordCode_79 _ _ _ hw
  · have hw := hw2 c
    refine q_sipush (v := nI 1003) eX5_wordCode_60 (by decide) ?_
    exact q_ret rfl eX5_wordCode_63 ⟨_, rfl, hw⟩
def wX5_wordCode (x0 : Nat) (h : MH) (Q : Int32 → MH → Prop) : Prop := hS h x0 = (1, 5) ∧ wX5_isAt x0 3 h (fun r2 h3 => (r2 = 0 → hS h3 x0 = (1, 5) ∧ wX5_isAt x0 6 h3 (fun r5 h6 => (r5 = 0 → hS h6 x0 = (1, 5) ∧ wX5_isAt x0 7 h6 (fun r8 h9 => (r8 = 0 → hS h9 x0 = (1, 5) ∧ (hI h9 x0 10 = 0 → wX5_wordCode_54 Q x0 20 x0 h9) ∧ (¬ (hI h9 x0 10 = 0) → wX5_wordCode_54 Q x0 19 x0 h9)) ∧ (¬ (r8 = 0) → Q (nI 1002) h9))) ∧ (¬ (r5 = 0) → Q (nI 1001) h6))) ∧ (¬ (r2 = 0) → Q (nI 1000) h3))
set_option maxHeartbeats 4000000 in
set_option maxRecDepth 100000 in
theorem gX5_wordCode (x0 : Nat) (h : MH) (Q : Int32 → MH → Prop) (hw : wX5_wordCode x0 h Q) : Cm MX5_wordCode 5 0 0 [.ref (x0)] h (pI Q) := by
  refine cm_of [some (.ref (x0))] rfl pnX5 (Nat.le_of_ble_eq_true rfl) rfl ?_
  unfold wX5_wordCode at hw
  refine q_aload_nr eX5_wordCode_0 rfl ?_
  refine q_ldcS (x := 3) (tx := "rate") (by decide +kernel) (by decide) eX5_wordCode_1 ?_
  obtain ⟨hs1, hw⟩ := hw
  refine q_callV (b := 0) (t := 0) (gX5_isAt _ _ _ _ hw) mlX5_91 kX5_isAt vX5_isAt rfl hs1 ⟨rfl, rfl⟩ (by decide) rfl (Nat.le_of_ble_eq_true rfl) eX5_wordCode_3 (kI fun r2 h3 hw => ?_)
  obtain ⟨hw1, hw2⟩ := hw
  refine q_if_eq (tgt := 13) eX5_wordCode_6 (by decide) (fun c => ?_) (fun c => ?_)
  · have hw := hw1 c
    refine q_aload_nr eX5_wordCode_13 rfl ?_
    refine q_ldcS (x := 6) (tx := "long") (by decide +kernel) (by decide) eX5_wordCode_14 ?_
    obtain ⟨hs4, hw⟩ := hw
    refine q_callV (b := 0) (t := 0) (gX5_isAt _ _ _ _ hw) mlX5_91 kX5_isAt vX5_isAt rfl hs4 ⟨rfl, rfl⟩ (by decide) rfl (Nat.le_of_ble_eq_true rfl) eX5_wordCode_16 (kI fun r5 h6 hw => ?_)
    obtain ⟨hw1, hw2⟩ := hw
    refine q_if_eq (tgt := 26) eX5_wordCode_19 (by decide) (fun c => ?_) (fun c => ?_)
    · have hw := hw1 c
      refine q_aload_nr eX5_wordCode_26 rfl ?_
      refine q_ldcS (x := 7) (tx := "work") (by decide +kernel) (by decide) eX5_wordCode_27 ?_
      obtain ⟨hs7, hw⟩ := hw
      refine q_callV (b := 0) (t := 0) (gX5_isAt _ _ _ _ hw) mlX5_91 kX5_isAt vX5_isAt rfl hs7 ⟨rfl, rfl⟩ (by decide) rfl (Nat.le_of_ble_eq_true rfl) eX5_wordCode_29 (kI fun r8 h9 hw => ?_)
      obtain ⟨hw1, hw2⟩ := hw
      refine q_if_eq (tgt := 39) eX5_wordCode_32 (by decide) (fun c => ?_) (fun c => ?_)
      · have hw := hw1 c
        refine q_aload_nr eX5_wordCode_39 rfl ?_
        refine q_aload_nr eX5_wordCode_40 rfl ?_
        obtain ⟨hs10, hw⟩ := hw
        refine q_getI flX5_124 rfl hs10 eX5_wordCode_41 ?_
        obtain ⟨hw1, hw2⟩ := hw
        refine q_if_eq (tgt := 52) eX5_wordCode_44 (by decide) (fun c => ?_) (fun c => ?_)
        · have hw := hw1 c
          refine q_ldcS (x := 20) (tx := "from") (by decide +kernel) (by decide) eX5_wordCode_52 ?_
          refine q_le (ls' := [some _]) ⟨rfl, trivial⟩ ?_
          exact tX5_wordCode_54 _ _ _ _ hw
        · have hw := hw2 c
          refine q_ldcS (x := 19) (tx := "links") (by decide +kernel) (by decide) eX5_wordCode_47 ?_
          refine q_goto (tgt := 54) eX5_wordCode_49 (by decide) ?_
          refine q_le (ls' := [some _]) ⟨rfl, trivial⟩ ?_
          exact tX5_wordCode_54 _ _ _ _ hw
      · have hw := hw2 c
        refine q_sipush (v := nI 1002) eX5_wordCode_35 (by decide) ?_
        exact q_ret rfl eX5_wordCode_38 ⟨_, rfl, hw⟩
    · have hw := hw2 c
      refine q_sipush (v := nI 1001) eX5_wordCode_22 (by decide) ?_
      exact q_ret rfl eX5_wordCode_25 ⟨_, rfl, hw⟩
  · have hw := hw2 c
    refine q_sipush (v := nI 1000) eX5_wordCode_9 (by decide) ?_
    exact q_ret rfl eX5_wordCode_12 ⟨_, rfl, hw⟩
def wX5_readAtom_93 (Q : Int32 → MH → Prop) (PX5_readSum : Nat → Int32 → MH → (Int32 → MH → Prop) → Prop) (PX5_readChoice : Nat → Int32 → MH → (Int32 → MH → Prop) → Prop) (x0 : Nat) (s0 : Int32) (h : MH) : Prop := (0 ≤ s0 → hS h x0 = (1, 5) ∧ ∃ a11, hR h x0 4 = some a11 ∧ hS h a11 = (1, 3) ∧ wX3_put a11 s0 h (fun h15 => hS h15 x0 = (1, 5) ∧ wX5_advance x0 h15 (fun h18 => Q (nI 1) h18))) ∧ (¬ (0 ≤ s0) → hS h x0 = (1, 5) ∧ wX5_refuse x0 (nI 2) h (fun r20 h21 => (r20 = 0 ∨ r20 = 1) ∧ Q (r20) h21))
set_option maxHeartbeats 4000000 in
set_option maxRecDepth 100000 in
theorem tX5_readAtom_93 {Q : Int32 → MH → Prop} {PX5_readSum : Nat → Int32 → MH → (Int32 → MH → Prop) → Prop} {PX5_readChoice : Nat → Int32 → MH → (Int32 → MH → Prop) → Prop} {d d2 : Nat} (hd : 6 ≤ d) (hd2 : d2 < d) (hPX5_readSum : ∀ (y0 : Nat) (y1 : Int32) (h : MH) (Q : Int32 → MH → Prop), PX5_readSum y0 y1 h Q → Cm MX5_readSum d2 0 0 [.ref (y0), .int (y1)] h (pI Q)) (hPX5_readChoice : ∀ (y0 : Nat) (y1 : Int32) (h : MH) (Q : Int32 → MH → Prop), PX5_readChoice y0 y1 h Q → Cm MX5_readChoice d2 0 0 [.ref (y0), .int (y1)] h (pI Q)) (h : MH) (x0 : Nat) (s0 : Int32) (hw : wX5_readAtom_93 Q PX5_readSum PX5_readChoice x0 s0 h) : Wm MX5_readAtom d 0 0 93 [some (.ref (x0)), none, none] [.int (s0)] h (pI Q) := by
  unfold wX5_readAtom_93 at hw
  refine x_istore_n (ls' := [_, _, _]) eX5_readAtom_93 (by decide) rfl rfl ?_
  refine q_iload_n eX5_readAtom_94 rfl ?_
  obtain ⟨hw1, hw2⟩ := hw
  refine q_if_ge (tgt := 104) eX5_readAtom_95 (by decide) (fun c => ?_) (fun c => ?_)
  · have hw := hw1 c
    refine q_aload_nr eX5_readAtom_104 rfl ?_
    obtain ⟨hs10, hw⟩ := hw
    obtain ⟨a11, hr12, hw⟩ := hw
    refine q_getR flX5_28 rfl hs10 hr12 eX5_readAtom_105 ?_
    refine q_iload_n eX5_readAtom_108 rfl ?_
    obtain ⟨hs13, hw⟩ := hw
    refine q_callV (b := 0) (t := 0) (gX3_put _ _ _ _ hw) mlX5_148 kX3_put vX3_put rfl hs13 ⟨rfl, rfl⟩ (by omega) rfl (Nat.le_of_ble_eq_true rfl) eX5_readAtom_109 (kV fun h15 hw => ?_)
    refine q_aload_nr eX5_readAtom_112 rfl ?_
    obtain ⟨hs16, hw⟩ := hw
    refine q_callV (b := 0) (t := 0) (gX5_advance _ _ _ hw) mlX5_48 kX5_advance vX5_advance rfl hs16 ⟨rfl, rfl⟩ (by omega) rfl (Nat.le_of_ble_eq_true rfl) eX5_readAtom_113 (kV fun h18 hw => ?_)
    refine q_iconst (v := nI 1) eX5_readAtom_116 (by decide) ?_
    exact q_retZ rfl (by decide) eX5_readAtom_117 ⟨_, rfl, hw⟩
  · have hw := hw2 c
    refine q_aload_nr eX5_readAtom_98 rfl ?_
    refine q_iconst (v := nI 2) eX5_readAtom_99 (by decide) ?_
    obtain ⟨hs19, hw⟩ := hw
    refine q_callV (b := 0) (t := 0) (gX5_refuse _ _ _ _ hw) mlX5_105 kX5_refuse vX5_refuse rfl hs19 ⟨rfl, rfl⟩ (by omega) rfl (Nat.le_of_ble_eq_true rfl) eX5_readAtom_100 (kI fun r20 h21 hw => ?_)
    obtain ⟨hz22, hw⟩ := hw
    exact q_retZ rfl hz22 eX5_readAtom_103 ⟨_, rfl, hw⟩
def wX5_readAtom (PX5_readSum : Nat → Int32 → MH → (Int32 → MH → Prop) → Prop) (PX5_readChoice : Nat → Int32 → MH → (Int32 → MH → Prop) → Prop) (x0 : Nat) (x1 : Int32) (h : MH) (Q : Int32 → MH → Prop) : Prop := hS h x0 = (1, 5) ∧ wX5_isAt x0 13 h (fun r2 h3 => (r2 = 0 → hS h3 x0 = (1, 5) ∧ wX5_isAt x0 15 h3 (fun r5 h6 => (r5 = 0 → hS h6 x0 = (1, 5) ∧ (hI h6 x0 9 < 0 → wX5_wordCode x0 h6 (fun r8 h9 => wX5_readAtom_93 Q PX5_readSum PX5_readChoice x0 r8 h9)) ∧ (¬ (hI h6 x0 9 < 0) → wX5_readAtom_93 Q PX5_readSum PX5_readChoice x0 (hI h6 x0 9) h6)) ∧ (¬ (r5 = 0) → hS h6 x0 = (1, 5) ∧ wX5_goWithin x0 x1 h6 (fun r24 h25 => (r24 = 0 → Q (nI 0) h25) ∧ (¬ (r24 = 0) → hS h25 x0 = (1, 5) ∧ PX5_readChoice x0 (x1 + nI 1) h25 (fun r27 h28 => ((if r27 = 0 then nI 0 else nI 1) = 0 ∨ (if r27 = 0 then nI 0 else nI 1) = 1) ∧ Q ((if r27 = 0 then nI 0 else nI 1)) h28)))))) ∧ (¬ (r2 = 0) → hS h3 x0 = (1, 5) ∧ wX5_goWithin x0 x1 h3 (fun r33 h34 => (r33 = 0 → Q (nI 0) h34) ∧ (¬ (r33 = 0) → hS h34 x0 = (1, 5) ∧ PX5_readSum x0 (x1 + nI 1) h34 (fun r36 h37 => (r36 = 0 → Q (nI 0) h37) ∧ (¬ (r36 = 0) → hS h37 x0 = (1, 5) ∧ wX5_pass x0 14 h37 (fun r39 h40 => ((if r39 = 0 then nI 0 else nI 1) = 0 ∨ (if r39 = 0 then nI 0 else nI 1) = 1) ∧ Q ((if r39 = 0 then nI 0 else nI 1)) h40)))))))
set_option maxHeartbeats 4000000 in
set_option maxRecDepth 100000 in
theorem gX5_readAtom {PX5_readSum : Nat → Int32 → MH → (Int32 → MH → Prop) → Prop} {PX5_readChoice : Nat → Int32 → MH → (Int32 → MH → Prop) → Prop} {d d2 : Nat} (hd : 6 ≤ d) (hd2 : d2 < d) (hPX5_readSum : ∀ (y0 : Nat) (y1 : Int32) (h : MH) (Q : Int32 → MH → Prop), PX5_readSum y0 y1 h Q → Cm MX5_readSum d2 0 0 [.ref (y0), .int (y1)] h (pI Q)) (hPX5_readChoice : ∀ (y0 : Nat) (y1 : Int32) (h : MH) (Q : Int32 → MH → Prop), PX5_readChoice y0 y1 h Q → Cm MX5_readChoice d2 0 0 [.ref (y0), .int (y1)] h (pI Q)) (x0 : Nat) (x1 : Int32) (h : MH) (Q : Int32 → MH → Prop) (hw : wX5_readAtom PX5_readSum PX5_readChoice x0 x1 h Q) : Cm MX5_readAtom d 0 0 [.ref (x0), .int (x1)] h (pI Q) := by
  refine cm_of [some (.ref (x0)), some (.int (x1)), none] rfl pnX5 (Nat.le_of_ble_eq_true rfl) rfl ?_
  unfold wX5_readAtom at hw
  refine q_aload_nr eX5_readAtom_0 rfl ?_
  refine q_ldcS (x := 13) (tx := "(") (by decide +kernel) (by decide) eX5_readAtom_1 ?_
  obtain ⟨hs1, hw⟩ := hw
  refine q_callV (b := 0) (t := 0) (gX5_isAt _ _ _ _ hw) mlX5_91 kX5_isAt vX5_isAt rfl hs1 ⟨rfl, rfl⟩ (by omega) rfl (Nat.le_of_ble_eq_true rfl) eX5_readAtom_3 (kI fun r2 h3 hw => ?_)
  obtain ⟨hw1, hw2⟩ := hw
  refine q_if_eq (tgt := 42) eX5_readAtom_6 (by decide) (fun c => ?_) (fun c => ?_)
  · have hw := hw1 c
    refine q_aload_nr eX5_readAtom_42 rfl ?_
    refine q_ldcS (x := 15) (tx := "if") (by decide +kernel) (by decide) eX5_readAtom_43 ?_
    obtain ⟨hs4, hw⟩ := hw
    refine q_callV (b := 0) (t := 0) (gX5_isAt _ _ _ _ hw) mlX5_91 kX5_isAt vX5_isAt rfl hs4 ⟨rfl, rfl⟩ (by omega) rfl (Nat.le_of_ble_eq_true rfl) eX5_readAtom_45 (kI fun r5 h6 hw => ?_)
    obtain ⟨hw1, hw2⟩ := hw
    refine q_if_eq (tgt := 75) eX5_readAtom_48 (by decide) (fun c => ?_) (fun c => ?_)
    · have hw := hw1 c
      refine q_aload_nr eX5_readAtom_75 rfl ?_
      obtain ⟨hs7, hw⟩ := hw
      refine q_getI flX5_193 rfl hs7 eX5_readAtom_76 ?_
      obtain ⟨hw1, hw2⟩ := hw
      refine q_if_lt (tgt := 89) eX5_readAtom_79 (by decide) (fun c => ?_) (fun c => ?_)
      · have hw := hw1 c
        refine q_aload_nr eX5_readAtom_89 rfl ?_
        refine q_callV (b := 0) (t := 0) (gX5_wordCode _ _ _ hw) mlX5_196 kX5_wordCode vX5_wordCode rfl hs7 ⟨rfl, rfl⟩ (by omega) rfl (Nat.le_of_ble_eq_true rfl) eX5_readAtom_90 (kI fun r8 h9 hw => ?_)
        refine q_le (ls' := [some _, none, none]) ⟨rfl, trivial⟩ ?_
        exact tX5_readAtom_93 hd hd2 hPX5_readSum hPX5_readChoice _ _ _ hw
      · have hw := hw2 c
        refine q_aload_nr eX5_readAtom_82 rfl ?_
        refine q_getI flX5_193 rfl hs7 eX5_readAtom_83 ?_
        refine q_goto (tgt := 93) eX5_readAtom_86 (by decide) ?_
        refine q_le (ls' := [some _, none, none]) ⟨rfl, trivial⟩ ?_
        exact tX5_readAtom_93 hd hd2 hPX5_readSum hPX5_readChoice _ _ _ hw
    · have hw := hw2 c
      refine q_aload_nr eX5_readAtom_51 rfl ?_
      refine q_iload_n eX5_readAtom_52 rfl ?_
      obtain ⟨hs23, hw⟩ := hw
      refine q_callV (b := 0) (t := 0) (gX5_goWithin _ _ _ _ hw) mlX5_159 kX5_goWithin vX5_goWithin rfl hs23 ⟨rfl, rfl⟩ (by omega) rfl (Nat.le_of_ble_eq_true rfl) eX5_readAtom_53 (kI fun r24 h25 hw => ?_)
      obtain ⟨hw1, hw2⟩ := hw
      refine q_if_eq (tgt := 73) eX5_readAtom_56 (by decide) (fun c => ?_) (fun c => ?_)
      · have hw := hw1 c
        refine q_iconst (v := nI 0) eX5_readAtom_73 (by decide) ?_
        exact q_retZ rfl (by decide) eX5_readAtom_74 ⟨_, rfl, hw⟩
      · have hw := hw2 c
        refine q_aload_nr eX5_readAtom_59 rfl ?_
        refine q_iload_n eX5_readAtom_60 rfl ?_
        refine q_iconst (v := nI 1) eX5_readAtom_61 (by decide) ?_
        refine q_iadd eX5_readAtom_62 ?_
        obtain ⟨hs26, hw⟩ := hw
        refine q_callV (b := 0) (t := 0) (hPX5_readChoice _ _ _ _ hw) mlX5_190 kX5_readChoice vX5_readChoice rfl hs26 ⟨rfl, rfl⟩ (by omega) rfl (Nat.le_of_ble_eq_true rfl) eX5_readAtom_63 (kI fun r27 h28 hw => ?_)
        have hj31 : Wm MX5_readAtom d 0 0 74 [some (.ref (x0)), some (.int (x1)), none] [.int ((if r27 = 0 then nI 0 else nI 1))] h28 (pI Q) := by
          obtain ⟨hz30, hw⟩ := hw
          exact q_retZ rfl hz30 eX5_readAtom_74 ⟨_, rfl, hw⟩
        refine q_if_eq (tgt := 73) eX5_readAtom_66 (by decide) (fun c => ?_) (fun c => ?_)
        · refine q_iconst (v := nI 0) eX5_readAtom_73 (by decide) ?_
          rw [if_pos c] at hj31
          exact hj31
        · refine q_iconst (v := nI 1) eX5_readAtom_69 (by decide) ?_
          refine q_goto (tgt := 74) eX5_readAtom_70 (by decide) ?_
          rw [if_neg c] at hj31
          exact hj31
  · have hw := hw2 c
    refine q_aload_nr eX5_readAtom_9 rfl ?_
    refine q_iload_n eX5_readAtom_10 rfl ?_
    obtain ⟨hs32, hw⟩ := hw
    refine q_callV (b := 0) (t := 0) (gX5_goWithin _ _ _ _ hw) mlX5_159 kX5_goWithin vX5_goWithin rfl hs32 ⟨rfl, rfl⟩ (by omega) rfl (Nat.le_of_ble_eq_true rfl) eX5_readAtom_11 (kI fun r33 h34 hw => ?_)
    obtain ⟨hw1, hw2⟩ := hw
    refine q_if_eq (tgt := 40) eX5_readAtom_14 (by decide) (fun c => ?_) (fun c => ?_)
    · have hw := hw1 c
      refine q_iconst (v := nI 0) eX5_readAtom_40 (by decide) ?_
      exact q_retZ rfl (by decide) eX5_readAtom_41 ⟨_, rfl, hw⟩
    · have hw := hw2 c
      refine q_aload_nr eX5_readAtom_17 rfl ?_
      refine q_iload_n eX5_readAtom_18 rfl ?_
      refine q_iconst (v := nI 1) eX5_readAtom_19 (by decide) ?_
      refine q_iadd eX5_readAtom_20 ?_
      obtain ⟨hs35, hw⟩ := hw
      refine q_callV (b := 0) (t := 0) (hPX5_readSum _ _ _ _ hw) mlX5_137 kX5_readSum vX5_readSum rfl hs35 ⟨rfl, rfl⟩ (by omega) rfl (Nat.le_of_ble_eq_true rfl) eX5_readAtom_21 (kI fun r36 h37 hw => ?_)
      obtain ⟨hw1, hw2⟩ := hw
      refine q_if_eq (tgt := 40) eX5_readAtom_24 (by decide) (fun c => ?_) (fun c => ?_)
      · have hw := hw1 c
        refine q_iconst (v := nI 0) eX5_readAtom_40 (by decide) ?_
        exact q_retZ rfl (by decide) eX5_readAtom_41 ⟨_, rfl, hw⟩
      · have hw := hw2 c
        refine q_aload_nr eX5_readAtom_27 rfl ?_
        refine q_ldcS (x := 14) (tx := ")") (by decide +kernel) (by decide) eX5_readAtom_28 ?_
        obtain ⟨hs38, hw⟩ := hw
        refine q_callV (b := 0) (t := 0) (gX5_pass _ _ _ _ hw) mlX5_67 kX5_pass vX5_pass rfl hs38 ⟨rfl, rfl⟩ (by omega) rfl (Nat.le_of_ble_eq_true rfl) eX5_readAtom_30 (kI fun r39 h40 hw => ?_)
        have hj43 : Wm MX5_readAtom d 0 0 41 [some (.ref (x0)), some (.int (x1)), none] [.int ((if r39 = 0 then nI 0 else nI 1))] h40 (pI Q) := by
          obtain ⟨hz42, hw⟩ := hw
          exact q_retZ rfl hz42 eX5_readAtom_41 ⟨_, rfl, hw⟩
        refine q_if_eq (tgt := 40) eX5_readAtom_33 (by decide) (fun c => ?_) (fun c => ?_)
        · refine q_iconst (v := nI 0) eX5_readAtom_40 (by decide) ?_
          rw [if_pos c] at hj43
          exact hj43
        · refine q_iconst (v := nI 1) eX5_readAtom_36 (by decide) ?_
          refine q_goto (tgt := 41) eX5_readAtom_37 (by decide) ?_
          rw [if_neg c] at hj43
          exact hj43
def wX5_readChoice (PX5_readTruth : Nat → Int32 → MH → (Int32 → MH → Prop) → Prop) (PX5_readSum : Nat → Int32 → MH → (Int32 → MH → Prop) → Prop) (x0 : Nat) (x1 : Int32) (h : MH) (Q : Int32 → MH → Prop) : Prop := hS h x0 = (1, 5) ∧ PX5_readTruth x0 x1 h (fun r2 h3 => (r2 = 0 → Q (nI 0) h3) ∧ (¬ (r2 = 0) → hS h3 x0 = (1, 5) ∧ wX5_pass x0 16 h3 (fun r5 h6 => (r5 = 0 → Q (nI 0) h6) ∧ (¬ (r5 = 0) → hS h6 x0 = (1, 5) ∧ PX5_readSum x0 x1 h6 (fun r8 h9 => (r8 = 0 → Q (nI 0) h9) ∧ (¬ (r8 = 0) → hS h9 x0 = (1, 5) ∧ wX5_pass x0 17 h9 (fun r11 h12 => (r11 = 0 → Q (nI 0) h12) ∧ (¬ (r11 = 0) → hS h12 x0 = (1, 5) ∧ PX5_readSum x0 x1 h12 (fun r14 h15 => (r14 = 0 → Q (nI 0) h15) ∧ (¬ (r14 = 0) → hS h15 x0 = (1, 5) ∧ wX5_pass x0 18 h15 (fun r17 h18 => (¬ (r17 = 0) → hS h18 x0 = (1, 5) ∧ ∃ a20, hR h18 x0 4 = some a20 ∧ hS h18 a20 = (1, 3) ∧ wX3_put a20 (nI 1014) h18 (fun h24 => Q (nI 1) h24)) ∧ (r17 = 0 → Q (nI 0) h18))))))))))))
set_option maxHeartbeats 4000000 in
set_option maxRecDepth 100000 in
theorem gX5_readChoice {PX5_readTruth : Nat → Int32 → MH → (Int32 → MH → Prop) → Prop} {PX5_readSum : Nat → Int32 → MH → (Int32 → MH → Prop) → Prop} {d d2 : Nat} (hd : 6 ≤ d) (hd2 : d2 < d) (hPX5_readTruth : ∀ (y0 : Nat) (y1 : Int32) (h : MH) (Q : Int32 → MH → Prop), PX5_readTruth y0 y1 h Q → Cm MX5_readTruth d2 0 0 [.ref (y0), .int (y1)] h (pI Q)) (hPX5_readSum : ∀ (y0 : Nat) (y1 : Int32) (h : MH) (Q : Int32 → MH → Prop), PX5_readSum y0 y1 h Q → Cm MX5_readSum d2 0 0 [.ref (y0), .int (y1)] h (pI Q)) (x0 : Nat) (x1 : Int32) (h : MH) (Q : Int32 → MH → Prop) (hw : wX5_readChoice PX5_readTruth PX5_readSum x0 x1 h Q) : Cm MX5_readChoice d 0 0 [.ref (x0), .int (x1)] h (pI Q) := by
  refine cm_of [some (.ref (x0)), some (.int (x1))] rfl pnX5 (Nat.le_of_ble_eq_true rfl) rfl ?_
  unfold wX5_readChoice at hw
  refine q_aload_nr eX5_readChoice_0 rfl ?_
  refine q_iload_n eX5_readChoice_1 rfl ?_
  obtain ⟨hs1, hw⟩ := hw
  refine q_callV (b := 0) (t := 0) (hPX5_readTruth _ _ _ _ hw) mlX5_134 kX5_readTruth vX5_readTruth rfl hs1 ⟨rfl, rfl⟩ (by omega) rfl (Nat.le_of_ble_eq_true rfl) eX5_readChoice_2 (kI fun r2 h3 hw => ?_)
  obtain ⟨hw1, hw2⟩ := hw
  refine q_if_eq (tgt := 51) eX5_readChoice_5 (by decide) (fun c => ?_) (fun c => ?_)
  · have hw := hw1 c
    refine q_iconst (v := nI 0) eX5_readChoice_51 (by decide) ?_
    exact q_retZ rfl (by decide) eX5_readChoice_52 ⟨_, rfl, hw⟩
  · have hw := hw2 c
    refine q_aload_nr eX5_readChoice_8 rfl ?_
    refine q_ldcS (x := 16) (tx := "then") (by decide +kernel) (by decide) eX5_readChoice_9 ?_
    obtain ⟨hs4, hw⟩ := hw
    refine q_callV (b := 0) (t := 0) (gX5_pass _ _ _ _ hw) mlX5_67 kX5_pass vX5_pass rfl hs4 ⟨rfl, rfl⟩ (by omega) rfl (Nat.le_of_ble_eq_true rfl) eX5_readChoice_11 (kI fun r5 h6 hw => ?_)
    obtain ⟨hw1, hw2⟩ := hw
    refine q_if_eq (tgt := 51) eX5_readChoice_14 (by decide) (fun c => ?_) (fun c => ?_)
    · have hw := hw1 c
      refine q_iconst (v := nI 0) eX5_readChoice_51 (by decide) ?_
      exact q_retZ rfl (by decide) eX5_readChoice_52 ⟨_, rfl, hw⟩
    · have hw := hw2 c
      refine q_aload_nr eX5_readChoice_17 rfl ?_
      refine q_iload_n eX5_readChoice_18 rfl ?_
      obtain ⟨hs7, hw⟩ := hw
      refine q_callV (b := 0) (t := 0) (hPX5_readSum _ _ _ _ hw) mlX5_137 kX5_readSum vX5_readSum rfl hs7 ⟨rfl, rfl⟩ (by omega) rfl (Nat.le_of_ble_eq_true rfl) eX5_readChoice_19 (kI fun r8 h9 hw => ?_)
      obtain ⟨hw1, hw2⟩ := hw
      refine q_if_eq (tgt := 51) eX5_readChoice_22 (by decide) (fun c => ?_) (fun c => ?_)
      · have hw := hw1 c
        refine q_iconst (v := nI 0) eX5_readChoice_51 (by decide) ?_
        exact q_retZ rfl (by decide) eX5_readChoice_52 ⟨_, rfl, hw⟩
      · have hw := hw2 c
        refine q_aload_nr eX5_readChoice_25 rfl ?_
        refine q_ldcS (x := 17) (tx := "else") (by decide +kernel) (by decide) eX5_readChoice_26 ?_
        obtain ⟨hs10, hw⟩ := hw
        refine q_callV (b := 0) (t := 0) (gX5_pass _ _ _ _ hw) mlX5_67 kX5_pass vX5_pass rfl hs10 ⟨rfl, rfl⟩ (by omega) rfl (Nat.le_of_ble_eq_true rfl) eX5_readChoice_28 (kI fun r11 h12 hw => ?_)
        obtain ⟨hw1, hw2⟩ := hw
        refine q_if_eq (tgt := 51) eX5_readChoice_31 (by decide) (fun c => ?_) (fun c => ?_)
        · have hw := hw1 c
          refine q_iconst (v := nI 0) eX5_readChoice_51 (by decide) ?_
          exact q_retZ rfl (by decide) eX5_readChoice_52 ⟨_, rfl, hw⟩
        · have hw := hw2 c
          refine q_aload_nr eX5_readChoice_34 rfl ?_
          refine q_iload_n eX5_readChoice_35 rfl ?_
          obtain ⟨hs13, hw⟩ := hw
          refine q_callV (b := 0) (t := 0) (hPX5_readSum _ _ _ _ hw) mlX5_137 kX5_readSum vX5_readSum rfl hs13 ⟨rfl, rfl⟩ (by omega) rfl (Nat.le_of_ble_eq_true rfl) eX5_readChoice_36 (kI fun r14 h15 hw => ?_)
          obtain ⟨hw1, hw2⟩ := hw
          refine q_if_eq (tgt := 51) eX5_readChoice_39 (by decide) (fun c => ?_) (fun c => ?_)
          · have hw := hw1 c
            refine q_iconst (v := nI 0) eX5_readChoice_51 (by decide) ?_
            exact q_retZ rfl (by decide) eX5_readChoice_52 ⟨_, rfl, hw⟩
          · have hw := hw2 c
            refine q_aload_nr eX5_readChoice_42 rfl ?_
            refine q_ldcS (x := 18) (tx := "end") (by decide +kernel) (by decide) eX5_readChoice_43 ?_
            obtain ⟨hs16, hw⟩ := hw
            refine q_callV (b := 0) (t := 0) (gX5_pass _ _ _ _ hw) mlX5_67 kX5_pass vX5_pass rfl hs16 ⟨rfl, rfl⟩ (by omega) rfl (Nat.le_of_ble_eq_true rfl) eX5_readChoice_45 (kI fun r17 h18 hw => ?_)
            obtain ⟨hw1, hw2⟩ := hw
            refine q_if_ne (tgt := 53) eX5_readChoice_48 (by decide) (fun c => ?_) (fun c => ?_)
            · have hw := hw1 c
              refine q_aload_nr eX5_readChoice_53 rfl ?_
              obtain ⟨hs19, hw⟩ := hw
              obtain ⟨a20, hr21, hw⟩ := hw
              refine q_getR flX5_28 rfl hs19 hr21 eX5_readChoice_54 ?_
              refine q_sipush (v := nI 1014) eX5_readChoice_57 (by decide) ?_
              obtain ⟨hs22, hw⟩ := hw
              refine q_callV (b := 0) (t := 0) (gX3_put _ _ _ _ hw) mlX5_148 kX3_put vX3_put rfl hs22 ⟨rfl, rfl⟩ (by omega) rfl (Nat.le_of_ble_eq_true rfl) eX5_readChoice_60 (kV fun h24 hw => ?_)
              refine q_iconst (v := nI 1) eX5_readChoice_63 (by decide) ?_
              exact q_retZ rfl (by decide) eX5_readChoice_64 ⟨_, rfl, hw⟩
            · have hw := hw2 c
              refine q_iconst (v := nI 0) eX5_readChoice_51 (by decide) ?_
              exact q_retZ rfl (by decide) eX5_readChoice_52 ⟨_, rfl, hw⟩
def wX6_placeOf (x0 : Int32) (x1 : Int32) (h : MH) (Q : Int32 → MH → Prop) : Prop := Q (((x0 <<< (nI 10 &&& 31)) ||| x1)) h
set_option maxHeartbeats 4000000 in
set_option maxRecDepth 100000 in
theorem gX6_placeOf (x0 : Int32) (x1 : Int32) (h : MH) (Q : Int32 → MH → Prop) (hw : wX6_placeOf x0 x1 h Q) : Cm MX6_placeOf 0 0 0 [.int (x0), .int (x1)] h (pI Q) := by
  refine cm_of [some (.int (x0)), some (.int (x1))] rfl pnX6 (Nat.le_of_ble_eq_true rfl) rfl ?_
  unfold wX6_placeOf at hw
  refine q_iload_n eX6_placeOf_0 rfl ?_
  refine q_bipush (v := nI 10) eX6_placeOf_1 (by decide) ?_
  refine q_ishl eX6_placeOf_3 ?_
  refine q_iload_n eX6_placeOf_4 rfl ?_
  refine q_ior eX6_placeOf_5 ?_
  exact q_ret rfl eX6_placeOf_6 ⟨_, rfl, hw⟩
def wX6_pathAt (x0 : Int32) (h : MH) (Q : Int32 → MH → Prop) : Prop := Q ((x0 &&& nI 1023)) h
set_option maxHeartbeats 4000000 in
set_option maxRecDepth 100000 in
theorem gX6_pathAt (x0 : Int32) (h : MH) (Q : Int32 → MH → Prop) (hw : wX6_pathAt x0 h Q) : Cm MX6_pathAt 0 0 0 [.int (x0)] h (pI Q) := by
  refine cm_of [some (.int (x0))] rfl pnX6 (Nat.le_of_ble_eq_true rfl) rfl ?_
  unfold wX6_pathAt at hw
  refine q_iload_n eX6_pathAt_0 rfl ?_
  refine q_sipush (v := nI 1023) eX6_pathAt_1 (by decide) ?_
  refine q_iand eX6_pathAt_4 ?_
  exact q_ret rfl eX6_pathAt_5 ⟨_, rfl, hw⟩
def wX6_mendAll_7 (Q : MH → Prop) : Nat → Nat → Int32 → MH → Prop
  | 0, _, _, _ => False
  | n + 1, x0, x1, h => (nI 20 ≤ x1 → Q h) ∧ (¬ (nI 20 ≤ x1) → hS h x0 = (1, 6) ∧ ∃ a4, hR h x0 3 = some a4 ∧ ∃ n7, hS h a4 = (2, n7) ∧ vp_in (x1) n7 ∧ ∀ h9, h9 = sI h a4 (x1).toNatClampNeg ((-1 : Int32)) → wX6_mendAll_7 Q n x0 (x1 + nI 1) h9)
set_option maxHeartbeats 4000000 in
set_option maxRecDepth 100000 in
theorem tX6_mendAll_7 {Q : MH → Prop} : ∀ (n : Nat) (h : MH) (x0 : Nat) (x1 : Int32), wX6_mendAll_7 Q n x0 x1 h → Wm MX6_mendAll 0 0 0 7 [some (.ref (x0)), some (.int (x1))] [] h (pV Q) := by
  intro n
  induction n with
  | zero => intro h x0 x1 hw; exact hw.elim
  | succ n ih =>
    intro h x0 x1 hw
    unfold wX6_mendAll_7 at hw
    refine q_iload_n eX6_mendAll_7 rfl ?_
    refine q_bipush (v := nI 20) eX6_mendAll_8 (by decide) ?_
    obtain ⟨hw1, hw2⟩ := hw
    refine q_icmp_ge (tgt := 26) eX6_mendAll_10 (by decide) (fun c => ?_) (fun c => ?_)
    · have hw := hw1 c
      exact q_retV rfl eX6_mendAll_26 ⟨rfl, hw⟩
    · have hw := hw2 c
      refine q_aload_nr eX6_mendAll_13 rfl ?_
      obtain ⟨hs3, hw⟩ := hw
      obtain ⟨a4, hr5, hw⟩ := hw
      refine q_getR flX6_22 rfl hs3 hr5 eX6_mendAll_14 ?_
      refine q_iload_n eX6_mendAll_17 rfl ?_
      refine q_iconst (v := (-1 : Int32)) eX6_mendAll_18 (by decide) ?_
      obtain ⟨n7, hs6, hw⟩ := hw
      obtain ⟨hi8, hw⟩ := hw
      have hw := hw _ rfl
      refine q_iast hs6 hi8 eX6_mendAll_19 ?_
      refine x_iinc (v := (x1 + nI 1)) (ls' := [_, _]) eX6_mendAll_20 rfl rfl rfl rfl ?_
      refine q_goto (tgt := 7) eX6_mendAll_23 (by decide) ?_
      refine q_le (ls' := [some _, some _]) ⟨rfl, rfl, trivial⟩ ?_
      exact ih _ _ _ hw
def wX6_mendAll (x0 : Nat) (h : MH) (Q : MH → Prop) : Prop := hS h x0 = (1, 6) ∧ ∀ h2, h2 = sI h x0 1 (nI 0) → ∃ m10, wX6_mendAll_7 Q m10 x0 (nI 0) h2
set_option maxHeartbeats 4000000 in
set_option maxRecDepth 100000 in
theorem gX6_mendAll (x0 : Nat) (h : MH) (Q : MH → Prop) (hw : wX6_mendAll x0 h Q) : Cm MX6_mendAll 0 0 0 [.ref (x0)] h (pV Q) := by
  refine cm_of [some (.ref (x0)), none] rfl pnX6 (Nat.le_of_ble_eq_true rfl) rfl ?_
  unfold wX6_mendAll at hw
  refine q_aload_nr eX6_mendAll_0 rfl ?_
  refine q_iconst (v := nI 0) eX6_mendAll_1 (by decide) ?_
  obtain ⟨hs1, hw⟩ := hw
  have hw := hw _ rfl
  refine q_putI (fwX6_15 _) rfl hs1 eX6_mendAll_2 ?_
  refine q_iconst (v := nI 0) eX6_mendAll_5 (by decide) ?_
  refine x_istore_n (ls' := [_, _]) eX6_mendAll_6 (by decide) rfl rfl ?_
  refine q_le (ls' := [some _, some _]) ⟨rfl, rfl, trivial⟩ ?_
  obtain ⟨m10, hw⟩ := hw
  exact tX6_mendAll_7 m10 _ _ _ hw
def wX6_begin_7 (Q : MH → Prop) : Nat → Nat → Int32 → MH → Prop
  | 0, _, _, _ => False
  | n + 1, x0, x2, h => (nI 40 ≤ x2 → hS h x0 = (1, 6) ∧ wX6_mendAll x0 h (fun h5 => Q h5)) ∧ (¬ (nI 40 ≤ x2) → hS h x0 = (1, 6) ∧ ∃ a7, hR h x0 2 = some a7 ∧ ∃ n10, hS h a7 = (2, n10) ∧ vp_in (x2) n10 ∧ ∀ h12, h12 = sI h a7 (x2).toNatClampNeg (nI 0) → wX6_begin_7 Q n x0 (x2 + nI 1) h12)
set_option maxHeartbeats 4000000 in
set_option maxRecDepth 100000 in
theorem tX6_begin_7 {Q : MH → Prop} : ∀ (n : Nat) (h : MH) (x0 : Nat) (x2 : Int32), wX6_begin_7 Q n x0 x2 h → Wm MX6_begin 1 0 0 7 [some (.ref (x0)), none, some (.int (x2))] [] h (pV Q) := by
  intro n
  induction n with
  | zero => intro h x0 x2 hw; exact hw.elim
  | succ n ih =>
    intro h x0 x2 hw
    unfold wX6_begin_7 at hw
    refine q_iload_n eX6_begin_7 rfl ?_
    refine q_bipush (v := nI 40) eX6_begin_8 (by decide) ?_
    obtain ⟨hw1, hw2⟩ := hw
    refine q_icmp_ge (tgt := 26) eX6_begin_10 (by decide) (fun c => ?_) (fun c => ?_)
    · have hw := hw1 c
      refine q_aload_nr eX6_begin_26 rfl ?_
      obtain ⟨hs3, hw⟩ := hw
      refine q_callV (b := 0) (t := 0) (gX6_mendAll _ _ _ hw) mlX6_31 kX6_mendAll vX6_mendAll rfl hs3 ⟨rfl, rfl⟩ (by decide) rfl (Nat.le_of_ble_eq_true rfl) eX6_begin_27 (kV fun h5 hw => ?_)
      exact q_retV rfl eX6_begin_30 ⟨rfl, hw⟩
    · have hw := hw2 c
      refine q_aload_nr eX6_begin_13 rfl ?_
      obtain ⟨hs6, hw⟩ := hw
      obtain ⟨a7, hr8, hw⟩ := hw
      refine q_getR flX6_18 rfl hs6 hr8 eX6_begin_14 ?_
      refine q_iload_n eX6_begin_17 rfl ?_
      refine q_iconst (v := nI 0) eX6_begin_18 (by decide) ?_
      obtain ⟨n10, hs9, hw⟩ := hw
      obtain ⟨hi11, hw⟩ := hw
      have hw := hw _ rfl
      refine q_iast hs9 hi11 eX6_begin_19 ?_
      refine x_iinc (v := (x2 + nI 1)) (ls' := [_, _, _]) eX6_begin_20 rfl rfl rfl rfl ?_
      refine q_goto (tgt := 7) eX6_begin_23 (by decide) ?_
      refine q_le (ls' := [some _, none, some _]) ⟨rfl, rfl, trivial⟩ ?_
      exact ih _ _ _ hw
def wX6_begin (x0 : Nat) (x1 : Int32) (h : MH) (Q : MH → Prop) : Prop := hS h x0 = (1, 6) ∧ ∀ h2, h2 = sI h x0 0 (x1) → ∃ m13, wX6_begin_7 Q m13 x0 (nI 0) h2
set_option maxHeartbeats 4000000 in
set_option maxRecDepth 100000 in
theorem gX6_begin (x0 : Nat) (x1 : Int32) (h : MH) (Q : MH → Prop) (hw : wX6_begin x0 x1 h Q) : Cm MX6_begin 1 0 0 [.ref (x0), .int (x1)] h (pV Q) := by
  refine cm_of [some (.ref (x0)), some (.int (x1)), none] rfl pnX6 (Nat.le_of_ble_eq_true rfl) rfl ?_
  unfold wX6_begin at hw
  refine q_aload_nr eX6_begin_0 rfl ?_
  refine q_iload_n eX6_begin_1 rfl ?_
  obtain ⟨hs1, hw⟩ := hw
  have hw := hw _ rfl
  refine q_putI (fwX6_9 _) rfl hs1 eX6_begin_2 ?_
  refine q_iconst (v := nI 0) eX6_begin_5 (by decide) ?_
  refine x_istore_n (ls' := [_, _, _]) eX6_begin_6 (by decide) rfl rfl ?_
  refine q_le (ls' := [some _, none, some _]) ⟨rfl, rfl, trivial⟩ ?_
  obtain ⟨m13, hw⟩ := hw
  exact tX6_begin_7 m13 _ _ _ hw
def wX6_freshFrom (x0 : Nat) (x1 : Nat) (h : MH) (Q : MH → Prop) : Prop := hS h x0 = (1, 6) ∧ wX6_copyFrom x0 x1 h (fun h3 => hS h3 x0 = (1, 6) ∧ wX6_mendAll x0 h3 (fun h6 => Q h6))
set_option maxHeartbeats 4000000 in
set_option maxRecDepth 100000 in
theorem gX6_freshFrom (x0 : Nat) (x1 : Nat) (h : MH) (Q : MH → Prop) (hw : wX6_freshFrom x0 x1 h Q) : Cm MX6_freshFrom 2 0 0 [.ref (x0), .ref (x1)] h (pV Q) := by
  refine cm_of [some (.ref (x0)), some (.ref (x1))] rfl pnX6 (Nat.le_of_ble_eq_true rfl) rfl ?_
  unfold wX6_freshFrom at hw
  refine q_aload_nr eX6_freshFrom_0 rfl ?_
  refine q_aload_nr eX6_freshFrom_1 rfl ?_
  obtain ⟨hs1, hw⟩ := hw
  refine q_callV (b := 0) (t := 0) (gX6_copyFrom _ _ _ _ hw) mlX6_34 kX6_copyFrom vX6_copyFrom rfl hs1 ⟨rfl, rfl⟩ (by decide) rfl (Nat.le_of_ble_eq_true rfl) eX6_freshFrom_2 (kV fun h3 hw => ?_)
  refine q_aload_nr eX6_freshFrom_5 rfl ?_
  obtain ⟨hs4, hw⟩ := hw
  refine q_callV (b := 0) (t := 0) (gX6_mendAll _ _ _ hw) mlX6_31 kX6_mendAll vX6_mendAll rfl hs4 ⟨rfl, rfl⟩ (by decide) rfl (Nat.le_of_ble_eq_true rfl) eX6_freshFrom_6 (kV fun h6 hw => ?_)
  exact q_retV rfl eX6_freshFrom_9 ⟨rfl, hw⟩
def wX6_hasFailed (x0 : Nat) (x1 : Int32) (h : MH) (Q : Int32 → MH → Prop) : Prop := hS h x0 = (1, 6) ∧ ((if ((hI h x0 1 >>> (x1 &&& 31)) &&& nI 1) = 0 then nI 0 else nI 1) = 0 ∨ (if ((hI h x0 1 >>> (x1 &&& 31)) &&& nI 1) = 0 then nI 0 else nI 1) = 1) ∧ Q ((if ((hI h x0 1 >>> (x1 &&& 31)) &&& nI 1) = 0 then nI 0 else nI 1)) h
set_option maxHeartbeats 4000000 in
set_option maxRecDepth 100000 in
theorem gX6_hasFailed (x0 : Nat) (x1 : Int32) (h : MH) (Q : Int32 → MH → Prop) (hw : wX6_hasFailed x0 x1 h Q) : Cm MX6_hasFailed 0 0 0 [.ref (x0), .int (x1)] h (pI Q) := by
  refine cm_of [some (.ref (x0)), some (.int (x1))] rfl pnX6 (Nat.le_of_ble_eq_true rfl) rfl ?_
  unfold wX6_hasFailed at hw
  refine q_aload_nr eX6_hasFailed_0 rfl ?_
  obtain ⟨hs1, hw⟩ := hw
  refine q_getI flX6_15 rfl hs1 eX6_hasFailed_1 ?_
  refine q_iload_n eX6_hasFailed_4 rfl ?_
  refine q_ishr eX6_hasFailed_5 ?_
  refine q_iconst (v := nI 1) eX6_hasFailed_6 (by decide) ?_
  refine q_iand eX6_hasFailed_7 ?_
  have hj4 : Wm MX6_hasFailed 0 0 0 16 [some (.ref (x0)), some (.int (x1))] [.int ((if ((hI h x0 1 >>> (x1 &&& 31)) &&& nI 1) = 0 then nI 0 else nI 1))] h (pI Q) := by
    obtain ⟨hz3, hw⟩ := hw
    exact q_retZ rfl hz3 eX6_hasFailed_16 ⟨_, rfl, hw⟩
  refine q_if_eq (tgt := 15) eX6_hasFailed_8 (by decide) (fun c => ?_) (fun c => ?_)
  · refine q_iconst (v := nI 0) eX6_hasFailed_15 (by decide) ?_
    rw [if_pos c] at hj4
    exact hj4
  · refine q_iconst (v := nI 1) eX6_hasFailed_11 (by decide) ?_
    refine q_goto (tgt := 16) eX6_hasFailed_12 (by decide) ?_
    rw [if_neg c] at hj4
    exact hj4
def wX6_allCopies_4 (Q : Int32 → MH → Prop) : Nat → Nat → Int32 → Int32 → MH → Prop
  | 0, _, _, _, _ => False
  | n + 1, x0, x1, x2, h => (nI 40 ≤ x2 → Q (x1) h) ∧ (¬ (nI 40 ≤ x2) → hS h x0 = (1, 6) ∧ ∃ a2, hR h x0 2 = some a2 ∧ ∃ n5, hS h a2 = (2, n5) ∧ vp_in (x2) n5 ∧ wX6_allCopies_4 Q n x0 (x1 + hI h a2 (x2).toNatClampNeg) (x2 + nI 1) h)
set_option maxHeartbeats 4000000 in
set_option maxRecDepth 100000 in
theorem tX6_allCopies_4 {Q : Int32 → MH → Prop} : ∀ (n : Nat) (h : MH) (x0 : Nat) (x1 : Int32) (x2 : Int32), wX6_allCopies_4 Q n x0 x1 x2 h → Wm MX6_allCopies 0 0 0 4 [some (.ref (x0)), some (.int (x1)), some (.int (x2))] [] h (pI Q) := by
  intro n
  induction n with
  | zero => intro h x0 x1 x2 hw; exact hw.elim
  | succ n ih =>
    intro h x0 x1 x2 hw
    unfold wX6_allCopies_4 at hw
    refine q_iload_n eX6_allCopies_4 rfl ?_
    refine q_bipush (v := nI 40) eX6_allCopies_5 (by decide) ?_
    obtain ⟨hw1, hw2⟩ := hw
    refine q_icmp_ge (tgt := 25) eX6_allCopies_7 (by decide) (fun c => ?_) (fun c => ?_)
    · have hw := hw1 c
      refine q_iload_n eX6_allCopies_25 rfl ?_
      exact q_ret rfl eX6_allCopies_26 ⟨_, rfl, hw⟩
    · have hw := hw2 c
      refine q_iload_n eX6_allCopies_10 rfl ?_
      refine q_aload_nr eX6_allCopies_11 rfl ?_
      obtain ⟨hs1, hw⟩ := hw
      obtain ⟨a2, hr3, hw⟩ := hw
      refine q_getR flX6_18 rfl hs1 hr3 eX6_allCopies_12 ?_
      refine q_iload_n eX6_allCopies_15 rfl ?_
      obtain ⟨n5, hs4, hw⟩ := hw
      obtain ⟨hi6, hw⟩ := hw
      refine q_iald hs4 hi6 eX6_allCopies_16 ?_
      refine q_iadd eX6_allCopies_17 ?_
      refine x_istore_n (ls' := [_, _, _]) eX6_allCopies_18 (by decide) rfl rfl ?_
      refine x_iinc (v := (x2 + nI 1)) (ls' := [_, _, _]) eX6_allCopies_19 rfl rfl rfl rfl ?_
      refine q_goto (tgt := 4) eX6_allCopies_22 (by decide) ?_
      refine q_le (ls' := [some _, some _, some _]) ⟨rfl, rfl, rfl, trivial⟩ ?_
      exact ih _ _ _ _ hw
def wX6_allCopies (x0 : Nat) (h : MH) (Q : Int32 → MH → Prop) : Prop := ∃ m7, wX6_allCopies_4 Q m7 x0 (nI 0) (nI 0) h
set_option maxHeartbeats 4000000 in
set_option maxRecDepth 100000 in
theorem gX6_allCopies (x0 : Nat) (h : MH) (Q : Int32 → MH → Prop) (hw : wX6_allCopies x0 h Q) : Cm MX6_allCopies 0 0 0 [.ref (x0)] h (pI Q) := by
  refine cm_of [some (.ref (x0)), none, none] rfl pnX6 (Nat.le_of_ble_eq_true rfl) rfl ?_
  unfold wX6_allCopies at hw
  refine q_iconst (v := nI 0) eX6_allCopies_0 (by decide) ?_
  refine x_istore_n (ls' := [_, _, _]) eX6_allCopies_1 (by decide) rfl rfl ?_
  refine q_iconst (v := nI 0) eX6_allCopies_2 (by decide) ?_
  refine x_istore_n (ls' := [_, _, _]) eX6_allCopies_3 (by decide) rfl rfl ?_
  refine q_le (ls' := [some _, some _, some _]) ⟨rfl, rfl, rfl, trivial⟩ ?_
  obtain ⟨m7, hw⟩ := hw
  exact tX6_allCopies_4 m7 _ _ _ _ hw
def wX7_init (b t : Nat) (x0 : Nat) (h : MH) (Q : MH → Prop) : Prop := 1 ≤ b ∧ 360 ≤ t ∧ ∀ a1, a1 = hN h → ∀ h2, h2 = al h (2, 360) → hS h2 x0 = (1, 7) ∧ ∀ h6, h6 = sR h2 x0 0 (some a1) → Q h6
set_option maxHeartbeats 4000000 in
set_option maxRecDepth 100000 in
theorem gX7_init (b t : Nat) (x0 : Nat) (h : MH) (Q : MH → Prop) (hw : wX7_init b t x0 h Q) : Cm MX7_init 1 b t [.ref (x0)] h (pV Q) := by
  refine cm_of [some (.ref (x0))] rfl pnX7 (Nat.le_of_ble_eq_true rfl) rfl ?_
  unfold wX7_init at hw
  refine q_aload_nr eX7_init_0 rfl ?_
  refine q_objI mlX7_3 iOi cOi (by decide) (Nat.le_of_ble_eq_true rfl) eX7_init_1 ?_
  refine q_aload_nr eX7_init_4 rfl ?_
  refine q_sipush (v := nI 360) eX7_init_5 (by decide) ?_
  obtain ⟨hc3, hc4, hw⟩ := hw
  have hw := hw _ rfl _ rfl
  refine q_bud (b' := (b - 1) + 1) (t' := (t - 360) + 360) (by omega) (by omega) ?_
  refine q_newa (k := 2) (Or.inl rfl) rfl aC_int (by decide) (by decide) (by decide) eX7_init_8 ?_
  obtain ⟨hs5, hw⟩ := hw
  have hw := hw _ rfl
  refine q_putR fwX7_9 rfl hs5 eX7_init_10 ?_
  exact q_retV rfl eX7_init_13 ⟨rfl, hw⟩
def wX7_firstFree_59 (Q : Int32 → MH → Prop) (K3 : Nat → Nat → Nat → Int32 → Int32 → MH → Prop) (K39 : Nat → Nat → Nat → Int32 → Int32 → Int32 → Int32 → MH → Prop) : Nat → Nat → Nat → Nat → Int32 → Int32 → Int32 → Int32 → Int32 → Int32 → MH → Prop
  | 0, _, _, _, _, _, _, _, _, _, _ => False
  | n + 1, x0, x1, x2, x3, x4, x5, x6, x7, x8, h => (nI 2 ≤ x8 → K39 x0 x1 x2 x3 x4 x5 (x6 + nI 1) h) ∧ (¬ (nI 2 ≤ x8) → hS h x1 = (1, 4) ∧ wX4_pathOf x1 x4 x3 x8 h (fun r11 h12 => (r11 = 0 → wX7_firstFree_59 Q K3 K39 n x0 x1 x2 x3 x4 x5 x6 x7 (x8 + nI 1) h12) ∧ (¬ (r11 = 0) → hS h12 x2 = (1, 6) ∧ hS h12 x0 = (1, 7) ∧ ∃ a15, hR h12 x0 0 = some a15 ∧ ∃ n18, hS h12 a15 = (2, n18) ∧ vp_in (x7) n18 ∧ (¬ ((r11 &&& (hI h12 x2 1 ||| hI h12 a15 (x7).toNatClampNeg)) = 0) → wX7_firstFree_59 Q K3 K39 n x0 x1 x2 x3 x4 x5 x6 x7 (x8 + nI 1) h12) ∧ ((r11 &&& (hI h12 x2 1 ||| hI h12 a15 (x7).toNatClampNeg)) = 0 → vp_in (x7) n18 ∧ vp_in (x7) n18 ∧ ∀ h22, h22 = sI h12 a15 (x7).toNatClampNeg ((hI h12 a15 (x7).toNatClampNeg ||| r11)) → wX6_placeOf x7 r11 h22 (fun r23 h24 => Q (r23) h24)))))
set_option maxHeartbeats 4000000 in
set_option maxRecDepth 100000 in
theorem tX7_firstFree_59 {Q : Int32 → MH → Prop} {K3 : Nat → Nat → Nat → Int32 → Int32 → MH → Prop} {K39 : Nat → Nat → Nat → Int32 → Int32 → Int32 → Int32 → MH → Prop} (hK3 : ∀ (h : MH) (x0 : Nat) (x1 : Nat) (x2 : Nat) (x3 : Int32) (x4 : Int32), K3 x0 x1 x2 x3 x4 h → Wm MX7_firstFree 1 0 0 3 [some (.ref (x0)), some (.ref (x1)), some (.ref (x2)), some (.int (x3)), some (.int (x4)), none, none, none, none, none] [] h (pI Q)) (hK39 : ∀ (h : MH) (x0 : Nat) (x1 : Nat) (x2 : Nat) (x3 : Int32) (x4 : Int32) (x5 : Int32) (x6 : Int32), K39 x0 x1 x2 x3 x4 x5 x6 h → Wm MX7_firstFree 1 0 0 39 [some (.ref (x0)), some (.ref (x1)), some (.ref (x2)), some (.int (x3)), some (.int (x4)), some (.int (x5)), some (.int (x6)), none, none, none] [] h (pI Q)) : ∀ (n : Nat) (h : MH) (x0 : Nat) (x1 : Nat) (x2 : Nat) (x3 : Int32) (x4 : Int32) (x5 : Int32) (x6 : Int32) (x7 : Int32) (x8 : Int32), wX7_firstFree_59 Q K3 K39 n x0 x1 x2 x3 x4 x5 x6 x7 x8 h → Wm MX7_firstFree 1 0 0 59 [some (.ref (x0)), some (.ref (x1)), some (.ref (x2)), some (.int (x3)), some (.int (x4)), some (.int (x5)), some (.int (x6)), some (.int (x7)), some (.int (x8)), none] [] h (pI Q) := by
  intro n
  induction n with
  | zero => intro h x0 x1 x2 x3 x4 x5 x6 x7 x8 hw; exact hw.elim
  | succ n ih =>
    intro h x0 x1 x2 x3 x4 x5 x6 x7 x8 hw
    unfold wX7_firstFree_59 at hw
    refine q_iload eX7_firstFree_59 rfl ?_
    refine q_iconst (v := nI 2) eX7_firstFree_61 (by decide) ?_
    obtain ⟨hw1, hw2⟩ := hw
    refine q_icmp_ge (tgt := 125) eX7_firstFree_62 (by decide) (fun c => ?_) (fun c => ?_)
    · have hw := hw1 c
      refine x_iinc (v := (x6 + nI 1)) (ls' := [_, _, _, _, _, _, _, _, _, _]) eX7_firstFree_125 rfl rfl rfl rfl ?_
      refine q_goto (tgt := 39) eX7_firstFree_128 (by decide) ?_
      refine q_le (ls' := [some _, some _, some _, some _, some _, some _, some _, none, none, none]) ⟨rfl, rfl, rfl, rfl, rfl, rfl, rfl, trivial⟩ ?_
      exact hK39 _ _ _ _ _ _ _ _ hw
    · have hw := hw2 c
      refine q_aload_nr eX7_firstFree_65 rfl ?_
      refine q_iload eX7_firstFree_66 rfl ?_
      refine q_iload_n eX7_firstFree_68 rfl ?_
      refine q_iload eX7_firstFree_69 rfl ?_
      obtain ⟨hs10, hw⟩ := hw
      refine q_callV (b := 0) (t := 0) (gX4_pathOf _ _ _ _ _ _ hw) mlX7_110 kX4_pathOf vX4_pathOf rfl hs10 ⟨rfl, rfl⟩ (by decide) rfl (Nat.le_of_ble_eq_true rfl) eX7_firstFree_71 (kI fun r11 h12 hw => ?_)
      refine x_istore (ls' := [_, _, _, _, _, _, _, _, _, _]) eX7_firstFree_74 (by decide) rfl rfl ?_
      refine q_iload eX7_firstFree_76 rfl ?_
      obtain ⟨hw1, hw2⟩ := hw
      refine q_if_eq (tgt := 119) eX7_firstFree_78 (by decide) (fun c => ?_) (fun c => ?_)
      · have hw := hw1 c
        refine x_iinc (v := (x8 + nI 1)) (ls' := [_, _, _, _, _, _, _, _, _, _]) eX7_firstFree_119 rfl rfl rfl rfl ?_
        refine q_goto (tgt := 59) eX7_firstFree_122 (by decide) ?_
        refine q_le (ls' := [some _, some _, some _, some _, some _, some _, some _, some _, some _, none]) ⟨rfl, rfl, rfl, rfl, rfl, rfl, rfl, rfl, rfl, trivial⟩ ?_
        exact ih _ _ _ _ _ _ _ _ _ _ hw
      · have hw := hw2 c
        refine q_iload eX7_firstFree_81 rfl ?_
        refine q_aload_nr eX7_firstFree_83 rfl ?_
        obtain ⟨hs13, hw⟩ := hw
        refine q_getI flX7_44 rfl hs13 eX7_firstFree_84 ?_
        refine q_aload_nr eX7_firstFree_87 rfl ?_
        obtain ⟨hs14, hw⟩ := hw
        obtain ⟨a15, hr16, hw⟩ := hw
        refine q_getR flX7_9 rfl hs14 hr16 eX7_firstFree_88 ?_
        refine q_iload eX7_firstFree_91 rfl ?_
        obtain ⟨n18, hs17, hw⟩ := hw
        obtain ⟨hi19, hw⟩ := hw
        refine q_iald hs17 hi19 eX7_firstFree_93 ?_
        refine q_ior eX7_firstFree_94 ?_
        refine q_iand eX7_firstFree_95 ?_
        obtain ⟨hw1, hw2⟩ := hw
        refine q_if_ne (tgt := 119) eX7_firstFree_96 (by decide) (fun c => ?_) (fun c => ?_)
        · have hw := hw1 c
          refine x_iinc (v := (x8 + nI 1)) (ls' := [_, _, _, _, _, _, _, _, _, _]) eX7_firstFree_119 rfl rfl rfl rfl ?_
          refine q_goto (tgt := 59) eX7_firstFree_122 (by decide) ?_
          refine q_le (ls' := [some _, some _, some _, some _, some _, some _, some _, some _, some _, none]) ⟨rfl, rfl, rfl, rfl, rfl, rfl, rfl, rfl, rfl, trivial⟩ ?_
          exact ih _ _ _ _ _ _ _ _ _ _ hw
        · have hw := hw2 c
          refine q_aload_nr eX7_firstFree_99 rfl ?_
          refine q_getR flX7_9 rfl hs14 hr16 eX7_firstFree_100 ?_
          refine q_iload eX7_firstFree_103 rfl ?_
          refine q_dup2 eX7_firstFree_105 rfl rfl ?_
          obtain ⟨hi20, hw⟩ := hw
          refine q_iald hs17 hi20 eX7_firstFree_106 ?_
          refine q_iload eX7_firstFree_107 rfl ?_
          refine q_ior eX7_firstFree_109 ?_
          obtain ⟨hi21, hw⟩ := hw
          have hw := hw _ rfl
          refine q_iast hs17 hi21 eX7_firstFree_110 ?_
          refine q_iload eX7_firstFree_111 rfl ?_
          refine q_iload eX7_firstFree_113 rfl ?_
          refine q_callS (b := 0) (t := 0) (gX6_placeOf _ _ _ _ hw) mlX7_114 kX6_placeOf sX6_placeOf rfl (by decide) rfl (Nat.le_of_ble_eq_true rfl) eX7_firstFree_115 (kI fun r23 h24 hw => ?_)
          exact q_ret rfl eX7_firstFree_118 ⟨_, rfl, hw⟩
def wX7_firstFree_39 (Q : Int32 → MH → Prop) (K3 : Nat → Nat → Nat → Int32 → Int32 → MH → Prop) : Nat → Nat → Nat → Nat → Int32 → Int32 → Int32 → Int32 → MH → Prop
  | 0, _, _, _, _, _, _, _, _ => False
  | n + 1, x0, x1, x2, x3, x4, x5, x6, h => (x5 ≤ x6 → K3 x0 x1 x2 x3 (x4 + nI 1) h) ∧ (¬ (x5 ≤ x6) → ∃ m25, wX7_firstFree_59 Q K3 (wX7_firstFree_39 Q K3 n) m25 x0 x1 x2 x3 x4 x5 x6 ((x4 * nI 9) + x6) (nI 0) h)
set_option maxHeartbeats 4000000 in
set_option maxRecDepth 100000 in
theorem tX7_firstFree_39 {Q : Int32 → MH → Prop} {K3 : Nat → Nat → Nat → Int32 → Int32 → MH → Prop} (hK3 : ∀ (h : MH) (x0 : Nat) (x1 : Nat) (x2 : Nat) (x3 : Int32) (x4 : Int32), K3 x0 x1 x2 x3 x4 h → Wm MX7_firstFree 1 0 0 3 [some (.ref (x0)), some (.ref (x1)), some (.ref (x2)), some (.int (x3)), some (.int (x4)), none, none, none, none, none] [] h (pI Q)) : ∀ (n : Nat) (h : MH) (x0 : Nat) (x1 : Nat) (x2 : Nat) (x3 : Int32) (x4 : Int32) (x5 : Int32) (x6 : Int32), wX7_firstFree_39 Q K3 n x0 x1 x2 x3 x4 x5 x6 h → Wm MX7_firstFree 1 0 0 39 [some (.ref (x0)), some (.ref (x1)), some (.ref (x2)), some (.int (x3)), some (.int (x4)), some (.int (x5)), some (.int (x6)), none, none, none] [] h (pI Q) := by
  intro n
  induction n with
  | zero => intro h x0 x1 x2 x3 x4 x5 x6 hw; exact hw.elim
  | succ n ih =>
    intro h x0 x1 x2 x3 x4 x5 x6 hw
    unfold wX7_firstFree_39 at hw
    refine q_iload eX7_firstFree_39 rfl ?_
    refine q_iload eX7_firstFree_41 rfl ?_
    obtain ⟨hw1, hw2⟩ := hw
    refine q_icmp_ge (tgt := 131) eX7_firstFree_43 (by decide) (fun c => ?_) (fun c => ?_)
    · have hw := hw1 c
      refine x_iinc (v := (x4 + nI 1)) (ls' := [_, _, _, _, _, _, _, _, _, _]) eX7_firstFree_131 rfl rfl rfl rfl ?_
      refine q_goto (tgt := 3) eX7_firstFree_134 (by decide) ?_
      refine q_le (ls' := [some _, some _, some _, some _, some _, none, none, none, none, none]) ⟨rfl, rfl, rfl, rfl, rfl, trivial⟩ ?_
      exact hK3 _ _ _ _ _ _ hw
    · have hw := hw2 c
      refine q_iload eX7_firstFree_46 rfl ?_
      refine q_bipush (v := nI 9) eX7_firstFree_48 (by decide) ?_
      refine q_imul eX7_firstFree_50 ?_
      refine q_iload eX7_firstFree_51 rfl ?_
      refine q_iadd eX7_firstFree_53 ?_
      refine x_istore (ls' := [_, _, _, _, _, _, _, _, _, _]) eX7_firstFree_54 (by decide) rfl rfl ?_
      refine q_iconst (v := nI 0) eX7_firstFree_56 (by decide) ?_
      refine x_istore (ls' := [_, _, _, _, _, _, _, _, _, _]) eX7_firstFree_57 (by decide) rfl rfl ?_
      refine q_le (ls' := [some _, some _, some _, some _, some _, some _, some _, some _, some _, none]) ⟨rfl, rfl, rfl, rfl, rfl, rfl, rfl, rfl, rfl, trivial⟩ ?_
      obtain ⟨m25, hw⟩ := hw
      exact tX7_firstFree_59 hK3 ih m25 _ _ _ _ _ _ _ _ _ _ hw
def wX7_firstFree_3 (Q : Int32 → MH → Prop) : Nat → Nat → Nat → Nat → Int32 → Int32 → MH → Prop
  | 0, _, _, _, _, _, _ => False
  | n + 1, x0, x1, x2, x3, x4, h => hS h x1 = (1, 4) ∧ (hI h x1 10 ≤ x4 → Q ((-1 : Int32)) h) ∧ (¬ (hI h x1 10 ≤ x4) → wX4_pathOf x1 x4 x3 (nI 0) h (fun r2 h3 => (¬ (r2 = 0) → hS h3 x2 = (1, 6) ∧ ∃ a5, hR h3 x2 2 = some a5 ∧ ∃ n8, hS h3 a5 = (2, n8) ∧ vp_in (x4) n8 ∧ ∃ m26, wX7_firstFree_39 Q (wX7_firstFree_3 Q n) m26 x0 x1 x2 x3 x4 (hI h3 a5 (x4).toNatClampNeg) (nI 0) h3) ∧ (r2 = 0 → ∃ m27, wX7_firstFree_39 Q (wX7_firstFree_3 Q n) m27 x0 x1 x2 x3 x4 (nI 0) (nI 0) h3)))
set_option maxHeartbeats 4000000 in
set_option maxRecDepth 100000 in
theorem tX7_firstFree_3 {Q : Int32 → MH → Prop} : ∀ (n : Nat) (h : MH) (x0 : Nat) (x1 : Nat) (x2 : Nat) (x3 : Int32) (x4 : Int32), wX7_firstFree_3 Q n x0 x1 x2 x3 x4 h → Wm MX7_firstFree 1 0 0 3 [some (.ref (x0)), some (.ref (x1)), some (.ref (x2)), some (.int (x3)), some (.int (x4)), none, none, none, none, none] [] h (pI Q) := by
  intro n
  induction n with
  | zero => intro h x0 x1 x2 x3 x4 hw; exact hw.elim
  | succ n ih =>
    intro h x0 x1 x2 x3 x4 hw
    unfold wX7_firstFree_3 at hw
    refine q_iload eX7_firstFree_3 rfl ?_
    refine q_aload_nr eX7_firstFree_5 rfl ?_
    obtain ⟨hs1, hw⟩ := hw
    refine q_getI flX7_107 rfl hs1 eX7_firstFree_6 ?_
    obtain ⟨hw1, hw2⟩ := hw
    refine q_icmp_ge (tgt := 137) eX7_firstFree_9 (by decide) (fun c => ?_) (fun c => ?_)
    · have hw := hw1 c
      refine q_iconst (v := (-1 : Int32)) eX7_firstFree_137 (by decide) ?_
      exact q_ret rfl eX7_firstFree_138 ⟨_, rfl, hw⟩
    · have hw := hw2 c
      refine q_aload_nr eX7_firstFree_12 rfl ?_
      refine q_iload eX7_firstFree_13 rfl ?_
      refine q_iload_n eX7_firstFree_15 rfl ?_
      refine q_iconst (v := nI 0) eX7_firstFree_16 (by decide) ?_
      refine q_callV (b := 0) (t := 0) (gX4_pathOf _ _ _ _ _ _ hw) mlX7_110 kX4_pathOf vX4_pathOf rfl hs1 ⟨rfl, rfl⟩ (by decide) rfl (Nat.le_of_ble_eq_true rfl) eX7_firstFree_17 (kI fun r2 h3 hw => ?_)
      obtain ⟨hw1, hw2⟩ := hw
      refine q_if_ne (tgt := 27) eX7_firstFree_20 (by decide) (fun c => ?_) (fun c => ?_)
      · have hw := hw1 c
        refine q_aload_nr eX7_firstFree_27 rfl ?_
        obtain ⟨hs4, hw⟩ := hw
        obtain ⟨a5, hr6, hw⟩ := hw
        refine q_getR flX7_27 rfl hs4 hr6 eX7_firstFree_28 ?_
        refine q_iload eX7_firstFree_31 rfl ?_
        obtain ⟨n8, hs7, hw⟩ := hw
        obtain ⟨hi9, hw⟩ := hw
        refine q_iald hs7 hi9 eX7_firstFree_33 ?_
        refine x_istore (ls' := [_, _, _, _, _, _, _, _, _, _]) eX7_firstFree_34 (by decide) rfl rfl ?_
        refine q_iconst (v := nI 0) eX7_firstFree_36 (by decide) ?_
        refine x_istore (ls' := [_, _, _, _, _, _, _, _, _, _]) eX7_firstFree_37 (by decide) rfl rfl ?_
        refine q_le (ls' := [some _, some _, some _, some _, some _, some _, some _, none, none, none]) ⟨rfl, rfl, rfl, rfl, rfl, rfl, rfl, trivial⟩ ?_
        obtain ⟨m26, hw⟩ := hw
        exact tX7_firstFree_39 ih m26 _ _ _ _ _ _ _ _ hw
      · have hw := hw2 c
        refine q_iconst (v := nI 0) eX7_firstFree_23 (by decide) ?_
        refine q_goto (tgt := 34) eX7_firstFree_24 (by decide) ?_
        refine x_istore (ls' := [_, _, _, _, _, _, _, _, _, _]) eX7_firstFree_34 (by decide) rfl rfl ?_
        refine q_iconst (v := nI 0) eX7_firstFree_36 (by decide) ?_
        refine x_istore (ls' := [_, _, _, _, _, _, _, _, _, _]) eX7_firstFree_37 (by decide) rfl rfl ?_
        refine q_le (ls' := [some _, some _, some _, some _, some _, some _, some _, none, none, none]) ⟨rfl, rfl, rfl, rfl, rfl, rfl, rfl, trivial⟩ ?_
        obtain ⟨m27, hw⟩ := hw
        exact tX7_firstFree_39 ih m27 _ _ _ _ _ _ _ _ hw
def wX7_firstFree (x0 : Nat) (x1 : Nat) (x2 : Nat) (x3 : Int32) (h : MH) (Q : Int32 → MH → Prop) : Prop := ∃ m28, wX7_firstFree_3 Q m28 x0 x1 x2 x3 (nI 0) h
set_option maxHeartbeats 4000000 in
set_option maxRecDepth 100000 in
theorem gX7_firstFree (x0 : Nat) (x1 : Nat) (x2 : Nat) (x3 : Int32) (h : MH) (Q : Int32 → MH → Prop) (hw : wX7_firstFree x0 x1 x2 x3 h Q) : Cm MX7_firstFree 1 0 0 [.ref (x0), .ref (x1), .ref (x2), .int (x3)] h (pI Q) := by
  refine cm_of [some (.ref (x0)), some (.ref (x1)), some (.ref (x2)), some (.int (x3)), none, none, none, none, none, none] rfl pnX7 (Nat.le_of_ble_eq_true rfl) rfl ?_
  unfold wX7_firstFree at hw
  refine q_iconst (v := nI 0) eX7_firstFree_0 (by decide) ?_
  refine x_istore (ls' := [_, _, _, _, _, _, _, _, _, _]) eX7_firstFree_1 (by decide) rfl rfl ?_
  refine q_le (ls' := [some _, some _, some _, some _, some _, none, none, none, none, none]) ⟨rfl, rfl, rfl, rfl, rfl, trivial⟩ ?_
  obtain ⟨m28, hw⟩ := hw
  exact tX7_firstFree_3 m28 _ _ _ _ _ _ hw
def wX7_tryLost_135 (Q : MH → Prop) : Nat → Nat → Nat → Int32 → MH → Prop
  | 0, _, _, _, _ => False
  | n + 1, x0, x2, x3, h => (nI 20 ≤ x3 → Q h) ∧ (¬ (nI 20 ≤ x3) → hS h x2 = (1, 6) ∧ ∃ a4, hR h x2 3 = some a4 ∧ ∃ n7, hS h a4 = (2, n7) ∧ vp_in (x3) n7 ∧ (hI h a4 (x3).toNatClampNeg < 0 → wX7_tryLost_135 Q n x0 x2 (x3 + nI 1) h) ∧ (¬ (hI h a4 (x3).toNatClampNeg < 0) → hS h x0 = (1, 7) ∧ ∃ a10, hR h x0 0 = some a10 ∧ vp_in (x3) n7 ∧ ∃ n14, hS h a10 = (2, n14) ∧ vp_in ((hI h a4 (x3).toNatClampNeg >>> (nI 10 &&& 31))) n14 ∧ ∀ h16, h16 = sI h a10 ((hI h a4 (x3).toNatClampNeg >>> (nI 10 &&& 31))).toNatClampNeg (nI 0) → wX7_tryLost_135 Q n x0 x2 (x3 + nI 1) h16))
set_option maxHeartbeats 4000000 in
set_option maxRecDepth 100000 in
theorem tX7_tryLost_135 {Q : MH → Prop} : ∀ (n : Nat) (h : MH) (x0 : Nat) (x2 : Nat) (x3 : Int32), wX7_tryLost_135 Q n x0 x2 x3 h → Wm MX7_tryLost 2 0 0 135 [some (.ref (x0)), none, some (.ref (x2)), some (.int (x3)), none] [] h (pV Q) := by
  intro n
  induction n with
  | zero => intro h x0 x2 x3 hw; exact hw.elim
  | succ n ih =>
    intro h x0 x2 x3 hw
    unfold wX7_tryLost_135 at hw
    refine q_iload_n eX7_tryLost_135 rfl ?_
    refine q_bipush (v := nI 20) eX7_tryLost_136 (by decide) ?_
    obtain ⟨hw1, hw2⟩ := hw
    refine q_icmp_ge (tgt := 171) eX7_tryLost_138 (by decide) (fun c => ?_) (fun c => ?_)
    · have hw := hw1 c
      exact q_retV rfl eX7_tryLost_171 ⟨rfl, hw⟩
    · have hw := hw2 c
      refine q_aload_nr eX7_tryLost_141 rfl ?_
      obtain ⟨hs3, hw⟩ := hw
      obtain ⟨a4, hr5, hw⟩ := hw
      refine q_getR flX7_34 rfl hs3 hr5 eX7_tryLost_142 ?_
      refine q_iload_n eX7_tryLost_145 rfl ?_
      obtain ⟨n7, hs6, hw⟩ := hw
      obtain ⟨hi8, hw⟩ := hw
      refine q_iald hs6 hi8 eX7_tryLost_146 ?_
      obtain ⟨hw1, hw2⟩ := hw
      refine q_if_lt (tgt := 165) eX7_tryLost_147 (by decide) (fun c => ?_) (fun c => ?_)
      · have hw := hw1 c
        refine x_iinc (v := (x3 + nI 1)) (ls' := [_, _, _, _, _]) eX7_tryLost_165 rfl rfl rfl rfl ?_
        refine q_goto (tgt := 135) eX7_tryLost_168 (by decide) ?_
        refine q_le (ls' := [some _, none, some _, some _, none]) ⟨rfl, rfl, rfl, trivial⟩ ?_
        exact ih _ _ _ _ hw
      · have hw := hw2 c
        refine q_aload_nr eX7_tryLost_150 rfl ?_
        obtain ⟨hs9, hw⟩ := hw
        obtain ⟨a10, hr11, hw⟩ := hw
        refine q_getR flX7_9 rfl hs9 hr11 eX7_tryLost_151 ?_
        refine q_aload_nr eX7_tryLost_154 rfl ?_
        refine q_getR flX7_34 rfl hs3 hr5 eX7_tryLost_155 ?_
        refine q_iload_n eX7_tryLost_158 rfl ?_
        obtain ⟨hi12, hw⟩ := hw
        refine q_iald hs6 hi12 eX7_tryLost_159 ?_
        refine q_bipush (v := nI 10) eX7_tryLost_160 (by decide) ?_
        refine q_ishr eX7_tryLost_162 ?_
        refine q_iconst (v := nI 0) eX7_tryLost_163 (by decide) ?_
        obtain ⟨n14, hs13, hw⟩ := hw
        obtain ⟨hi15, hw⟩ := hw
        have hw := hw _ rfl
        refine q_iast hs13 hi15 eX7_tryLost_164 ?_
        refine x_iinc (v := (x3 + nI 1)) (ls' := [_, _, _, _, _]) eX7_tryLost_165 rfl rfl rfl rfl ?_
        refine q_goto (tgt := 135) eX7_tryLost_168 (by decide) ?_
        refine q_le (ls' := [some _, none, some _, some _, none]) ⟨rfl, rfl, rfl, trivial⟩ ?_
        exact ih _ _ _ _ hw
def wX7_tryLost_70 (Q : MH → Prop) (K59 : Nat → Nat → Nat → Int32 → MH → Prop) : Nat → Nat → Nat → Nat → Int32 → Int32 → MH → Prop
  | 0, _, _, _, _, _, _ => False
  | n + 1, x0, x1, x2, x3, x4, h => hS h x1 = (1, 4) ∧ ∃ a19, hR h x1 7 = some a19 ∧ ∃ n22, hS h a19 = (2, n22) ∧ vp_in (x3) n22 ∧ (hI h a19 (x3).toNatClampNeg ≤ x4 → K59 x0 x1 x2 (x3 + nI 1) h) ∧ (¬ (hI h a19 (x3).toNatClampNeg ≤ x4) → hS h x2 = (1, 6) ∧ wX6_hasFailed x2 x3 h (fun r25 h26 => (r25 = 0 → K59 x0 x1 x2 (x3 + nI 1) h26) ∧ (¬ (r25 = 0) → hS h26 x2 = (1, 6) ∧ ∃ a28, hR h26 x2 3 = some a28 ∧ ∃ n31, hS h26 a28 = (2, n31) ∧ vp_in (((x3 * nI 2) + x4)) n31 ∧ (0 ≤ hI h26 a28 (((x3 * nI 2) + x4)).toNatClampNeg → wX7_tryLost_70 Q K59 n x0 x1 x2 x3 (x4 + nI 1) h26) ∧ (¬ (0 ≤ hI h26 a28 (((x3 * nI 2) + x4)).toNatClampNeg) → hS h26 x0 = (1, 7) ∧ wX7_firstFree x0 x1 x2 x3 h26 (fun r34 h35 => ∃ n37, hS h35 a28 = (2, n37) ∧ vp_in (((x3 * nI 2) + x4)) n37 ∧ ∀ h39, h39 = sI h35 a28 (((x3 * nI 2) + x4)).toNatClampNeg (r34) → wX7_tryLost_70 Q K59 n x0 x1 x2 x3 (x4 + nI 1) h39)))))
set_option maxHeartbeats 4000000 in
set_option maxRecDepth 100000 in
theorem tX7_tryLost_70 {Q : MH → Prop} {K59 : Nat → Nat → Nat → Int32 → MH → Prop} (hK59 : ∀ (h : MH) (x0 : Nat) (x1 : Nat) (x2 : Nat) (x3 : Int32), K59 x0 x1 x2 x3 h → Wm MX7_tryLost 2 0 0 59 [some (.ref (x0)), some (.ref (x1)), some (.ref (x2)), some (.int (x3)), none] [] h (pV Q)) : ∀ (n : Nat) (h : MH) (x0 : Nat) (x1 : Nat) (x2 : Nat) (x3 : Int32) (x4 : Int32), wX7_tryLost_70 Q K59 n x0 x1 x2 x3 x4 h → Wm MX7_tryLost 2 0 0 70 [some (.ref (x0)), some (.ref (x1)), some (.ref (x2)), some (.int (x3)), some (.int (x4))] [] h (pV Q) := by
  intro n
  induction n with
  | zero => intro h x0 x1 x2 x3 x4 hw; exact hw.elim
  | succ n ih =>
    intro h x0 x1 x2 x3 x4 hw
    unfold wX7_tryLost_70 at hw
    refine q_iload eX7_tryLost_70 rfl ?_
    refine q_aload_nr eX7_tryLost_72 rfl ?_
    obtain ⟨hs18, hw⟩ := hw
    obtain ⟨a19, hr20, hw⟩ := hw
    refine q_getR flX7_101 rfl hs18 hr20 eX7_tryLost_73 ?_
    refine q_iload_n eX7_tryLost_76 rfl ?_
    obtain ⟨n22, hs21, hw⟩ := hw
    obtain ⟨hi23, hw⟩ := hw
    refine q_iald hs21 hi23 eX7_tryLost_77 ?_
    obtain ⟨hw1, hw2⟩ := hw
    refine q_icmp_ge (tgt := 127) eX7_tryLost_78 (by decide) (fun c => ?_) (fun c => ?_)
    · have hw := hw1 c
      refine x_iinc (v := (x3 + nI 1)) (ls' := [_, _, _, _, _]) eX7_tryLost_127 rfl rfl rfl rfl ?_
      refine q_goto (tgt := 59) eX7_tryLost_130 (by decide) ?_
      refine q_le (ls' := [some _, some _, some _, some _, none]) ⟨rfl, rfl, rfl, rfl, trivial⟩ ?_
      exact hK59 _ _ _ _ _ hw
    · have hw := hw2 c
      refine q_aload_nr eX7_tryLost_81 rfl ?_
      refine q_iload_n eX7_tryLost_82 rfl ?_
      obtain ⟨hs24, hw⟩ := hw
      refine q_callV (b := 0) (t := 0) (gX6_hasFailed _ _ _ _ hw) mlX7_41 kX6_hasFailed vX6_hasFailed rfl hs24 ⟨rfl, rfl⟩ (by decide) rfl (Nat.le_of_ble_eq_true rfl) eX7_tryLost_83 (kI fun r25 h26 hw => ?_)
      obtain ⟨hw1, hw2⟩ := hw
      refine q_if_eq (tgt := 127) eX7_tryLost_86 (by decide) (fun c => ?_) (fun c => ?_)
      · have hw := hw1 c
        refine x_iinc (v := (x3 + nI 1)) (ls' := [_, _, _, _, _]) eX7_tryLost_127 rfl rfl rfl rfl ?_
        refine q_goto (tgt := 59) eX7_tryLost_130 (by decide) ?_
        refine q_le (ls' := [some _, some _, some _, some _, none]) ⟨rfl, rfl, rfl, rfl, trivial⟩ ?_
        exact hK59 _ _ _ _ _ hw
      · have hw := hw2 c
        refine q_aload_nr eX7_tryLost_89 rfl ?_
        obtain ⟨hs27, hw⟩ := hw
        obtain ⟨a28, hr29, hw⟩ := hw
        refine q_getR flX7_34 rfl hs27 hr29 eX7_tryLost_90 ?_
        refine q_iload_n eX7_tryLost_93 rfl ?_
        refine q_iconst (v := nI 2) eX7_tryLost_94 (by decide) ?_
        refine q_imul eX7_tryLost_95 ?_
        refine q_iload eX7_tryLost_96 rfl ?_
        refine q_iadd eX7_tryLost_98 ?_
        obtain ⟨n31, hs30, hw⟩ := hw
        obtain ⟨hi32, hw⟩ := hw
        refine q_iald hs30 hi32 eX7_tryLost_99 ?_
        obtain ⟨hw1, hw2⟩ := hw
        refine q_if_ge (tgt := 121) eX7_tryLost_100 (by decide) (fun c => ?_) (fun c => ?_)
        · have hw := hw1 c
          refine x_iinc (v := (x4 + nI 1)) (ls' := [_, _, _, _, _]) eX7_tryLost_121 rfl rfl rfl rfl ?_
          refine q_goto (tgt := 70) eX7_tryLost_124 (by decide) ?_
          refine q_le (ls' := [some _, some _, some _, some _, some _]) ⟨rfl, rfl, rfl, rfl, rfl, trivial⟩ ?_
          exact ih _ _ _ _ _ _ hw
        · have hw := hw2 c
          refine q_aload_nr eX7_tryLost_103 rfl ?_
          refine q_getR flX7_34 rfl hs27 hr29 eX7_tryLost_104 ?_
          refine q_iload_n eX7_tryLost_107 rfl ?_
          refine q_iconst (v := nI 2) eX7_tryLost_108 (by decide) ?_
          refine q_imul eX7_tryLost_109 ?_
          refine q_iload eX7_tryLost_110 rfl ?_
          refine q_iadd eX7_tryLost_112 ?_
          refine q_aload_nr eX7_tryLost_113 rfl ?_
          refine q_aload_nr eX7_tryLost_114 rfl ?_
          refine q_aload_nr eX7_tryLost_115 rfl ?_
          refine q_iload_n eX7_tryLost_116 rfl ?_
          obtain ⟨hs33, hw⟩ := hw
          refine q_callV (b := 0) (t := 0) (gX7_firstFree _ _ _ _ _ _ hw) mlX7_104 kX7_firstFree vX7_firstFree rfl hs33 ⟨rfl, rfl⟩ (by decide) rfl (Nat.le_of_ble_eq_true rfl) eX7_tryLost_117 (kI fun r34 h35 hw => ?_)
          obtain ⟨n37, hs36, hw⟩ := hw
          obtain ⟨hi38, hw⟩ := hw
          have hw := hw _ rfl
          refine q_iast hs36 hi38 eX7_tryLost_120 ?_
          refine x_iinc (v := (x4 + nI 1)) (ls' := [_, _, _, _, _]) eX7_tryLost_121 rfl rfl rfl rfl ?_
          refine q_goto (tgt := 70) eX7_tryLost_124 (by decide) ?_
          refine q_le (ls' := [some _, some _, some _, some _, some _]) ⟨rfl, rfl, rfl, rfl, rfl, trivial⟩ ?_
          exact ih _ _ _ _ _ _ hw
def wX7_tryLost_59 (Q : MH → Prop) : Nat → Nat → Nat → Nat → Int32 → MH → Prop
  | 0, _, _, _, _, _ => False
  | n + 1, x0, x1, x2, x3, h => hS h x1 = (1, 4) ∧ (hI h x1 3 ≤ x3 → ∃ m17, wX7_tryLost_135 Q m17 x0 x2 (nI 0) h) ∧ (¬ (hI h x1 3 ≤ x3) → ∃ m40, wX7_tryLost_70 Q (wX7_tryLost_59 Q n) m40 x0 x1 x2 x3 (nI 0) h)
set_option maxHeartbeats 4000000 in
set_option maxRecDepth 100000 in
theorem tX7_tryLost_59 {Q : MH → Prop} : ∀ (n : Nat) (h : MH) (x0 : Nat) (x1 : Nat) (x2 : Nat) (x3 : Int32), wX7_tryLost_59 Q n x0 x1 x2 x3 h → Wm MX7_tryLost 2 0 0 59 [some (.ref (x0)), some (.ref (x1)), some (.ref (x2)), some (.int (x3)), none] [] h (pV Q) := by
  intro n
  induction n with
  | zero => intro h x0 x1 x2 x3 hw; exact hw.elim
  | succ n ih =>
    intro h x0 x1 x2 x3 hw
    unfold wX7_tryLost_59 at hw
    refine q_iload_n eX7_tryLost_59 rfl ?_
    refine q_aload_nr eX7_tryLost_60 rfl ?_
    obtain ⟨hs2, hw⟩ := hw
    refine q_getI flX7_95 rfl hs2 eX7_tryLost_61 ?_
    obtain ⟨hw1, hw2⟩ := hw
    refine q_icmp_ge (tgt := 133) eX7_tryLost_64 (by decide) (fun c => ?_) (fun c => ?_)
    · have hw := hw1 c
      refine q_iconst (v := nI 0) eX7_tryLost_133 (by decide) ?_
      refine x_istore_n (ls' := [_, _, _, _, _]) eX7_tryLost_134 (by decide) rfl rfl ?_
      refine q_le (ls' := [some _, none, some _, some _, none]) ⟨rfl, rfl, rfl, trivial⟩ ?_
      obtain ⟨m17, hw⟩ := hw
      exact tX7_tryLost_135 m17 _ _ _ _ hw
    · have hw := hw2 c
      refine q_iconst (v := nI 0) eX7_tryLost_67 (by decide) ?_
      refine x_istore (ls' := [_, _, _, _, _]) eX7_tryLost_68 (by decide) rfl rfl ?_
      refine q_le (ls' := [some _, some _, some _, some _, some _]) ⟨rfl, rfl, rfl, rfl, rfl, trivial⟩ ?_
      obtain ⟨m40, hw⟩ := hw
      exact tX7_tryLost_70 ih m40 _ _ _ _ _ _ hw
def wX7_tryLost_10 (Q : MH → Prop) : Nat → Nat → Nat → Nat → Int32 → MH → Prop
  | 0, _, _, _, _, _ => False
  | n + 1, x0, x1, x2, x3, h => (nI 20 ≤ x3 → ∃ m41, wX7_tryLost_59 Q m41 x0 x1 x2 (nI 0) h) ∧ (¬ (nI 20 ≤ x3) → hS h x2 = (1, 6) ∧ ∃ a43, hR h x2 3 = some a43 ∧ ∃ n46, hS h a43 = (2, n46) ∧ vp_in (x3) n46 ∧ (hI h a43 (x3).toNatClampNeg < 0 → wX7_tryLost_10 Q n x0 x1 x2 (x3 + nI 1) h) ∧ (¬ (hI h a43 (x3).toNatClampNeg < 0) → hS h x0 = (1, 7) ∧ ∃ a49, hR h x0 0 = some a49 ∧ vp_in (x3) n46 ∧ ∃ n53, hS h a49 = (2, n53) ∧ vp_in ((hI h a43 (x3).toNatClampNeg >>> (nI 10 &&& 31))) n53 ∧ vp_in (x3) n46 ∧ wX6_pathAt (hI h a43 (x3).toNatClampNeg) h (fun r56 h57 => ∃ n59, hS h57 a49 = (2, n59) ∧ vp_in ((hI h a43 (x3).toNatClampNeg >>> (nI 10 &&& 31))) n59 ∧ ∀ h61, h61 = sI h57 a49 ((hI h a43 (x3).toNatClampNeg >>> (nI 10 &&& 31))).toNatClampNeg ((hI h a49 ((hI h a43 (x3).toNatClampNeg >>> (nI 10 &&& 31))).toNatClampNeg ||| r56)) → wX7_tryLost_10 Q n x0 x1 x2 (x3 + nI 1) h61)))
set_option maxHeartbeats 4000000 in
set_option maxRecDepth 100000 in
theorem tX7_tryLost_10 {Q : MH → Prop} : ∀ (n : Nat) (h : MH) (x0 : Nat) (x1 : Nat) (x2 : Nat) (x3 : Int32), wX7_tryLost_10 Q n x0 x1 x2 x3 h → Wm MX7_tryLost 2 0 0 10 [some (.ref (x0)), some (.ref (x1)), some (.ref (x2)), some (.int (x3)), none] [] h (pV Q) := by
  intro n
  induction n with
  | zero => intro h x0 x1 x2 x3 hw; exact hw.elim
  | succ n ih =>
    intro h x0 x1 x2 x3 hw
    unfold wX7_tryLost_10 at hw
    refine q_iload_n eX7_tryLost_10 rfl ?_
    refine q_bipush (v := nI 20) eX7_tryLost_11 (by decide) ?_
    obtain ⟨hw1, hw2⟩ := hw
    refine q_icmp_ge (tgt := 57) eX7_tryLost_13 (by decide) (fun c => ?_) (fun c => ?_)
    · have hw := hw1 c
      refine q_iconst (v := nI 0) eX7_tryLost_57 (by decide) ?_
      refine x_istore_n (ls' := [_, _, _, _, _]) eX7_tryLost_58 (by decide) rfl rfl ?_
      refine q_le (ls' := [some _, some _, some _, some _, none]) ⟨rfl, rfl, rfl, rfl, trivial⟩ ?_
      obtain ⟨m41, hw⟩ := hw
      exact tX7_tryLost_59 m41 _ _ _ _ _ hw
    · have hw := hw2 c
      refine q_aload_nr eX7_tryLost_16 rfl ?_
      obtain ⟨hs42, hw⟩ := hw
      obtain ⟨a43, hr44, hw⟩ := hw
      refine q_getR flX7_34 rfl hs42 hr44 eX7_tryLost_17 ?_
      refine q_iload_n eX7_tryLost_20 rfl ?_
      obtain ⟨n46, hs45, hw⟩ := hw
      obtain ⟨hi47, hw⟩ := hw
      refine q_iald hs45 hi47 eX7_tryLost_21 ?_
      obtain ⟨hw1, hw2⟩ := hw
      refine q_if_lt (tgt := 51) eX7_tryLost_22 (by decide) (fun c => ?_) (fun c => ?_)
      · have hw := hw1 c
        refine x_iinc (v := (x3 + nI 1)) (ls' := [_, _, _, _, _]) eX7_tryLost_51 rfl rfl rfl rfl ?_
        refine q_goto (tgt := 10) eX7_tryLost_54 (by decide) ?_
        refine q_le (ls' := [some _, some _, some _, some _, none]) ⟨rfl, rfl, rfl, rfl, trivial⟩ ?_
        exact ih _ _ _ _ _ hw
      · have hw := hw2 c
        refine q_aload_nr eX7_tryLost_25 rfl ?_
        obtain ⟨hs48, hw⟩ := hw
        obtain ⟨a49, hr50, hw⟩ := hw
        refine q_getR flX7_9 rfl hs48 hr50 eX7_tryLost_26 ?_
        refine q_aload_nr eX7_tryLost_29 rfl ?_
        refine q_getR flX7_34 rfl hs42 hr44 eX7_tryLost_30 ?_
        refine q_iload_n eX7_tryLost_33 rfl ?_
        obtain ⟨hi51, hw⟩ := hw
        refine q_iald hs45 hi51 eX7_tryLost_34 ?_
        refine q_bipush (v := nI 10) eX7_tryLost_35 (by decide) ?_
        refine q_ishr eX7_tryLost_37 ?_
        refine q_dup2 eX7_tryLost_38 rfl rfl ?_
        obtain ⟨n53, hs52, hw⟩ := hw
        obtain ⟨hi54, hw⟩ := hw
        refine q_iald hs52 hi54 eX7_tryLost_39 ?_
        refine q_aload_nr eX7_tryLost_40 rfl ?_
        refine q_getR flX7_34 rfl hs42 hr44 eX7_tryLost_41 ?_
        refine q_iload_n eX7_tryLost_44 rfl ?_
        obtain ⟨hi55, hw⟩ := hw
        refine q_iald hs45 hi55 eX7_tryLost_45 ?_
        refine q_callS (b := 0) (t := 0) (gX6_pathAt _ _ _ hw) mlX7_47 kX6_pathAt sX6_pathAt rfl (by decide) rfl (Nat.le_of_ble_eq_true rfl) eX7_tryLost_46 (kI fun r56 h57 hw => ?_)
        refine q_ior eX7_tryLost_49 ?_
        obtain ⟨n59, hs58, hw⟩ := hw
        obtain ⟨hi60, hw⟩ := hw
        have hw := hw _ rfl
        refine q_iast hs58 hi60 eX7_tryLost_50 ?_
        refine x_iinc (v := (x3 + nI 1)) (ls' := [_, _, _, _, _]) eX7_tryLost_51 rfl rfl rfl rfl ?_
        refine q_goto (tgt := 10) eX7_tryLost_54 (by decide) ?_
        refine q_le (ls' := [some _, some _, some _, some _, none]) ⟨rfl, rfl, rfl, rfl, trivial⟩ ?_
        exact ih _ _ _ _ _ hw
def wX7_tryLost (x0 : Nat) (x1 : Nat) (x2 : Nat) (h : MH) (Q : MH → Prop) : Prop := hS h x2 = (1, 6) ∧ (¬ (hI h x2 1 = 0) → ∃ m62, wX7_tryLost_10 Q m62 x0 x1 x2 (nI 0) h) ∧ (hI h x2 1 = 0 → Q h)
set_option maxHeartbeats 4000000 in
set_option maxRecDepth 100000 in
theorem gX7_tryLost (x0 : Nat) (x1 : Nat) (x2 : Nat) (h : MH) (Q : MH → Prop) (hw : wX7_tryLost x0 x1 x2 h Q) : Cm MX7_tryLost 2 0 0 [.ref (x0), .ref (x1), .ref (x2)] h (pV Q) := by
  refine cm_of [some (.ref (x0)), some (.ref (x1)), some (.ref (x2)), none, none] rfl pnX7 (Nat.le_of_ble_eq_true rfl) rfl ?_
  unfold wX7_tryLost at hw
  refine q_aload_nr eX7_tryLost_0 rfl ?_
  obtain ⟨hs1, hw⟩ := hw
  refine q_getI flX7_44 rfl hs1 eX7_tryLost_1 ?_
  obtain ⟨hw1, hw2⟩ := hw
  refine q_if_ne (tgt := 8) eX7_tryLost_4 (by decide) (fun c => ?_) (fun c => ?_)
  · have hw := hw1 c
    refine q_iconst (v := nI 0) eX7_tryLost_8 (by decide) ?_
    refine x_istore_n (ls' := [_, _, _, _, _]) eX7_tryLost_9 (by decide) rfl rfl ?_
    refine q_le (ls' := [some _, some _, some _, some _, none]) ⟨rfl, rfl, rfl, rfl, trivial⟩ ?_
    obtain ⟨m62, hw⟩ := hw
    exact tX7_tryLost_10 m62 _ _ _ _ _ hw
  · have hw := hw2 c
    exact q_retV rfl eX7_tryLost_7 ⟨rfl, hw⟩
def wX7_layCopy (x0 : Nat) (x1 : Nat) (x2 : Nat) (x3 : Int32) (h : MH) (Q : Int32 → MH → Prop) : Prop := hS h x2 = (1, 6) ∧ hS h x1 = (1, 4) ∧ wX4_cycleOf x1 (hI h x2 0) x3 h (fun r3 h4 => (0 ≤ r3 → hS h4 x2 = (1, 6) ∧ ∃ a6, hR h4 x2 2 = some a6 ∧ ∃ n9, hS h4 a6 = (2, n9) ∧ vp_in (r3) n9 ∧ (hI h4 a6 (r3).toNatClampNeg < nI 9 → vp_in (r3) n9 ∧ vp_in (r3) n9 ∧ ∀ h13, h13 = sI h4 a6 (r3).toNatClampNeg ((hI h4 a6 (r3).toNatClampNeg + nI 1)) → hS h13 x0 = (1, 7) ∧ wX7_tryLost x0 x1 x2 h13 (fun h16 => Q (nI 0) h16)) ∧ (¬ (hI h4 a6 (r3).toNatClampNeg < nI 9) → Q (nI 2) h4)) ∧ (¬ (0 ≤ r3) → Q (nI 1) h4))
set_option maxHeartbeats 4000000 in
set_option maxRecDepth 100000 in
theorem gX7_layCopy (x0 : Nat) (x1 : Nat) (x2 : Nat) (x3 : Int32) (h : MH) (Q : Int32 → MH → Prop) (hw : wX7_layCopy x0 x1 x2 x3 h Q) : Cm MX7_layCopy 3 0 0 [.ref (x0), .ref (x1), .ref (x2), .int (x3)] h (pI Q) := by
  refine cm_of [some (.ref (x0)), some (.ref (x1)), some (.ref (x2)), some (.int (x3)), none] rfl pnX7 (Nat.le_of_ble_eq_true rfl) rfl ?_
  unfold wX7_layCopy at hw
  refine q_aload_nr eX7_layCopy_0 rfl ?_
  refine q_aload_nr eX7_layCopy_1 rfl ?_
  obtain ⟨hs1, hw⟩ := hw
  refine q_getI flX7_15 rfl hs1 eX7_layCopy_2 ?_
  refine q_iload_n eX7_layCopy_5 rfl ?_
  obtain ⟨hs2, hw⟩ := hw
  refine q_callV (b := 0) (t := 0) (gX4_cycleOf _ _ _ _ _ hw) mlX7_21 kX4_cycleOf vX4_cycleOf rfl hs2 ⟨rfl, rfl⟩ (by decide) rfl (Nat.le_of_ble_eq_true rfl) eX7_layCopy_6 (kI fun r3 h4 hw => ?_)
  refine x_istore (ls' := [_, _, _, _, _]) eX7_layCopy_9 (by decide) rfl rfl ?_
  refine q_iload eX7_layCopy_11 rfl ?_
  obtain ⟨hw1, hw2⟩ := hw
  refine q_if_ge (tgt := 18) eX7_layCopy_13 (by decide) (fun c => ?_) (fun c => ?_)
  · have hw := hw1 c
    refine q_aload_nr eX7_layCopy_18 rfl ?_
    obtain ⟨hs5, hw⟩ := hw
    obtain ⟨a6, hr7, hw⟩ := hw
    refine q_getR flX7_27 rfl hs5 hr7 eX7_layCopy_19 ?_
    refine q_iload eX7_layCopy_22 rfl ?_
    obtain ⟨n9, hs8, hw⟩ := hw
    obtain ⟨hi10, hw⟩ := hw
    refine q_iald hs8 hi10 eX7_layCopy_24 ?_
    refine q_bipush (v := nI 9) eX7_layCopy_25 (by decide) ?_
    obtain ⟨hw1, hw2⟩ := hw
    refine q_icmp_lt (tgt := 32) eX7_layCopy_27 (by decide) (fun c => ?_) (fun c => ?_)
    · have hw := hw1 c
      refine q_aload_nr eX7_layCopy_32 rfl ?_
      refine q_getR flX7_27 rfl hs5 hr7 eX7_layCopy_33 ?_
      refine q_iload eX7_layCopy_36 rfl ?_
      refine q_dup2 eX7_layCopy_38 rfl rfl ?_
      obtain ⟨hi11, hw⟩ := hw
      refine q_iald hs8 hi11 eX7_layCopy_39 ?_
      refine q_iconst (v := nI 1) eX7_layCopy_40 (by decide) ?_
      refine q_iadd eX7_layCopy_41 ?_
      obtain ⟨hi12, hw⟩ := hw
      have hw := hw _ rfl
      refine q_iast hs8 hi12 eX7_layCopy_42 ?_
      refine q_aload_nr eX7_layCopy_43 rfl ?_
      refine q_aload_nr eX7_layCopy_44 rfl ?_
      refine q_aload_nr eX7_layCopy_45 rfl ?_
      obtain ⟨hs14, hw⟩ := hw
      refine q_callV (b := 0) (t := 0) (gX7_tryLost _ _ _ _ _ hw) mlX7_30 kX7_tryLost vX7_tryLost rfl hs14 ⟨rfl, rfl⟩ (by decide) rfl (Nat.le_of_ble_eq_true rfl) eX7_layCopy_46 (kV fun h16 hw => ?_)
      refine q_iconst (v := nI 0) eX7_layCopy_49 (by decide) ?_
      exact q_ret rfl eX7_layCopy_50 ⟨_, rfl, hw⟩
    · have hw := hw2 c
      refine q_iconst (v := nI 2) eX7_layCopy_30 (by decide) ?_
      exact q_ret rfl eX7_layCopy_31 ⟨_, rfl, hw⟩
  · have hw := hw2 c
    refine q_iconst (v := nI 1) eX7_layCopy_16 (by decide) ?_
    exact q_ret rfl eX7_layCopy_17 ⟨_, rfl, hw⟩
def wX7_takeCopy_59 (Q : Int32 → MH → Prop) : Nat → Nat → Nat → Nat → Int32 → Int32 → MH → Prop
  | 0, _, _, _, _, _, _ => False
  | n + 1, x0, x1, x2, x5, x6, h => (nI 20 ≤ x6 → hS h x0 = (1, 7) ∧ wX7_tryLost x0 x1 x2 h (fun h18 => Q (nI 0) h18)) ∧ (¬ (nI 20 ≤ x6) → hS h x2 = (1, 6) ∧ ∃ a20, hR h x2 3 = some a20 ∧ ∃ n23, hS h a20 = (2, n23) ∧ vp_in (x6) n23 ∧ (¬ ((hI h a20 (x6).toNatClampNeg >>> (nI 10 &&& 31)) = x5) → wX7_takeCopy_59 Q n x0 x1 x2 x5 (x6 + nI 1) h) ∧ ((hI h a20 (x6).toNatClampNeg >>> (nI 10 &&& 31)) = x5 → vp_in (x6) n23 ∧ ∀ h26, h26 = sI h a20 (x6).toNatClampNeg ((-1 : Int32)) → wX7_takeCopy_59 Q n x0 x1 x2 x5 (x6 + nI 1) h26))
set_option maxHeartbeats 4000000 in
set_option maxRecDepth 100000 in
theorem tX7_takeCopy_59 {Q : Int32 → MH → Prop} : ∀ (n : Nat) (h : MH) (x0 : Nat) (x1 : Nat) (x2 : Nat) (x5 : Int32) (x6 : Int32), wX7_takeCopy_59 Q n x0 x1 x2 x5 x6 h → Wm MX7_takeCopy 3 0 0 59 [some (.ref (x0)), some (.ref (x1)), some (.ref (x2)), none, none, some (.int (x5)), some (.int (x6))] [] h (pI Q) := by
  intro n
  induction n with
  | zero => intro h x0 x1 x2 x5 x6 hw; exact hw.elim
  | succ n ih =>
    intro h x0 x1 x2 x5 x6 hw
    unfold wX7_takeCopy_59 at hw
    refine q_iload eX7_takeCopy_59 rfl ?_
    refine q_bipush (v := nI 20) eX7_takeCopy_61 (by decide) ?_
    obtain ⟨hw1, hw2⟩ := hw
    refine q_icmp_ge (tgt := 95) eX7_takeCopy_63 (by decide) (fun c => ?_) (fun c => ?_)
    · have hw := hw1 c
      refine q_aload_nr eX7_takeCopy_95 rfl ?_
      refine q_aload_nr eX7_takeCopy_96 rfl ?_
      refine q_aload_nr eX7_takeCopy_97 rfl ?_
      obtain ⟨hs16, hw⟩ := hw
      refine q_callV (b := 0) (t := 0) (gX7_tryLost _ _ _ _ _ hw) mlX7_30 kX7_tryLost vX7_tryLost rfl hs16 ⟨rfl, rfl⟩ (by decide) rfl (Nat.le_of_ble_eq_true rfl) eX7_takeCopy_98 (kV fun h18 hw => ?_)
      refine q_iconst (v := nI 0) eX7_takeCopy_101 (by decide) ?_
      exact q_ret rfl eX7_takeCopy_102 ⟨_, rfl, hw⟩
    · have hw := hw2 c
      refine q_aload_nr eX7_takeCopy_66 rfl ?_
      obtain ⟨hs19, hw⟩ := hw
      obtain ⟨a20, hr21, hw⟩ := hw
      refine q_getR flX7_34 rfl hs19 hr21 eX7_takeCopy_67 ?_
      refine q_iload eX7_takeCopy_70 rfl ?_
      obtain ⟨n23, hs22, hw⟩ := hw
      obtain ⟨hi24, hw⟩ := hw
      refine q_iald hs22 hi24 eX7_takeCopy_72 ?_
      refine q_bipush (v := nI 10) eX7_takeCopy_73 (by decide) ?_
      refine q_ishr eX7_takeCopy_75 ?_
      refine q_iload eX7_takeCopy_76 rfl ?_
      obtain ⟨hw1, hw2⟩ := hw
      refine q_icmp_ne (tgt := 89) eX7_takeCopy_78 (by decide) (fun c => ?_) (fun c => ?_)
      · have hw := hw1 c
        refine x_iinc (v := (x6 + nI 1)) (ls' := [_, _, _, _, _, _, _]) eX7_takeCopy_89 rfl rfl rfl rfl ?_
        refine q_goto (tgt := 59) eX7_takeCopy_92 (by decide) ?_
        refine q_le (ls' := [some _, some _, some _, none, none, some _, some _]) ⟨rfl, rfl, rfl, rfl, rfl, trivial⟩ ?_
        exact ih _ _ _ _ _ _ hw
      · have hw := hw2 c
        refine q_aload_nr eX7_takeCopy_81 rfl ?_
        refine q_getR flX7_34 rfl hs19 hr21 eX7_takeCopy_82 ?_
        refine q_iload eX7_takeCopy_85 rfl ?_
        refine q_iconst (v := (-1 : Int32)) eX7_takeCopy_87 (by decide) ?_
        obtain ⟨hi25, hw⟩ := hw
        have hw := hw _ rfl
        refine q_iast hs22 hi25 eX7_takeCopy_88 ?_
        refine x_iinc (v := (x6 + nI 1)) (ls' := [_, _, _, _, _, _, _]) eX7_takeCopy_89 rfl rfl rfl rfl ?_
        refine q_goto (tgt := 59) eX7_takeCopy_92 (by decide) ?_
        refine q_le (ls' := [some _, some _, some _, none, none, some _, some _]) ⟨rfl, rfl, rfl, rfl, rfl, trivial⟩ ?_
        exact ih _ _ _ _ _ _ hw
def wX7_takeCopy (x0 : Nat) (x1 : Nat) (x2 : Nat) (x3 : Int32) (h : MH) (Q : Int32 → MH → Prop) : Prop := hS h x2 = (1, 6) ∧ hS h x1 = (1, 4) ∧ wX4_cycleOf x1 (hI h x2 0) x3 h (fun r3 h4 => (0 ≤ r3 → hS h4 x2 = (1, 6) ∧ ∃ a6, hR h4 x2 2 = some a6 ∧ ∃ n9, hS h4 a6 = (2, n9) ∧ vp_in (r3) n9 ∧ (0 < hI h4 a6 (r3).toNatClampNeg → vp_in (r3) n9 ∧ vp_in (r3) n9 ∧ ∀ h13, h13 = sI h4 a6 (r3).toNatClampNeg ((hI h4 a6 (r3).toNatClampNeg - nI 1)) → vp_in (r3) n9 ∧ ∀ v15, v15 = ((r3 * nI 9) + hI h13 a6 (r3).toNatClampNeg) → ∃ m27, wX7_takeCopy_59 Q m27 x0 x1 x2 v15 (nI 0) h13) ∧ (¬ (0 < hI h4 a6 (r3).toNatClampNeg) → Q (nI 2) h4)) ∧ (¬ (0 ≤ r3) → Q (nI 1) h4))
set_option maxHeartbeats 4000000 in
set_option maxRecDepth 100000 in
theorem gX7_takeCopy (x0 : Nat) (x1 : Nat) (x2 : Nat) (x3 : Int32) (h : MH) (Q : Int32 → MH → Prop) (hw : wX7_takeCopy x0 x1 x2 x3 h Q) : Cm MX7_takeCopy 3 0 0 [.ref (x0), .ref (x1), .ref (x2), .int (x3)] h (pI Q) := by
  refine cm_of [some (.ref (x0)), some (.ref (x1)), some (.ref (x2)), some (.int (x3)), none, none, none] rfl pnX7 (Nat.le_of_ble_eq_true rfl) rfl ?_
  unfold wX7_takeCopy at hw
  refine q_aload_nr eX7_takeCopy_0 rfl ?_
  refine q_aload_nr eX7_takeCopy_1 rfl ?_
  obtain ⟨hs1, hw⟩ := hw
  refine q_getI flX7_15 rfl hs1 eX7_takeCopy_2 ?_
  refine q_iload_n eX7_takeCopy_5 rfl ?_
  obtain ⟨hs2, hw⟩ := hw
  refine q_callV (b := 0) (t := 0) (gX4_cycleOf _ _ _ _ _ hw) mlX7_21 kX4_cycleOf vX4_cycleOf rfl hs2 ⟨rfl, rfl⟩ (by decide) rfl (Nat.le_of_ble_eq_true rfl) eX7_takeCopy_6 (kI fun r3 h4 hw => ?_)
  refine x_istore (ls' := [_, _, _, _, _, _, _]) eX7_takeCopy_9 (by decide) rfl rfl ?_
  refine q_iload eX7_takeCopy_11 rfl ?_
  obtain ⟨hw1, hw2⟩ := hw
  refine q_if_ge (tgt := 18) eX7_takeCopy_13 (by decide) (fun c => ?_) (fun c => ?_)
  · have hw := hw1 c
    refine q_aload_nr eX7_takeCopy_18 rfl ?_
    obtain ⟨hs5, hw⟩ := hw
    obtain ⟨a6, hr7, hw⟩ := hw
    refine q_getR flX7_27 rfl hs5 hr7 eX7_takeCopy_19 ?_
    refine q_iload eX7_takeCopy_22 rfl ?_
    obtain ⟨n9, hs8, hw⟩ := hw
    obtain ⟨hi10, hw⟩ := hw
    refine q_iald hs8 hi10 eX7_takeCopy_24 ?_
    obtain ⟨hw1, hw2⟩ := hw
    refine q_if_gt (tgt := 30) eX7_takeCopy_25 (by decide) (fun c => ?_) (fun c => ?_)
    · have hw := hw1 c
      refine q_aload_nr eX7_takeCopy_30 rfl ?_
      refine q_getR flX7_27 rfl hs5 hr7 eX7_takeCopy_31 ?_
      refine q_iload eX7_takeCopy_34 rfl ?_
      refine q_dup2 eX7_takeCopy_36 rfl rfl ?_
      obtain ⟨hi11, hw⟩ := hw
      refine q_iald hs8 hi11 eX7_takeCopy_37 ?_
      refine q_iconst (v := nI 1) eX7_takeCopy_38 (by decide) ?_
      refine q_isub eX7_takeCopy_39 ?_
      obtain ⟨hi12, hw⟩ := hw
      have hw := hw _ rfl
      refine q_iast hs8 hi12 eX7_takeCopy_40 ?_
      refine q_iload eX7_takeCopy_41 rfl ?_
      refine q_bipush (v := nI 9) eX7_takeCopy_43 (by decide) ?_
      refine q_imul eX7_takeCopy_45 ?_
      refine q_aload_nr eX7_takeCopy_46 rfl ?_
      refine q_getR flX7_27 rfl hs5 hr7 eX7_takeCopy_47 ?_
      refine q_iload eX7_takeCopy_50 rfl ?_
      obtain ⟨hi14, hw⟩ := hw
      refine q_iald hs8 hi14 eX7_takeCopy_52 ?_
      refine q_iadd eX7_takeCopy_53 ?_
      have hw := hw _ rfl
      refine x_istore (ls' := [_, _, _, _, _, _, _]) eX7_takeCopy_54 (by decide) rfl rfl ?_
      refine q_iconst (v := nI 0) eX7_takeCopy_56 (by decide) ?_
      refine x_istore (ls' := [_, _, _, _, _, _, _]) eX7_takeCopy_57 (by decide) rfl rfl ?_
      refine q_le (ls' := [some _, some _, some _, none, none, some _, some _]) ⟨rfl, rfl, rfl, rfl, rfl, trivial⟩ ?_
      obtain ⟨m27, hw⟩ := hw
      exact tX7_takeCopy_59 m27 _ _ _ _ _ _ hw
    · have hw := hw2 c
      refine q_iconst (v := nI 2) eX7_takeCopy_28 (by decide) ?_
      exact q_ret rfl eX7_takeCopy_29 ⟨_, rfl, hw⟩
  · have hw := hw2 c
    refine q_iconst (v := nI 1) eX7_takeCopy_16 (by decide) ?_
    exact q_ret rfl eX7_takeCopy_17 ⟨_, rfl, hw⟩
def wX7_failLink_35 (Q : Int32 → MH → Prop) : Nat → Nat → Nat → Nat → Int32 → Int32 → MH → Prop
  | 0, _, _, _, _, _, _ => False
  | n + 1, x0, x1, x2, x3, x4, h => (nI 20 ≤ x4 → hS h x0 = (1, 7) ∧ wX7_tryLost x0 x1 x2 h (fun h11 => Q (nI 0) h11)) ∧ (¬ (nI 20 ≤ x4) → hS h x2 = (1, 6) ∧ ∃ a13, hR h x2 3 = some a13 ∧ ∃ n16, hS h a13 = (2, n16) ∧ vp_in (x4) n16 ∧ (hI h a13 (x4).toNatClampNeg < 0 → wX7_failLink_35 Q n x0 x1 x2 x3 (x4 + nI 1) h) ∧ (¬ (hI h a13 (x4).toNatClampNeg < 0) → vp_in (x4) n16 ∧ wX6_pathAt (hI h a13 (x4).toNatClampNeg) h (fun r19 h20 => (((r19 >>> (x3 &&& 31)) &&& nI 1) = 0 → wX7_failLink_35 Q n x0 x1 x2 x3 (x4 + nI 1) h20) ∧ (¬ (((r19 >>> (x3 &&& 31)) &&& nI 1) = 0) → hS h20 x2 = (1, 6) ∧ ∃ a22, hR h20 x2 3 = some a22 ∧ ∃ n25, hS h20 a22 = (2, n25) ∧ vp_in (x4) n25 ∧ ∀ h27, h27 = sI h20 a22 (x4).toNatClampNeg ((-1 : Int32)) → wX7_failLink_35 Q n x0 x1 x2 x3 (x4 + nI 1) h27))))
set_option maxHeartbeats 4000000 in
set_option maxRecDepth 100000 in
theorem tX7_failLink_35 {Q : Int32 → MH → Prop} : ∀ (n : Nat) (h : MH) (x0 : Nat) (x1 : Nat) (x2 : Nat) (x3 : Int32) (x4 : Int32), wX7_failLink_35 Q n x0 x1 x2 x3 x4 h → Wm MX7_failLink 3 0 0 35 [some (.ref (x0)), some (.ref (x1)), some (.ref (x2)), some (.int (x3)), some (.int (x4))] [] h (pI Q) := by
  intro n
  induction n with
  | zero => intro h x0 x1 x2 x3 x4 hw; exact hw.elim
  | succ n ih =>
    intro h x0 x1 x2 x3 x4 hw
    unfold wX7_failLink_35 at hw
    refine q_iload eX7_failLink_35 rfl ?_
    refine q_bipush (v := nI 20) eX7_failLink_37 (by decide) ?_
    obtain ⟨hw1, hw2⟩ := hw
    refine q_icmp_ge (tgt := 83) eX7_failLink_39 (by decide) (fun c => ?_) (fun c => ?_)
    · have hw := hw1 c
      refine q_aload_nr eX7_failLink_83 rfl ?_
      refine q_aload_nr eX7_failLink_84 rfl ?_
      refine q_aload_nr eX7_failLink_85 rfl ?_
      obtain ⟨hs9, hw⟩ := hw
      refine q_callV (b := 0) (t := 0) (gX7_tryLost _ _ _ _ _ hw) mlX7_30 kX7_tryLost vX7_tryLost rfl hs9 ⟨rfl, rfl⟩ (by decide) rfl (Nat.le_of_ble_eq_true rfl) eX7_failLink_86 (kV fun h11 hw => ?_)
      refine q_iconst (v := nI 0) eX7_failLink_89 (by decide) ?_
      exact q_ret rfl eX7_failLink_90 ⟨_, rfl, hw⟩
    · have hw := hw2 c
      refine q_aload_nr eX7_failLink_42 rfl ?_
      obtain ⟨hs12, hw⟩ := hw
      obtain ⟨a13, hr14, hw⟩ := hw
      refine q_getR flX7_34 rfl hs12 hr14 eX7_failLink_43 ?_
      refine q_iload eX7_failLink_46 rfl ?_
      obtain ⟨n16, hs15, hw⟩ := hw
      obtain ⟨hi17, hw⟩ := hw
      refine q_iald hs15 hi17 eX7_failLink_48 ?_
      obtain ⟨hw1, hw2⟩ := hw
      refine q_if_lt (tgt := 77) eX7_failLink_49 (by decide) (fun c => ?_) (fun c => ?_)
      · have hw := hw1 c
        refine x_iinc (v := (x4 + nI 1)) (ls' := [_, _, _, _, _]) eX7_failLink_77 rfl rfl rfl rfl ?_
        refine q_goto (tgt := 35) eX7_failLink_80 (by decide) ?_
        refine q_le (ls' := [some _, some _, some _, some _, some _]) ⟨rfl, rfl, rfl, rfl, rfl, trivial⟩ ?_
        exact ih _ _ _ _ _ _ hw
      · have hw := hw2 c
        refine q_aload_nr eX7_failLink_52 rfl ?_
        refine q_getR flX7_34 rfl hs12 hr14 eX7_failLink_53 ?_
        refine q_iload eX7_failLink_56 rfl ?_
        obtain ⟨hi18, hw⟩ := hw
        refine q_iald hs15 hi18 eX7_failLink_58 ?_
        refine q_callS (b := 0) (t := 0) (gX6_pathAt _ _ _ hw) mlX7_47 kX6_pathAt sX6_pathAt rfl (by decide) rfl (Nat.le_of_ble_eq_true rfl) eX7_failLink_59 (kI fun r19 h20 hw => ?_)
        refine q_iload_n eX7_failLink_62 rfl ?_
        refine q_ishr eX7_failLink_63 ?_
        refine q_iconst (v := nI 1) eX7_failLink_64 (by decide) ?_
        refine q_iand eX7_failLink_65 ?_
        obtain ⟨hw1, hw2⟩ := hw
        refine q_if_eq (tgt := 77) eX7_failLink_66 (by decide) (fun c => ?_) (fun c => ?_)
        · have hw := hw1 c
          refine x_iinc (v := (x4 + nI 1)) (ls' := [_, _, _, _, _]) eX7_failLink_77 rfl rfl rfl rfl ?_
          refine q_goto (tgt := 35) eX7_failLink_80 (by decide) ?_
          refine q_le (ls' := [some _, some _, some _, some _, some _]) ⟨rfl, rfl, rfl, rfl, rfl, trivial⟩ ?_
          exact ih _ _ _ _ _ _ hw
        · have hw := hw2 c
          refine q_aload_nr eX7_failLink_69 rfl ?_
          obtain ⟨hs21, hw⟩ := hw
          obtain ⟨a22, hr23, hw⟩ := hw
          refine q_getR flX7_34 rfl hs21 hr23 eX7_failLink_70 ?_
          refine q_iload eX7_failLink_73 rfl ?_
          refine q_iconst (v := (-1 : Int32)) eX7_failLink_75 (by decide) ?_
          obtain ⟨n25, hs24, hw⟩ := hw
          obtain ⟨hi26, hw⟩ := hw
          have hw := hw _ rfl
          refine q_iast hs24 hi26 eX7_failLink_76 ?_
          refine x_iinc (v := (x4 + nI 1)) (ls' := [_, _, _, _, _]) eX7_failLink_77 rfl rfl rfl rfl ?_
          refine q_goto (tgt := 35) eX7_failLink_80 (by decide) ?_
          refine q_le (ls' := [some _, some _, some _, some _, some _]) ⟨rfl, rfl, rfl, rfl, rfl, trivial⟩ ?_
          exact ih _ _ _ _ _ _ hw
def wX7_failLink (x0 : Nat) (x1 : Nat) (x2 : Nat) (x3 : Int32) (h : MH) (Q : Int32 → MH → Prop) : Prop := hS h x1 = (1, 4) ∧ wX4_hasLink x1 x3 h (fun r2 h3 => (¬ (r2 = 0) → hS h3 x2 = (1, 6) ∧ wX6_hasFailed x2 x3 h3 (fun r5 h6 => (r5 = 0 → hS h6 x2 = (1, 6) ∧ ∀ h8, h8 = sI h6 x2 1 ((hI h6 x2 1 ||| (nI 1 <<< (x3 &&& 31)))) → ∃ m28, wX7_failLink_35 Q m28 x0 x1 x2 x3 (nI 0) h8) ∧ (¬ (r5 = 0) → Q (nI 2) h6))) ∧ (r2 = 0 → Q (nI 1) h3))
set_option maxHeartbeats 4000000 in
set_option maxRecDepth 100000 in
theorem gX7_failLink (x0 : Nat) (x1 : Nat) (x2 : Nat) (x3 : Int32) (h : MH) (Q : Int32 → MH → Prop) (hw : wX7_failLink x0 x1 x2 x3 h Q) : Cm MX7_failLink 3 0 0 [.ref (x0), .ref (x1), .ref (x2), .int (x3)] h (pI Q) := by
  refine cm_of [some (.ref (x0)), some (.ref (x1)), some (.ref (x2)), some (.int (x3)), none] rfl pnX7 (Nat.le_of_ble_eq_true rfl) rfl ?_
  unfold wX7_failLink at hw
  refine q_aload_nr eX7_failLink_0 rfl ?_
  refine q_iload_n eX7_failLink_1 rfl ?_
  obtain ⟨hs1, hw⟩ := hw
  refine q_callV (b := 0) (t := 0) (gX4_hasLink _ _ _ _ hw) mlX7_37 kX4_hasLink vX4_hasLink rfl hs1 ⟨rfl, rfl⟩ (by decide) rfl (Nat.le_of_ble_eq_true rfl) eX7_failLink_2 (kI fun r2 h3 hw => ?_)
  obtain ⟨hw1, hw2⟩ := hw
  refine q_if_ne (tgt := 10) eX7_failLink_5 (by decide) (fun c => ?_) (fun c => ?_)
  · have hw := hw1 c
    refine q_aload_nr eX7_failLink_10 rfl ?_
    refine q_iload_n eX7_failLink_11 rfl ?_
    obtain ⟨hs4, hw⟩ := hw
    refine q_callV (b := 0) (t := 0) (gX6_hasFailed _ _ _ _ hw) mlX7_41 kX6_hasFailed vX6_hasFailed rfl hs4 ⟨rfl, rfl⟩ (by decide) rfl (Nat.le_of_ble_eq_true rfl) eX7_failLink_12 (kI fun r5 h6 hw => ?_)
    obtain ⟨hw1, hw2⟩ := hw
    refine q_if_eq (tgt := 20) eX7_failLink_15 (by decide) (fun c => ?_) (fun c => ?_)
    · have hw := hw1 c
      refine q_aload_nr eX7_failLink_20 rfl ?_
      refine q_dup eX7_failLink_21 rfl ?_
      obtain ⟨hs7, hw⟩ := hw
      refine q_getI flX7_44 rfl hs7 eX7_failLink_22 ?_
      refine q_iconst (v := nI 1) eX7_failLink_25 (by decide) ?_
      refine q_iload_n eX7_failLink_26 rfl ?_
      refine q_ishl eX7_failLink_27 ?_
      refine q_ior eX7_failLink_28 ?_
      have hw := hw _ rfl
      refine q_putI (fwX7_44 _) rfl hs7 eX7_failLink_29 ?_
      refine q_iconst (v := nI 0) eX7_failLink_32 (by decide) ?_
      refine x_istore (ls' := [_, _, _, _, _]) eX7_failLink_33 (by decide) rfl rfl ?_
      refine q_le (ls' := [some _, some _, some _, some _, some _]) ⟨rfl, rfl, rfl, rfl, rfl, trivial⟩ ?_
      obtain ⟨m28, hw⟩ := hw
      exact tX7_failLink_35 m28 _ _ _ _ _ _ hw
    · have hw := hw2 c
      refine q_iconst (v := nI 2) eX7_failLink_18 (by decide) ?_
      exact q_ret rfl eX7_failLink_19 ⟨_, rfl, hw⟩
  · have hw := hw2 c
    refine q_iconst (v := nI 1) eX7_failLink_8 (by decide) ?_
    exact q_ret rfl eX7_failLink_9 ⟨_, rfl, hw⟩
def wX7_mendLink_37 (Q : Int32 → MH → Prop) : Nat → Nat → Nat → Nat → Int32 → Int32 → MH → Prop
  | 0, _, _, _, _, _, _ => False
  | n + 1, x0, x1, x2, x3, x4, h => (nI 2 ≤ x4 → hS h x0 = (1, 7) ∧ wX7_tryLost x0 x1 x2 h (fun h11 => Q (nI 0) h11)) ∧ (¬ (nI 2 ≤ x4) → hS h x2 = (1, 6) ∧ ∃ a13, hR h x2 3 = some a13 ∧ ∃ n16, hS h a13 = (2, n16) ∧ vp_in (((x3 * nI 2) + x4)) n16 ∧ ∀ h18, h18 = sI h a13 (((x3 * nI 2) + x4)).toNatClampNeg ((-1 : Int32)) → wX7_mendLink_37 Q n x0 x1 x2 x3 (x4 + nI 1) h18)
set_option maxHeartbeats 4000000 in
set_option maxRecDepth 100000 in
theorem tX7_mendLink_37 {Q : Int32 → MH → Prop} : ∀ (n : Nat) (h : MH) (x0 : Nat) (x1 : Nat) (x2 : Nat) (x3 : Int32) (x4 : Int32), wX7_mendLink_37 Q n x0 x1 x2 x3 x4 h → Wm MX7_mendLink 3 0 0 37 [some (.ref (x0)), some (.ref (x1)), some (.ref (x2)), some (.int (x3)), some (.int (x4))] [] h (pI Q) := by
  intro n
  induction n with
  | zero => intro h x0 x1 x2 x3 x4 hw; exact hw.elim
  | succ n ih =>
    intro h x0 x1 x2 x3 x4 hw
    unfold wX7_mendLink_37 at hw
    refine q_iload eX7_mendLink_37 rfl ?_
    refine q_iconst (v := nI 2) eX7_mendLink_39 (by decide) ?_
    obtain ⟨hw1, hw2⟩ := hw
    refine q_icmp_ge (tgt := 61) eX7_mendLink_40 (by decide) (fun c => ?_) (fun c => ?_)
    · have hw := hw1 c
      refine q_aload_nr eX7_mendLink_61 rfl ?_
      refine q_aload_nr eX7_mendLink_62 rfl ?_
      refine q_aload_nr eX7_mendLink_63 rfl ?_
      obtain ⟨hs9, hw⟩ := hw
      refine q_callV (b := 0) (t := 0) (gX7_tryLost _ _ _ _ _ hw) mlX7_30 kX7_tryLost vX7_tryLost rfl hs9 ⟨rfl, rfl⟩ (by decide) rfl (Nat.le_of_ble_eq_true rfl) eX7_mendLink_64 (kV fun h11 hw => ?_)
      refine q_iconst (v := nI 0) eX7_mendLink_67 (by decide) ?_
      exact q_ret rfl eX7_mendLink_68 ⟨_, rfl, hw⟩
    · have hw := hw2 c
      refine q_aload_nr eX7_mendLink_43 rfl ?_
      obtain ⟨hs12, hw⟩ := hw
      obtain ⟨a13, hr14, hw⟩ := hw
      refine q_getR flX7_34 rfl hs12 hr14 eX7_mendLink_44 ?_
      refine q_iload_n eX7_mendLink_47 rfl ?_
      refine q_iconst (v := nI 2) eX7_mendLink_48 (by decide) ?_
      refine q_imul eX7_mendLink_49 ?_
      refine q_iload eX7_mendLink_50 rfl ?_
      refine q_iadd eX7_mendLink_52 ?_
      refine q_iconst (v := (-1 : Int32)) eX7_mendLink_53 (by decide) ?_
      obtain ⟨n16, hs15, hw⟩ := hw
      obtain ⟨hi17, hw⟩ := hw
      have hw := hw _ rfl
      refine q_iast hs15 hi17 eX7_mendLink_54 ?_
      refine x_iinc (v := (x4 + nI 1)) (ls' := [_, _, _, _, _]) eX7_mendLink_55 rfl rfl rfl rfl ?_
      refine q_goto (tgt := 37) eX7_mendLink_58 (by decide) ?_
      refine q_le (ls' := [some _, some _, some _, some _, some _]) ⟨rfl, rfl, rfl, rfl, rfl, trivial⟩ ?_
      exact ih _ _ _ _ _ _ hw
def wX7_mendLink (x0 : Nat) (x1 : Nat) (x2 : Nat) (x3 : Int32) (h : MH) (Q : Int32 → MH → Prop) : Prop := hS h x1 = (1, 4) ∧ wX4_hasLink x1 x3 h (fun r2 h3 => (¬ (r2 = 0) → hS h3 x2 = (1, 6) ∧ wX6_hasFailed x2 x3 h3 (fun r5 h6 => (¬ (r5 = 0) → hS h6 x2 = (1, 6) ∧ ∀ h8, h8 = sI h6 x2 1 ((hI h6 x2 1 &&& ((nI 1 <<< (x3 &&& 31)) ^^^ (-1 : Int32)))) → ∃ m19, wX7_mendLink_37 Q m19 x0 x1 x2 x3 (nI 0) h8) ∧ (r5 = 0 → Q (nI 2) h6))) ∧ (r2 = 0 → Q (nI 1) h3))
set_option maxHeartbeats 4000000 in
set_option maxRecDepth 100000 in
theorem gX7_mendLink (x0 : Nat) (x1 : Nat) (x2 : Nat) (x3 : Int32) (h : MH) (Q : Int32 → MH → Prop) (hw : wX7_mendLink x0 x1 x2 x3 h Q) : Cm MX7_mendLink 3 0 0 [.ref (x0), .ref (x1), .ref (x2), .int (x3)] h (pI Q) := by
  refine cm_of [some (.ref (x0)), some (.ref (x1)), some (.ref (x2)), some (.int (x3)), none] rfl pnX7 (Nat.le_of_ble_eq_true rfl) rfl ?_
  unfold wX7_mendLink at hw
  refine q_aload_nr eX7_mendLink_0 rfl ?_
  refine q_iload_n eX7_mendLink_1 rfl ?_
  obtain ⟨hs1, hw⟩ := hw
  refine q_callV (b := 0) (t := 0) (gX4_hasLink _ _ _ _ hw) mlX7_37 kX4_hasLink vX4_hasLink rfl hs1 ⟨rfl, rfl⟩ (by decide) rfl (Nat.le_of_ble_eq_true rfl) eX7_mendLink_2 (kI fun r2 h3 hw => ?_)
  obtain ⟨hw1, hw2⟩ := hw
  refine q_if_ne (tgt := 10) eX7_mendLink_5 (by decide) (fun c => ?_) (fun c => ?_)
  · have hw := hw1 c
    refine q_aload_nr eX7_mendLink_10 rfl ?_
    refine q_iload_n eX7_mendLink_11 rfl ?_
    obtain ⟨hs4, hw⟩ := hw
    refine q_callV (b := 0) (t := 0) (gX6_hasFailed _ _ _ _ hw) mlX7_41 kX6_hasFailed vX6_hasFailed rfl hs4 ⟨rfl, rfl⟩ (by decide) rfl (Nat.le_of_ble_eq_true rfl) eX7_mendLink_12 (kI fun r5 h6 hw => ?_)
    obtain ⟨hw1, hw2⟩ := hw
    refine q_if_ne (tgt := 20) eX7_mendLink_15 (by decide) (fun c => ?_) (fun c => ?_)
    · have hw := hw1 c
      refine q_aload_nr eX7_mendLink_20 rfl ?_
      refine q_dup eX7_mendLink_21 rfl ?_
      obtain ⟨hs7, hw⟩ := hw
      refine q_getI flX7_44 rfl hs7 eX7_mendLink_22 ?_
      refine q_iconst (v := nI 1) eX7_mendLink_25 (by decide) ?_
      refine q_iload_n eX7_mendLink_26 rfl ?_
      refine q_ishl eX7_mendLink_27 ?_
      refine q_iconst (v := (-1 : Int32)) eX7_mendLink_28 (by decide) ?_
      refine q_ixor eX7_mendLink_29 ?_
      refine q_iand eX7_mendLink_30 ?_
      have hw := hw _ rfl
      refine q_putI (fwX7_44 _) rfl hs7 eX7_mendLink_31 ?_
      refine q_iconst (v := nI 0) eX7_mendLink_34 (by decide) ?_
      refine x_istore (ls' := [_, _, _, _, _]) eX7_mendLink_35 (by decide) rfl rfl ?_
      refine q_le (ls' := [some _, some _, some _, some _, some _]) ⟨rfl, rfl, rfl, rfl, rfl, trivial⟩ ?_
      obtain ⟨m19, hw⟩ := hw
      exact tX7_mendLink_37 m19 _ _ _ _ _ _ hw
    · have hw := hw2 c
      refine q_iconst (v := nI 2) eX7_mendLink_18 (by decide) ?_
      exact q_ret rfl eX7_mendLink_19 ⟨_, rfl, hw⟩
  · have hw := hw2 c
    refine q_iconst (v := nI 1) eX7_mendLink_8 (by decide) ?_
    exact q_ret rfl eX7_mendLink_9 ⟨_, rfl, hw⟩
def wX7_changeRate (x0 : Nat) (x1 : Nat) (x2 : Nat) (x3 : Int32) (h : MH) (Q : Int32 → MH → Prop) : Prop := (x3 < 0 → Q (nI 1) h) ∧ (¬ (x3 < 0) → (x3 < nI 10 → hS h x1 = (1, 4) ∧ ∃ a2, hR h x1 9 = some a2 ∧ ∃ n5, hS h a2 = (3, n5) ∧ vp_in (x3) n5 ∧ hS h x2 = (1, 6) ∧ vp_in (hI h x2 0) n5 ∧ ((lg_cmp (hL h a2 (x3).toNatClampNeg) (hL h a2 (hI h x2 0).toNatClampNeg)) = 0 → ∀ h9, h9 = sI h x2 0 (x3) → Q (nI 0) h9) ∧ (¬ ((lg_cmp (hL h a2 (x3).toNatClampNeg) (hL h a2 (hI h x2 0).toNatClampNeg)) = 0) → wX6_begin x2 x3 h (fun h11 => hS h11 x2 = (1, 6) ∧ ∀ h13, h13 = sI h11 x2 0 (x3) → Q (nI 0) h13))) ∧ (¬ (x3 < nI 10) → Q (nI 1) h))
set_option maxHeartbeats 4000000 in
set_option maxRecDepth 100000 in
theorem gX7_changeRate (x0 : Nat) (x1 : Nat) (x2 : Nat) (x3 : Int32) (h : MH) (Q : Int32 → MH → Prop) (hw : wX7_changeRate x0 x1 x2 x3 h Q) : Cm MX7_changeRate 2 0 0 [.ref (x0), .ref (x1), .ref (x2), .int (x3)] h (pI Q) := by
  refine cm_of [some (.ref (x0)), some (.ref (x1)), some (.ref (x2)), some (.int (x3))] rfl pnX7 (Nat.le_of_ble_eq_true rfl) rfl ?_
  unfold wX7_changeRate at hw
  refine q_iload_n eX7_changeRate_0 rfl ?_
  obtain ⟨hw1, hw2⟩ := hw
  refine q_if_lt (tgt := 10) eX7_changeRate_1 (by decide) (fun c => ?_) (fun c => ?_)
  · have hw := hw1 c
    refine q_iconst (v := nI 1) eX7_changeRate_10 (by decide) ?_
    exact q_ret rfl eX7_changeRate_11 ⟨_, rfl, hw⟩
  · have hw := hw2 c
    refine q_iload_n eX7_changeRate_4 rfl ?_
    refine q_bipush (v := nI 10) eX7_changeRate_5 (by decide) ?_
    obtain ⟨hw1, hw2⟩ := hw
    refine q_icmp_lt (tgt := 12) eX7_changeRate_7 (by decide) (fun c => ?_) (fun c => ?_)
    · have hw := hw1 c
      refine q_aload_nr eX7_changeRate_12 rfl ?_
      obtain ⟨hs1, hw⟩ := hw
      obtain ⟨a2, hr3, hw⟩ := hw
      refine q_getR flX7_51 rfl hs1 hr3 eX7_changeRate_13 ?_
      refine q_iload_n eX7_changeRate_16 rfl ?_
      obtain ⟨n5, hs4, hw⟩ := hw
      obtain ⟨hi6, hw⟩ := hw
      refine q_lald hs4 hi6 eX7_changeRate_17 ?_
      refine q_aload_nr eX7_changeRate_18 rfl ?_
      refine q_getR flX7_51 rfl hs1 hr3 eX7_changeRate_19 ?_
      refine q_aload_nr eX7_changeRate_22 rfl ?_
      obtain ⟨hs7, hw⟩ := hw
      refine q_getI flX7_15 rfl hs7 eX7_changeRate_23 ?_
      obtain ⟨hi8, hw⟩ := hw
      refine q_lald hs4 hi8 eX7_changeRate_26 ?_
      refine q_lcmp eX7_changeRate_27 ?_
      obtain ⟨hw1, hw2⟩ := hw
      refine q_if_eq (tgt := 36) eX7_changeRate_28 (by decide) (fun c => ?_) (fun c => ?_)
      · have hw := hw1 c
        refine q_aload_nr eX7_changeRate_36 rfl ?_
        refine q_iload_n eX7_changeRate_37 rfl ?_
        have hw := hw _ rfl
        refine q_putI (fwX7_15 _) rfl hs7 eX7_changeRate_38 ?_
        refine q_iconst (v := nI 0) eX7_changeRate_41 (by decide) ?_
        exact q_ret rfl eX7_changeRate_42 ⟨_, rfl, hw⟩
      · have hw := hw2 c
        refine q_aload_nr eX7_changeRate_31 rfl ?_
        refine q_iload_n eX7_changeRate_32 rfl ?_
        refine q_callV (b := 0) (t := 0) (gX6_begin _ _ _ _ hw) mlX7_55 kX6_begin vX6_begin rfl hs7 ⟨rfl, rfl⟩ (by decide) rfl (Nat.le_of_ble_eq_true rfl) eX7_changeRate_33 (kV fun h11 hw => ?_)
        refine q_aload_nr eX7_changeRate_36 rfl ?_
        refine q_iload_n eX7_changeRate_37 rfl ?_
        obtain ⟨hs12, hw⟩ := hw
        have hw := hw _ rfl
        refine q_putI (fwX7_15 _) rfl hs12 eX7_changeRate_38 ?_
        refine q_iconst (v := nI 0) eX7_changeRate_41 (by decide) ?_
        exact q_ret rfl eX7_changeRate_42 ⟨_, rfl, hw⟩
    · have hw := hw2 c
      refine q_iconst (v := nI 1) eX7_changeRate_10 (by decide) ?_
      exact q_ret rfl eX7_changeRate_11 ⟨_, rfl, hw⟩
def wX7_doDeed_109 (Q : Int32 → MH → Prop) (x0 : Nat) (x1 : Nat) (x2 : Nat) (x5 : Int32) (h : MH) : Prop := (x5 < nI 100 → Q (nI 1) h) ∧ (¬ (x5 < nI 100) → (nI 110 ≤ x5 → Q (nI 1) h) ∧ (¬ (nI 110 ≤ x5) → hS h x0 = (1, 7) ∧ wX7_failLink x0 x1 x2 (x5 - nI 100) h (fun r2 h3 => Q (r2) h3)))
set_option maxHeartbeats 4000000 in
set_option maxRecDepth 100000 in
theorem tX7_doDeed_109 {Q : Int32 → MH → Prop} (h : MH) (x0 : Nat) (x1 : Nat) (x2 : Nat) (x5 : Int32) (hw : wX7_doDeed_109 Q x0 x1 x2 x5 h) : Wm MX7_doDeed 4 0 0 109 [some (.ref (x0)), some (.ref (x1)), some (.ref (x2)), none, none, some (.int (x5))] [] h (pI Q) := by
  unfold wX7_doDeed_109 at hw
  refine q_iload eX7_doDeed_109 rfl ?_
  refine q_bipush (v := nI 100) eX7_doDeed_111 (by decide) ?_
  obtain ⟨hw1, hw2⟩ := hw
  refine q_icmp_lt (tgt := 137) eX7_doDeed_113 (by decide) (fun c => ?_) (fun c => ?_)
  · have hw := hw1 c
    refine q_iconst (v := nI 1) eX7_doDeed_137 (by decide) ?_
    exact q_ret rfl eX7_doDeed_138 ⟨_, rfl, hw⟩
  · have hw := hw2 c
    refine q_iload eX7_doDeed_116 rfl ?_
    refine q_bipush (v := nI 110) eX7_doDeed_118 (by decide) ?_
    obtain ⟨hw1, hw2⟩ := hw
    refine q_icmp_ge (tgt := 137) eX7_doDeed_120 (by decide) (fun c => ?_) (fun c => ?_)
    · have hw := hw1 c
      refine q_iconst (v := nI 1) eX7_doDeed_137 (by decide) ?_
      exact q_ret rfl eX7_doDeed_138 ⟨_, rfl, hw⟩
    · have hw := hw2 c
      refine q_aload_nr eX7_doDeed_123 rfl ?_
      refine q_aload_nr eX7_doDeed_124 rfl ?_
      refine q_aload_nr eX7_doDeed_125 rfl ?_
      refine q_iload eX7_doDeed_126 rfl ?_
      refine q_bipush (v := nI 100) eX7_doDeed_128 (by decide) ?_
      refine q_isub eX7_doDeed_130 ?_
      obtain ⟨hs1, hw⟩ := hw
      refine q_callV (b := 0) (t := 0) (gX7_failLink _ _ _ _ _ _ hw) mlX7_76 kX7_failLink vX7_failLink rfl hs1 ⟨rfl, rfl⟩ (by decide) rfl (Nat.le_of_ble_eq_true rfl) eX7_doDeed_131 (kI fun r2 h3 hw => ?_)
      refine q_goto (tgt := 138) eX7_doDeed_134 (by decide) ?_
      exact q_ret rfl eX7_doDeed_138 ⟨_, rfl, hw⟩
def wX7_doDeed (x0 : Nat) (x1 : Nat) (x2 : Nat) (x3 : Int64) (h : MH) (Q : Int32 → MH → Prop) : Prop := ((lg_cmp (x3) ((10 : Int64))) < 0 → Q (nI 1) h) ∧ (¬ ((lg_cmp (x3) ((10 : Int64))) < 0) → ((lg_cmp (x3) ((399 : Int64))) ≤ 0 → (nI 20 ≤ (x3).toInt32 → ((x3).toInt32 < nI 300 → ((x3).toInt32 < nI 200 → ((x3).toInt32 < nI 110 → wX7_doDeed_109 Q x0 x1 x2 ((x3).toInt32) h) ∧ (¬ ((x3).toInt32 < nI 110) → (nI 120 ≤ (x3).toInt32 → wX7_doDeed_109 Q x0 x1 x2 ((x3).toInt32) h) ∧ (¬ (nI 120 ≤ (x3).toInt32) → hS h x0 = (1, 7) ∧ wX7_mendLink x0 x1 x2 ((x3).toInt32 - nI 110) h (fun r5 h6 => Q (r5) h6)))) ∧ (¬ ((x3).toInt32 < nI 200) → hS h x0 = (1, 7) ∧ wX7_layCopy x0 x1 x2 ((x3).toInt32 - nI 200) h (fun r8 h9 => Q (r8) h9))) ∧ (¬ ((x3).toInt32 < nI 300) → hS h x0 = (1, 7) ∧ wX7_takeCopy x0 x1 x2 ((x3).toInt32 - nI 300) h (fun r11 h12 => Q (r11) h12))) ∧ (¬ (nI 20 ≤ (x3).toInt32) → hS h x0 = (1, 7) ∧ wX7_changeRate x0 x1 x2 ((x3).toInt32 - nI 10) h (fun r14 h15 => Q (r14) h15))) ∧ (¬ ((lg_cmp (x3) ((399 : Int64))) ≤ 0) → Q (nI 1) h))
set_option maxHeartbeats 4000000 in
set_option maxRecDepth 100000 in
theorem gX7_doDeed (x0 : Nat) (x1 : Nat) (x2 : Nat) (x3 : Int64) (h : MH) (Q : Int32 → MH → Prop) (hw : wX7_doDeed x0 x1 x2 x3 h Q) : Cm MX7_doDeed 4 0 0 [.ref (x0), .ref (x1), .ref (x2), .long (x3)] h (pI Q) := by
  refine cm_of [some (.ref (x0)), some (.ref (x1)), some (.ref (x2)), some (.long (x3)), none, none] rfl pnX7 (Nat.le_of_ble_eq_true rfl) rfl ?_
  unfold wX7_doDeed at hw
  refine q_lload_n eX7_doDeed_0 rfl ?_
  refine q_ldc2 coX7_59 eX7_doDeed_1 ?_
  refine q_lcmp eX7_doDeed_4 ?_
  obtain ⟨hw1, hw2⟩ := hw
  refine q_if_lt (tgt := 16) eX7_doDeed_5 (by decide) (fun c => ?_) (fun c => ?_)
  · have hw := hw1 c
    refine q_iconst (v := nI 1) eX7_doDeed_16 (by decide) ?_
    exact q_ret rfl eX7_doDeed_17 ⟨_, rfl, hw⟩
  · have hw := hw2 c
    refine q_lload_n eX7_doDeed_8 rfl ?_
    refine q_ldc2 coX7_61 eX7_doDeed_9 ?_
    refine q_lcmp eX7_doDeed_12 ?_
    obtain ⟨hw1, hw2⟩ := hw
    refine q_if_le (tgt := 18) eX7_doDeed_13 (by decide) (fun c => ?_) (fun c => ?_)
    · have hw := hw1 c
      refine q_lload_n eX7_doDeed_18 rfl ?_
      refine q_l2i eX7_doDeed_19 ?_
      refine x_istore (ls' := [_, _, _, _, _, _]) eX7_doDeed_20 (by decide) rfl rfl ?_
      refine q_iload eX7_doDeed_22 rfl ?_
      refine q_bipush (v := nI 20) eX7_doDeed_24 (by decide) ?_
      obtain ⟨hw1, hw2⟩ := hw
      refine q_icmp_ge (tgt := 41) eX7_doDeed_26 (by decide) (fun c => ?_) (fun c => ?_)
      · have hw := hw1 c
        refine q_iload eX7_doDeed_41 rfl ?_
        refine q_sipush (v := nI 300) eX7_doDeed_43 (by decide) ?_
        obtain ⟨hw1, hw2⟩ := hw
        refine q_icmp_lt (tgt := 62) eX7_doDeed_46 (by decide) (fun c => ?_) (fun c => ?_)
        · have hw := hw1 c
          refine q_iload eX7_doDeed_62 rfl ?_
          refine q_sipush (v := nI 200) eX7_doDeed_64 (by decide) ?_
          obtain ⟨hw1, hw2⟩ := hw
          refine q_icmp_lt (tgt := 83) eX7_doDeed_67 (by decide) (fun c => ?_) (fun c => ?_)
          · have hw := hw1 c
            refine q_iload eX7_doDeed_83 rfl ?_
            refine q_bipush (v := nI 110) eX7_doDeed_85 (by decide) ?_
            obtain ⟨hw1, hw2⟩ := hw
            refine q_icmp_lt (tgt := 109) eX7_doDeed_87 (by decide) (fun c => ?_) (fun c => ?_)
            · have hw := hw1 c
              refine q_le (ls' := [some _, some _, some _, none, none, some _]) ⟨rfl, rfl, rfl, rfl, trivial⟩ ?_
              exact tX7_doDeed_109 _ _ _ _ _ hw
            · have hw := hw2 c
              refine q_iload eX7_doDeed_90 rfl ?_
              refine q_bipush (v := nI 120) eX7_doDeed_92 (by decide) ?_
              obtain ⟨hw1, hw2⟩ := hw
              refine q_icmp_ge (tgt := 109) eX7_doDeed_94 (by decide) (fun c => ?_) (fun c => ?_)
              · have hw := hw1 c
                refine q_le (ls' := [some _, some _, some _, none, none, some _]) ⟨rfl, rfl, rfl, rfl, trivial⟩ ?_
                exact tX7_doDeed_109 _ _ _ _ _ hw
              · have hw := hw2 c
                refine q_aload_nr eX7_doDeed_97 rfl ?_
                refine q_aload_nr eX7_doDeed_98 rfl ?_
                refine q_aload_nr eX7_doDeed_99 rfl ?_
                refine q_iload eX7_doDeed_100 rfl ?_
                refine q_bipush (v := nI 110) eX7_doDeed_102 (by decide) ?_
                refine q_isub eX7_doDeed_104 ?_
                obtain ⟨hs4, hw⟩ := hw
                refine q_callV (b := 0) (t := 0) (gX7_mendLink _ _ _ _ _ _ hw) mlX7_73 kX7_mendLink vX7_mendLink rfl hs4 ⟨rfl, rfl⟩ (by decide) rfl (Nat.le_of_ble_eq_true rfl) eX7_doDeed_105 (kI fun r5 h6 hw => ?_)
                exact q_ret rfl eX7_doDeed_108 ⟨_, rfl, hw⟩
          · have hw := hw2 c
            refine q_aload_nr eX7_doDeed_70 rfl ?_
            refine q_aload_nr eX7_doDeed_71 rfl ?_
            refine q_aload_nr eX7_doDeed_72 rfl ?_
            refine q_iload eX7_doDeed_73 rfl ?_
            refine q_sipush (v := nI 200) eX7_doDeed_75 (by decide) ?_
            refine q_isub eX7_doDeed_78 ?_
            obtain ⟨hs7, hw⟩ := hw
            refine q_callV (b := 0) (t := 0) (gX7_layCopy _ _ _ _ _ _ hw) mlX7_70 kX7_layCopy vX7_layCopy rfl hs7 ⟨rfl, rfl⟩ (by decide) rfl (Nat.le_of_ble_eq_true rfl) eX7_doDeed_79 (kI fun r8 h9 hw => ?_)
            exact q_ret rfl eX7_doDeed_82 ⟨_, rfl, hw⟩
        · have hw := hw2 c
          refine q_aload_nr eX7_doDeed_49 rfl ?_
          refine q_aload_nr eX7_doDeed_50 rfl ?_
          refine q_aload_nr eX7_doDeed_51 rfl ?_
          refine q_iload eX7_doDeed_52 rfl ?_
          refine q_sipush (v := nI 300) eX7_doDeed_54 (by decide) ?_
          refine q_isub eX7_doDeed_57 ?_
          obtain ⟨hs10, hw⟩ := hw
          refine q_callV (b := 0) (t := 0) (gX7_takeCopy _ _ _ _ _ _ hw) mlX7_67 kX7_takeCopy vX7_takeCopy rfl hs10 ⟨rfl, rfl⟩ (by decide) rfl (Nat.le_of_ble_eq_true rfl) eX7_doDeed_58 (kI fun r11 h12 hw => ?_)
          exact q_ret rfl eX7_doDeed_61 ⟨_, rfl, hw⟩
      · have hw := hw2 c
        refine q_aload_nr eX7_doDeed_29 rfl ?_
        refine q_aload_nr eX7_doDeed_30 rfl ?_
        refine q_aload_nr eX7_doDeed_31 rfl ?_
        refine q_iload eX7_doDeed_32 rfl ?_
        refine q_bipush (v := nI 10) eX7_doDeed_34 (by decide) ?_
        refine q_isub eX7_doDeed_36 ?_
        obtain ⟨hs13, hw⟩ := hw
        refine q_callV (b := 0) (t := 0) (gX7_changeRate _ _ _ _ _ _ hw) mlX7_63 kX7_changeRate vX7_changeRate rfl hs13 ⟨rfl, rfl⟩ (by decide) rfl (Nat.le_of_ble_eq_true rfl) eX7_doDeed_37 (kI fun r14 h15 hw => ?_)
        exact q_ret rfl eX7_doDeed_40 ⟨_, rfl, hw⟩
    · have hw := hw2 c
      refine q_iconst (v := nI 1) eX7_doDeed_16 (by decide) ?_
      exact q_ret rfl eX7_doDeed_17 ⟨_, rfl, hw⟩
def wX7_doAll_3 (Q : Int32 → MH → Prop) : Nat → Nat → Nat → Nat → Nat → Int32 → MH → Prop
  | 0, _, _, _, _, _, _ => False
  | n + 1, x0, x1, x2, x3, x4, h => hS h x3 = (1, 8) ∧ (hI h x3 1 ≤ x4 → Q (x4) h) ∧ (¬ (hI h x3 1 ≤ x4) → ∃ a2, hR h x3 2 = some a2 ∧ ∃ n5, hS h a2 = (3, n5) ∧ vp_in (x4) n5 ∧ hS h x0 = (1, 7) ∧ wX7_doDeed x0 x1 x2 (hL h a2 (x4).toNatClampNeg) h (fun r8 h9 => (¬ (r8 = 0) → Q (x4) h9) ∧ (r8 = 0 → wX7_doAll_3 Q n x0 x1 x2 x3 (x4 + nI 1) h9)))
set_option maxHeartbeats 4000000 in
set_option maxRecDepth 100000 in
theorem tX7_doAll_3 {Q : Int32 → MH → Prop} : ∀ (n : Nat) (h : MH) (x0 : Nat) (x1 : Nat) (x2 : Nat) (x3 : Nat) (x4 : Int32), wX7_doAll_3 Q n x0 x1 x2 x3 x4 h → Wm MX7_doAll 5 0 0 3 [some (.ref (x0)), some (.ref (x1)), some (.ref (x2)), some (.ref (x3)), some (.int (x4))] [] h (pI Q) := by
  intro n
  induction n with
  | zero => intro h x0 x1 x2 x3 x4 hw; exact hw.elim
  | succ n ih =>
    intro h x0 x1 x2 x3 x4 hw
    unfold wX7_doAll_3 at hw
    refine q_iload eX7_doAll_3 rfl ?_
    refine q_aload_nr eX7_doAll_5 rfl ?_
    obtain ⟨hs1, hw⟩ := hw
    refine q_getI flX7_79 rfl hs1 eX7_doAll_6 ?_
    obtain ⟨hw1, hw2⟩ := hw
    refine q_icmp_ge (tgt := 34) eX7_doAll_9 (by decide) (fun c => ?_) (fun c => ?_)
    · have hw := hw1 c
      refine q_iload eX7_doAll_34 rfl ?_
      exact q_ret rfl eX7_doAll_36 ⟨_, rfl, hw⟩
    · have hw := hw2 c
      refine q_aload_nr eX7_doAll_12 rfl ?_
      refine q_aload_nr eX7_doAll_13 rfl ?_
      refine q_aload_nr eX7_doAll_14 rfl ?_
      refine q_aload_nr eX7_doAll_15 rfl ?_
      obtain ⟨a2, hr3, hw⟩ := hw
      refine q_getR flX7_84 rfl hs1 hr3 eX7_doAll_16 ?_
      refine q_iload eX7_doAll_19 rfl ?_
      obtain ⟨n5, hs4, hw⟩ := hw
      obtain ⟨hi6, hw⟩ := hw
      refine q_lald hs4 hi6 eX7_doAll_21 ?_
      obtain ⟨hs7, hw⟩ := hw
      refine q_callV (b := 0) (t := 0) (gX7_doDeed _ _ _ _ _ _ hw) mlX7_87 kX7_doDeed vX7_doDeed rfl hs7 ⟨rfl, rfl⟩ (by decide) rfl (Nat.le_of_ble_eq_true rfl) eX7_doAll_22 (kI fun r8 h9 hw => ?_)
      obtain ⟨hw1, hw2⟩ := hw
      refine q_if_ne (tgt := 34) eX7_doAll_25 (by decide) (fun c => ?_) (fun c => ?_)
      · have hw := hw1 c
        refine q_iload eX7_doAll_34 rfl ?_
        exact q_ret rfl eX7_doAll_36 ⟨_, rfl, hw⟩
      · have hw := hw2 c
        refine x_iinc (v := (x4 + nI 1)) (ls' := [_, _, _, _, _]) eX7_doAll_28 rfl rfl rfl rfl ?_
        refine q_goto (tgt := 3) eX7_doAll_31 (by decide) ?_
        refine q_le (ls' := [some _, some _, some _, some _, some _]) ⟨rfl, rfl, rfl, rfl, rfl, trivial⟩ ?_
        exact ih _ _ _ _ _ _ hw
def wX7_doAll (x0 : Nat) (x1 : Nat) (x2 : Nat) (x3 : Nat) (h : MH) (Q : Int32 → MH → Prop) : Prop := ∃ m10, wX7_doAll_3 Q m10 x0 x1 x2 x3 (nI 0) h
set_option maxHeartbeats 4000000 in
set_option maxRecDepth 100000 in
theorem gX7_doAll (x0 : Nat) (x1 : Nat) (x2 : Nat) (x3 : Nat) (h : MH) (Q : Int32 → MH → Prop) (hw : wX7_doAll x0 x1 x2 x3 h Q) : Cm MX7_doAll 5 0 0 [.ref (x0), .ref (x1), .ref (x2), .ref (x3)] h (pI Q) := by
  refine cm_of [some (.ref (x0)), some (.ref (x1)), some (.ref (x2)), some (.ref (x3)), none] rfl pnX7 (Nat.le_of_ble_eq_true rfl) rfl ?_
  unfold wX7_doAll at hw
  refine q_iconst (v := nI 0) eX7_doAll_0 (by decide) ?_
  refine x_istore (ls' := [_, _, _, _, _]) eX7_doAll_1 (by decide) rfl rfl ?_
  refine q_le (ls' := [some _, some _, some _, some _, some _]) ⟨rfl, rfl, rfl, rfl, rfl, trivial⟩ ?_
  obtain ⟨m10, hw⟩ := hw
  exact tX7_doAll_3 m10 _ _ _ _ _ _ hw
def wX7_nextDraw (x0 : Int32) (h : MH) (Q : Int32 → MH → Prop) : Prop := Q ((((1103515245 : Int32) * x0) + nI 12345)) h
set_option maxHeartbeats 4000000 in
set_option maxRecDepth 100000 in
theorem gX7_nextDraw (x0 : Int32) (h : MH) (Q : Int32 → MH → Prop) (hw : wX7_nextDraw x0 h Q) : Cm MX7_nextDraw 0 0 0 [.int (x0)] h (pI Q) := by
  refine cm_of [some (.int (x0))] rfl pnX7 (Nat.le_of_ble_eq_true rfl) rfl ?_
  unfold wX7_nextDraw at hw
  refine q_ldc coX7_94 eX7_nextDraw_0 ?_
  refine q_iload_n eX7_nextDraw_2 rfl ?_
  refine q_imul eX7_nextDraw_3 ?_
  refine q_sipush (v := nI 12345) eX7_nextDraw_4 (by decide) ?_
  refine q_iadd eX7_nextDraw_7 ?_
  exact q_ret rfl eX7_nextDraw_8 ⟨_, rfl, hw⟩
def wX7_doYear_107 (Q : Int32 → MH → Prop) (K9 : Nat → Nat → Nat → Int32 → Int32 → Int32 → Int32 → MH → Prop) (x0 : Nat) (x1 : Nat) (x2 : Nat) (x4 : Int32) (x5 : Int32) (x6 : Int32) (x7 : Int32) (s0 : Int32) (h : MH) : Prop := hS h x0 = (1, 7) ∧ wX7_doDeed x0 x1 x2 ((s0).toInt64) h (fun r10 h11 => K9 x0 x1 x2 x4 x5 (x6 + (if r10 = 0 then nI 1 else nI 0)) (x7 + nI 1) h11)
set_option maxHeartbeats 4000000 in
set_option maxRecDepth 100000 in
theorem tX7_doYear_107 {Q : Int32 → MH → Prop} {K9 : Nat → Nat → Nat → Int32 → Int32 → Int32 → Int32 → MH → Prop} (hK9 : ∀ (h : MH) (x0 : Nat) (x1 : Nat) (x2 : Nat) (x4 : Int32) (x5 : Int32) (x6 : Int32) (x7 : Int32), K9 x0 x1 x2 x4 x5 x6 x7 h → Wm MX7_doYear 5 0 0 9 [some (.ref (x0)), some (.ref (x1)), some (.ref (x2)), none, some (.int (x4)), some (.int (x5)), some (.int (x6)), some (.int (x7)), none, none, none] [] h (pI Q)) (h : MH) (x0 : Nat) (x1 : Nat) (x2 : Nat) (x4 : Int32) (x5 : Int32) (x6 : Int32) (x7 : Int32) (s0 : Int32) (hw : wX7_doYear_107 Q K9 x0 x1 x2 x4 x5 x6 x7 s0 h) : Wm MX7_doYear 5 0 0 107 [some (.ref (x0)), some (.ref (x1)), some (.ref (x2)), none, some (.int (x4)), some (.int (x5)), some (.int (x6)), some (.int (x7)), none, none, none] [.int (s0)] h (pI Q) := by
  unfold wX7_doYear_107 at hw
  refine x_istore (ls' := [_, _, _, _, _, _, _, _, _, _, _]) eX7_doYear_107 (by decide) rfl rfl ?_
  refine q_iload eX7_doYear_109 rfl ?_
  refine q_aload_nr eX7_doYear_111 rfl ?_
  refine q_aload_nr eX7_doYear_112 rfl ?_
  refine q_aload_nr eX7_doYear_113 rfl ?_
  refine q_iload eX7_doYear_114 rfl ?_
  refine q_i2l eX7_doYear_116 ?_
  obtain ⟨hs9, hw⟩ := hw
  refine q_callV (b := 0) (t := 0) (gX7_doDeed _ _ _ _ _ _ hw) mlX7_87 kX7_doDeed vX7_doDeed rfl hs9 ⟨rfl, rfl⟩ (by decide) rfl (Nat.le_of_ble_eq_true rfl) eX7_doYear_117 (kI fun r10 h11 hw => ?_)
  have hj13 : Wm MX7_doYear 5 0 0 128 [some (.ref (x0)), some (.ref (x1)), some (.ref (x2)), none, some (.int (x4)), some (.int (x5)), some (.int (x6)), some (.int (x7)), none, none, some (.int (s0))] [.int ((if r10 = 0 then nI 1 else nI 0)), .int (x6)] h11 (pI Q) := by
    refine q_iadd eX7_doYear_128 ?_
    refine x_istore (ls' := [_, _, _, _, _, _, _, _, _, _, _]) eX7_doYear_129 (by decide) rfl rfl ?_
    refine x_iinc (v := (x7 + nI 1)) (ls' := [_, _, _, _, _, _, _, _, _, _, _]) eX7_doYear_131 rfl rfl rfl rfl ?_
    refine q_goto (tgt := 9) eX7_doYear_134 (by decide) ?_
    refine q_le (ls' := [some _, some _, some _, none, some _, some _, some _, some _, none, none, none]) ⟨rfl, rfl, rfl, rfl, rfl, rfl, rfl, trivial⟩ ?_
    exact hK9 _ _ _ _ _ _ _ _ hw
  refine q_if_ne (tgt := 127) eX7_doYear_120 (by decide) (fun c => ?_) (fun c => ?_)
  · refine q_iconst (v := nI 0) eX7_doYear_127 (by decide) ?_
    rw [if_neg c] at hj13
    exact hj13
  · refine q_iconst (v := nI 1) eX7_doYear_123 (by decide) ?_
    refine q_goto (tgt := 128) eX7_doYear_124 (by decide) ?_
    rw [if_pos c] at hj13
    exact hj13
def wX7_doYear_9 (Q : Int32 → MH → Prop) : Nat → Nat → Nat → Nat → Int32 → Int32 → Int32 → Int32 → MH → Prop
  | 0, _, _, _, _, _, _, _, _ => False
  | n + 1, x0, x1, x2, x4, x5, x6, x7, h => (x4 ≤ x7 → Q (x6) h) ∧ (¬ (x4 ≤ x7) → wX7_nextDraw x5 h (fun r1 h2 => ¬ nI 5 = 0 ∧ ∀ v4, v4 = (((r1).toUInt32 >>> ((nI 16).toUInt32 &&& Int32.toUInt32 31)).toInt32 - ((r1).toUInt32 >>> ((nI 16).toUInt32 &&& Int32.toUInt32 31)).toInt32 / nI 5 * nI 5) → wX7_nextDraw r1 h2 (fun r5 h6 => ∀ v7, v7 = ((r5).toUInt32 >>> ((nI 16).toUInt32 &&& Int32.toUInt32 31)).toInt32 → (nI 2 ≤ v4 → (¬ (v4 = nI 2) → (¬ (v4 = nI 3) → ¬ nI 10 = 0 ∧ wX7_doYear_107 Q (wX7_doYear_9 Q n) x0 x1 x2 x4 r5 x6 x7 (nI 110 + (v7 - v7 / nI 10 * nI 10)) h6) ∧ (v4 = nI 3 → ¬ nI 10 = 0 ∧ wX7_doYear_107 Q (wX7_doYear_9 Q n) x0 x1 x2 x4 r5 x6 x7 (nI 100 + (v7 - v7 / nI 10 * nI 10)) h6)) ∧ (v4 = nI 2 → ¬ nI 12 = 0 ∧ wX7_doYear_107 Q (wX7_doYear_9 Q n) x0 x1 x2 x4 r5 x6 x7 (nI 300 + (v7 - v7 / nI 12 * nI 12)) h6)) ∧ (¬ (nI 2 ≤ v4) → ¬ nI 12 = 0 ∧ wX7_doYear_107 Q (wX7_doYear_9 Q n) x0 x1 x2 x4 r5 x6 x7 (nI 200 + (v7 - v7 / nI 12 * nI 12)) h6))))
set_option maxHeartbeats 4000000 in
set_option maxRecDepth 100000 in
theorem tX7_doYear_9 {Q : Int32 → MH → Prop} : ∀ (n : Nat) (h : MH) (x0 : Nat) (x1 : Nat) (x2 : Nat) (x4 : Int32) (x5 : Int32) (x6 : Int32) (x7 : Int32), wX7_doYear_9 Q n x0 x1 x2 x4 x5 x6 x7 h → Wm MX7_doYear 5 0 0 9 [some (.ref (x0)), some (.ref (x1)), some (.ref (x2)), none, some (.int (x4)), some (.int (x5)), some (.int (x6)), some (.int (x7)), none, none, none] [] h (pI Q) := by
  intro n
  induction n with
  | zero => intro h x0 x1 x2 x4 x5 x6 x7 hw; exact hw.elim
  | succ n ih =>
    intro h x0 x1 x2 x4 x5 x6 x7 hw
    unfold wX7_doYear_9 at hw
    refine q_iload eX7_doYear_9 rfl ?_
    refine q_iload eX7_doYear_11 rfl ?_
    obtain ⟨hw1, hw2⟩ := hw
    refine q_icmp_ge (tgt := 137) eX7_doYear_13 (by decide) (fun c => ?_) (fun c => ?_)
    · have hw := hw1 c
      refine q_iload eX7_doYear_137 rfl ?_
      exact q_ret rfl eX7_doYear_139 ⟨_, rfl, hw⟩
    · have hw := hw2 c
      refine q_iload eX7_doYear_16 rfl ?_
      refine q_callS (b := 0) (t := 0) (gX7_nextDraw _ _ _ hw) mlX7_91 kX7_nextDraw sX7_nextDraw rfl (by decide) rfl (Nat.le_of_ble_eq_true rfl) eX7_doYear_18 (kI fun r1 h2 hw => ?_)
      refine x_istore (ls' := [_, _, _, _, _, _, _, _, _, _, _]) eX7_doYear_21 (by decide) rfl rfl ?_
      refine q_iload eX7_doYear_23 rfl ?_
      refine q_bipush (v := nI 16) eX7_doYear_25 (by decide) ?_
      refine q_iushr eX7_doYear_27 ?_
      refine q_iconst (v := nI 5) eX7_doYear_28 (by decide) ?_
      obtain ⟨hz3, hw⟩ := hw
      refine q_irem eX7_doYear_29 hz3 ?_
      have hw := hw _ rfl
      refine x_istore (ls' := [_, _, _, _, _, _, _, _, _, _, _]) eX7_doYear_30 (by decide) rfl rfl ?_
      refine q_iload eX7_doYear_32 rfl ?_
      refine q_callS (b := 0) (t := 0) (gX7_nextDraw _ _ _ hw) mlX7_91 kX7_nextDraw sX7_nextDraw rfl (by decide) rfl (Nat.le_of_ble_eq_true rfl) eX7_doYear_34 (kI fun r5 h6 hw => ?_)
      refine x_istore (ls' := [_, _, _, _, _, _, _, _, _, _, _]) eX7_doYear_37 (by decide) rfl rfl ?_
      refine q_iload eX7_doYear_39 rfl ?_
      refine q_bipush (v := nI 16) eX7_doYear_41 (by decide) ?_
      refine q_iushr eX7_doYear_43 ?_
      have hw := hw _ rfl
      refine x_istore (ls' := [_, _, _, _, _, _, _, _, _, _, _]) eX7_doYear_44 (by decide) rfl rfl ?_
      refine q_iload eX7_doYear_46 rfl ?_
      refine q_iconst (v := nI 2) eX7_doYear_48 (by decide) ?_
      obtain ⟨hw1, hw2⟩ := hw
      refine q_icmp_ge (tgt := 64) eX7_doYear_49 (by decide) (fun c => ?_) (fun c => ?_)
      · have hw := hw1 c
        refine q_iload eX7_doYear_64 rfl ?_
        refine q_iconst (v := nI 2) eX7_doYear_66 (by decide) ?_
        obtain ⟨hw1, hw2⟩ := hw
        refine q_icmp_ne (tgt := 82) eX7_doYear_67 (by decide) (fun c => ?_) (fun c => ?_)
        · have hw := hw1 c
          refine q_iload eX7_doYear_82 rfl ?_
          refine q_iconst (v := nI 3) eX7_doYear_84 (by decide) ?_
          obtain ⟨hw1, hw2⟩ := hw
          refine q_icmp_ne (tgt := 99) eX7_doYear_85 (by decide) (fun c => ?_) (fun c => ?_)
          · have hw := hw1 c
            refine q_bipush (v := nI 110) eX7_doYear_99 (by decide) ?_
            refine q_iload eX7_doYear_101 rfl ?_
            refine q_bipush (v := nI 10) eX7_doYear_103 (by decide) ?_
            obtain ⟨hz8, hw⟩ := hw
            refine q_irem eX7_doYear_105 hz8 ?_
            refine q_iadd eX7_doYear_106 ?_
            refine q_le (ls' := [some _, some _, some _, none, some _, some _, some _, some _, none, none, none]) ⟨rfl, rfl, rfl, rfl, rfl, rfl, rfl, trivial⟩ ?_
            exact tX7_doYear_107 ih _ _ _ _ _ _ _ _ _ hw
          · have hw := hw2 c
            refine q_bipush (v := nI 100) eX7_doYear_88 (by decide) ?_
            refine q_iload eX7_doYear_90 rfl ?_
            refine q_bipush (v := nI 10) eX7_doYear_92 (by decide) ?_
            obtain ⟨hz14, hw⟩ := hw
            refine q_irem eX7_doYear_94 hz14 ?_
            refine q_iadd eX7_doYear_95 ?_
            refine q_goto (tgt := 107) eX7_doYear_96 (by decide) ?_
            refine q_le (ls' := [some _, some _, some _, none, some _, some _, some _, some _, none, none, none]) ⟨rfl, rfl, rfl, rfl, rfl, rfl, rfl, trivial⟩ ?_
            exact tX7_doYear_107 ih _ _ _ _ _ _ _ _ _ hw
        · have hw := hw2 c
          refine q_sipush (v := nI 300) eX7_doYear_70 (by decide) ?_
          refine q_iload eX7_doYear_73 rfl ?_
          refine q_bipush (v := nI 12) eX7_doYear_75 (by decide) ?_
          obtain ⟨hz15, hw⟩ := hw
          refine q_irem eX7_doYear_77 hz15 ?_
          refine q_iadd eX7_doYear_78 ?_
          refine q_goto (tgt := 107) eX7_doYear_79 (by decide) ?_
          refine q_le (ls' := [some _, some _, some _, none, some _, some _, some _, some _, none, none, none]) ⟨rfl, rfl, rfl, rfl, rfl, rfl, rfl, trivial⟩ ?_
          exact tX7_doYear_107 ih _ _ _ _ _ _ _ _ _ hw
      · have hw := hw2 c
        refine q_sipush (v := nI 200) eX7_doYear_52 (by decide) ?_
        refine q_iload eX7_doYear_55 rfl ?_
        refine q_bipush (v := nI 12) eX7_doYear_57 (by decide) ?_
        obtain ⟨hz16, hw⟩ := hw
        refine q_irem eX7_doYear_59 hz16 ?_
        refine q_iadd eX7_doYear_60 ?_
        refine q_goto (tgt := 107) eX7_doYear_61 (by decide) ?_
        refine q_le (ls' := [some _, some _, some _, none, some _, some _, some _, some _, none, none, none]) ⟨rfl, rfl, rfl, rfl, rfl, rfl, rfl, trivial⟩ ?_
        exact tX7_doYear_107 ih _ _ _ _ _ _ _ _ _ hw
def wX7_doYear (x0 : Nat) (x1 : Nat) (x2 : Nat) (x3 : Int32) (x4 : Int32) (h : MH) (Q : Int32 → MH → Prop) : Prop := ∃ m17, wX7_doYear_9 Q m17 x0 x1 x2 x4 x3 (nI 0) (nI 0) h
set_option maxHeartbeats 4000000 in
set_option maxRecDepth 100000 in
theorem gX7_doYear (x0 : Nat) (x1 : Nat) (x2 : Nat) (x3 : Int32) (x4 : Int32) (h : MH) (Q : Int32 → MH → Prop) (hw : wX7_doYear x0 x1 x2 x3 x4 h Q) : Cm MX7_doYear 5 0 0 [.ref (x0), .ref (x1), .ref (x2), .int (x3), .int (x4)] h (pI Q) := by
  refine cm_of [some (.ref (x0)), some (.ref (x1)), some (.ref (x2)), some (.int (x3)), some (.int (x4)), none, none, none, none, none, none] rfl pnX7 (Nat.le_of_ble_eq_true rfl) rfl ?_
  unfold wX7_doYear at hw
  refine q_iload_n eX7_doYear_0 rfl ?_
  refine x_istore (ls' := [_, _, _, _, _, _, _, _, _, _, _]) eX7_doYear_1 (by decide) rfl rfl ?_
  refine q_iconst (v := nI 0) eX7_doYear_3 (by decide) ?_
  refine x_istore (ls' := [_, _, _, _, _, _, _, _, _, _, _]) eX7_doYear_4 (by decide) rfl rfl ?_
  refine q_iconst (v := nI 0) eX7_doYear_6 (by decide) ?_
  refine x_istore (ls' := [_, _, _, _, _, _, _, _, _, _, _]) eX7_doYear_7 (by decide) rfl rfl ?_
  refine q_le (ls' := [some _, some _, some _, none, some _, some _, some _, some _, none, none, none]) ⟨rfl, rfl, rfl, rfl, rfl, rfl, rfl, trivial⟩ ?_
  obtain ⟨m17, hw⟩ := hw
  exact tX7_doYear_9 m17 _ _ _ _ _ _ _ _ hw
def wX7_lostOf_6 (Q : Int32 → MH → Prop) : Nat → Nat → Nat → Int32 → Int32 → Int32 → MH → Prop
  | 0, _, _, _, _, _, _ => False
  | n + 1, x1, x2, x3, x4, x5, h => hS h x1 = (1, 4) ∧ ∃ a2, hR h x1 7 = some a2 ∧ ∃ n5, hS h a2 = (2, n5) ∧ vp_in (x3) n5 ∧ (hI h a2 (x3).toNatClampNeg ≤ x5 → Q (x4) h) ∧ (¬ (hI h a2 (x3).toNatClampNeg ≤ x5) → hS h x2 = (1, 6) ∧ wX6_hasFailed x2 x3 h (fun r8 h9 => (r8 = 0 → Q (x4) h9) ∧ (¬ (r8 = 0) → hS h9 x2 = (1, 6) ∧ ∃ a11, hR h9 x2 3 = some a11 ∧ ∃ n14, hS h9 a11 = (2, n14) ∧ vp_in (((x3 * nI 2) + x5)) n14 ∧ ∀ v17, v17 = (x4 + (if 0 ≤ hI h9 a11 (((x3 * nI 2) + x5)).toNatClampNeg then nI 0 else nI 1)) → wX7_lostOf_6 Q n x1 x2 x3 v17 (x5 + nI 1) h9)))
set_option maxHeartbeats 4000000 in
set_option maxRecDepth 100000 in
theorem tX7_lostOf_6 {Q : Int32 → MH → Prop} : ∀ (n : Nat) (h : MH) (x1 : Nat) (x2 : Nat) (x3 : Int32) (x4 : Int32) (x5 : Int32), wX7_lostOf_6 Q n x1 x2 x3 x4 x5 h → Wm MX7_lostOf 1 0 0 6 [none, some (.ref (x1)), some (.ref (x2)), some (.int (x3)), some (.int (x4)), some (.int (x5))] [] h (pI Q) := by
  intro n
  induction n with
  | zero => intro h x1 x2 x3 x4 x5 hw; exact hw.elim
  | succ n ih =>
    intro h x1 x2 x3 x4 x5 hw
    unfold wX7_lostOf_6 at hw
    refine q_iload eX7_lostOf_6 rfl ?_
    refine q_aload_nr eX7_lostOf_8 rfl ?_
    obtain ⟨hs1, hw⟩ := hw
    obtain ⟨a2, hr3, hw⟩ := hw
    refine q_getR flX7_101 rfl hs1 hr3 eX7_lostOf_9 ?_
    refine q_iload_n eX7_lostOf_12 rfl ?_
    obtain ⟨n5, hs4, hw⟩ := hw
    obtain ⟨hi6, hw⟩ := hw
    refine q_iald hs4 hi6 eX7_lostOf_13 ?_
    obtain ⟨hw1, hw2⟩ := hw
    refine q_icmp_ge (tgt := 55) eX7_lostOf_14 (by decide) (fun c => ?_) (fun c => ?_)
    · have hw := hw1 c
      refine q_iload eX7_lostOf_55 rfl ?_
      exact q_ret rfl eX7_lostOf_57 ⟨_, rfl, hw⟩
    · have hw := hw2 c
      refine q_aload_nr eX7_lostOf_17 rfl ?_
      refine q_iload_n eX7_lostOf_18 rfl ?_
      obtain ⟨hs7, hw⟩ := hw
      refine q_callV (b := 0) (t := 0) (gX6_hasFailed _ _ _ _ hw) mlX7_41 kX6_hasFailed vX6_hasFailed rfl hs7 ⟨rfl, rfl⟩ (by decide) rfl (Nat.le_of_ble_eq_true rfl) eX7_lostOf_19 (kI fun r8 h9 hw => ?_)
      obtain ⟨hw1, hw2⟩ := hw
      refine q_if_eq (tgt := 55) eX7_lostOf_22 (by decide) (fun c => ?_) (fun c => ?_)
      · have hw := hw1 c
        refine q_iload eX7_lostOf_55 rfl ?_
        exact q_ret rfl eX7_lostOf_57 ⟨_, rfl, hw⟩
      · have hw := hw2 c
        refine q_iload eX7_lostOf_25 rfl ?_
        refine q_aload_nr eX7_lostOf_27 rfl ?_
        obtain ⟨hs10, hw⟩ := hw
        obtain ⟨a11, hr12, hw⟩ := hw
        refine q_getR flX7_34 rfl hs10 hr12 eX7_lostOf_28 ?_
        refine q_iload_n eX7_lostOf_31 rfl ?_
        refine q_iconst (v := nI 2) eX7_lostOf_32 (by decide) ?_
        refine q_imul eX7_lostOf_33 ?_
        refine q_iload eX7_lostOf_34 rfl ?_
        refine q_iadd eX7_lostOf_36 ?_
        obtain ⟨n14, hs13, hw⟩ := hw
        obtain ⟨hi15, hw⟩ := hw
        refine q_iald hs13 hi15 eX7_lostOf_37 ?_
        have hj18 : Wm MX7_lostOf 1 0 0 46 [none, some (.ref (x1)), some (.ref (x2)), some (.int (x3)), some (.int (x4)), some (.int (x5))] [.int ((if 0 ≤ hI h9 a11 (((x3 * nI 2) + x5)).toNatClampNeg then nI 0 else nI 1)), .int (x4)] h9 (pI Q) := by
          refine q_iadd eX7_lostOf_46 ?_
          have hw := hw _ rfl
          refine x_istore (ls' := [_, _, _, _, _, _]) eX7_lostOf_47 (by decide) rfl rfl ?_
          refine x_iinc (v := (x5 + nI 1)) (ls' := [_, _, _, _, _, _]) eX7_lostOf_49 rfl rfl rfl rfl ?_
          refine q_goto (tgt := 6) eX7_lostOf_52 (by decide) ?_
          refine q_le (ls' := [none, some _, some _, some _, some _, some _]) ⟨rfl, rfl, rfl, rfl, rfl, trivial⟩ ?_
          exact ih _ _ _ _ _ _ hw
        refine q_if_ge (tgt := 45) eX7_lostOf_38 (by decide) (fun c => ?_) (fun c => ?_)
        · refine q_iconst (v := nI 0) eX7_lostOf_45 (by decide) ?_
          rw [if_pos c] at hj18
          exact hj18
        · refine q_iconst (v := nI 1) eX7_lostOf_41 (by decide) ?_
          refine q_goto (tgt := 46) eX7_lostOf_42 (by decide) ?_
          rw [if_neg c] at hj18
          exact hj18
def wX7_lostOf (x0 : Nat) (x1 : Nat) (x2 : Nat) (x3 : Int32) (h : MH) (Q : Int32 → MH → Prop) : Prop := ∃ m19, wX7_lostOf_6 Q m19 x1 x2 x3 (nI 0) (nI 0) h
set_option maxHeartbeats 4000000 in
set_option maxRecDepth 100000 in
theorem gX7_lostOf (x0 : Nat) (x1 : Nat) (x2 : Nat) (x3 : Int32) (h : MH) (Q : Int32 → MH → Prop) (hw : wX7_lostOf x0 x1 x2 x3 h Q) : Cm MX7_lostOf 1 0 0 [.ref (x0), .ref (x1), .ref (x2), .int (x3)] h (pI Q) := by
  refine cm_of [some (.ref (x0)), some (.ref (x1)), some (.ref (x2)), some (.int (x3)), none, none] rfl pnX7 (Nat.le_of_ble_eq_true rfl) rfl ?_
  unfold wX7_lostOf at hw
  refine q_iconst (v := nI 0) eX7_lostOf_0 (by decide) ?_
  refine x_istore (ls' := [_, _, _, _, _, _]) eX7_lostOf_1 (by decide) rfl rfl ?_
  refine q_iconst (v := nI 0) eX7_lostOf_3 (by decide) ?_
  refine x_istore (ls' := [_, _, _, _, _, _]) eX7_lostOf_4 (by decide) rfl rfl ?_
  refine q_le (ls' := [none, some _, some _, some _, some _, some _]) ⟨rfl, rfl, rfl, rfl, rfl, trivial⟩ ?_
  obtain ⟨m19, hw⟩ := hw
  exact tX7_lostOf_6 m19 _ _ _ _ _ _ hw
def wX7_lostUnits_5 (Q : Int32 → MH → Prop) : Nat → Nat → Nat → Nat → Int32 → Int32 → MH → Prop
  | 0, _, _, _, _, _, _ => False
  | n + 1, x0, x1, x2, x3, x4, h => hS h x1 = (1, 4) ∧ (hI h x1 3 ≤ x4 → Q (x3) h) ∧ (¬ (hI h x1 3 ≤ x4) → hS h x0 = (1, 7) ∧ wX7_lostOf x0 x1 x2 x4 h (fun r3 h4 => wX7_lostUnits_5 Q n x0 x1 x2 (x3 + r3) (x4 + nI 1) h4))
set_option maxHeartbeats 4000000 in
set_option maxRecDepth 100000 in
theorem tX7_lostUnits_5 {Q : Int32 → MH → Prop} : ∀ (n : Nat) (h : MH) (x0 : Nat) (x1 : Nat) (x2 : Nat) (x3 : Int32) (x4 : Int32), wX7_lostUnits_5 Q n x0 x1 x2 x3 x4 h → Wm MX7_lostUnits 2 0 0 5 [some (.ref (x0)), some (.ref (x1)), some (.ref (x2)), some (.int (x3)), some (.int (x4))] [] h (pI Q) := by
  intro n
  induction n with
  | zero => intro h x0 x1 x2 x3 x4 hw; exact hw.elim
  | succ n ih =>
    intro h x0 x1 x2 x3 x4 hw
    unfold wX7_lostUnits_5 at hw
    refine q_iload eX7_lostUnits_5 rfl ?_
    refine q_aload_nr eX7_lostUnits_7 rfl ?_
    obtain ⟨hs1, hw⟩ := hw
    refine q_getI flX7_95 rfl hs1 eX7_lostUnits_8 ?_
    obtain ⟨hw1, hw2⟩ := hw
    refine q_icmp_ge (tgt := 31) eX7_lostUnits_11 (by decide) (fun c => ?_) (fun c => ?_)
    · have hw := hw1 c
      refine q_iload_n eX7_lostUnits_31 rfl ?_
      exact q_ret rfl eX7_lostUnits_32 ⟨_, rfl, hw⟩
    · have hw := hw2 c
      refine q_iload_n eX7_lostUnits_14 rfl ?_
      refine q_aload_nr eX7_lostUnits_15 rfl ?_
      refine q_aload_nr eX7_lostUnits_16 rfl ?_
      refine q_aload_nr eX7_lostUnits_17 rfl ?_
      refine q_iload eX7_lostUnits_18 rfl ?_
      obtain ⟨hs2, hw⟩ := hw
      refine q_callV (b := 0) (t := 0) (gX7_lostOf _ _ _ _ _ _ hw) mlX7_98 kX7_lostOf vX7_lostOf rfl hs2 ⟨rfl, rfl⟩ (by decide) rfl (Nat.le_of_ble_eq_true rfl) eX7_lostUnits_20 (kI fun r3 h4 hw => ?_)
      refine q_iadd eX7_lostUnits_23 ?_
      refine x_istore_n (ls' := [_, _, _, _, _]) eX7_lostUnits_24 (by decide) rfl rfl ?_
      refine x_iinc (v := (x4 + nI 1)) (ls' := [_, _, _, _, _]) eX7_lostUnits_25 rfl rfl rfl rfl ?_
      refine q_goto (tgt := 5) eX7_lostUnits_28 (by decide) ?_
      refine q_le (ls' := [some _, some _, some _, some _, some _]) ⟨rfl, rfl, rfl, rfl, rfl, trivial⟩ ?_
      exact ih _ _ _ _ _ _ hw
def wX7_lostUnits (x0 : Nat) (x1 : Nat) (x2 : Nat) (h : MH) (Q : Int32 → MH → Prop) : Prop := ∃ m5, wX7_lostUnits_5 Q m5 x0 x1 x2 (nI 0) (nI 0) h
set_option maxHeartbeats 4000000 in
set_option maxRecDepth 100000 in
theorem gX7_lostUnits (x0 : Nat) (x1 : Nat) (x2 : Nat) (h : MH) (Q : Int32 → MH → Prop) (hw : wX7_lostUnits x0 x1 x2 h Q) : Cm MX7_lostUnits 2 0 0 [.ref (x0), .ref (x1), .ref (x2)] h (pI Q) := by
  refine cm_of [some (.ref (x0)), some (.ref (x1)), some (.ref (x2)), none, none] rfl pnX7 (Nat.le_of_ble_eq_true rfl) rfl ?_
  unfold wX7_lostUnits at hw
  refine q_iconst (v := nI 0) eX7_lostUnits_0 (by decide) ?_
  refine x_istore_n (ls' := [_, _, _, _, _]) eX7_lostUnits_1 (by decide) rfl rfl ?_
  refine q_iconst (v := nI 0) eX7_lostUnits_2 (by decide) ?_
  refine x_istore (ls' := [_, _, _, _, _]) eX7_lostUnits_3 (by decide) rfl rfl ?_
  refine q_le (ls' := [some _, some _, some _, some _, some _]) ⟨rfl, rfl, rfl, rfl, rfl, trivial⟩ ?_
  obtain ⟨m5, hw⟩ := hw
  exact tX7_lostUnits_5 m5 _ _ _ _ _ _ hw
def wX8_init (b t : Nat) (x0 : Nat) (h : MH) (Q : MH → Prop) : Prop := hS h x0 = (1, 8) ∧ ∀ h2, h2 = sI h x0 0 (nI 0) → ∀ h3, h3 = sI h2 x0 1 ((-1 : Int32)) → 1 ≤ b ∧ 40 ≤ t ∧ ∀ a4, a4 = hN h3 → ∀ h5, h5 = al h3 (3, 40) → hS h5 x0 = (1, 8) ∧ ∀ h9, h9 = sR h5 x0 2 (some a4) → Q h9
set_option maxHeartbeats 4000000 in
set_option maxRecDepth 100000 in
theorem gX8_init (b t : Nat) (x0 : Nat) (h : MH) (Q : MH → Prop) (hw : wX8_init b t x0 h Q) : Cm MX8_init 1 b t [.ref (x0)] h (pV Q) := by
  refine cm_of [some (.ref (x0))] rfl pnX8 (Nat.le_of_ble_eq_true rfl) rfl ?_
  unfold wX8_init at hw
  refine q_aload_nr eX8_init_0 rfl ?_
  refine q_objI mlX8_3 iOi cOi (by decide) (Nat.le_of_ble_eq_true rfl) eX8_init_1 ?_
  refine q_aload_nr eX8_init_4 rfl ?_
  refine q_iconst (v := nI 0) eX8_init_5 (by decide) ?_
  obtain ⟨hs1, hw⟩ := hw
  have hw := hw _ rfl
  refine q_putI (fwX8_9 _) rfl hs1 eX8_init_6 ?_
  refine q_aload_nr eX8_init_9 rfl ?_
  refine q_iconst (v := (-1 : Int32)) eX8_init_10 (by decide) ?_
  have hw := hw _ rfl
  refine q_putI (fwX8_15 _) rfl hs1 eX8_init_11 ?_
  refine q_aload_nr eX8_init_14 rfl ?_
  refine q_bipush (v := nI 40) eX8_init_15 (by decide) ?_
  obtain ⟨hc6, hc7, hw⟩ := hw
  have hw := hw _ rfl _ rfl
  refine q_bud (b' := (b - 1) + 1) (t' := (t - 40) + 40) (by omega) (by omega) ?_
  refine q_newa (k := 3) (Or.inr (Or.inl rfl)) rfl aC_long (by decide) (by decide) (by decide) eX8_init_17 ?_
  obtain ⟨hs8, hw⟩ := hw
  have hw := hw _ rfl
  refine q_putR fwX8_18 rfl hs8 eX8_init_19 ?_
  exact q_retV rfl eX8_init_22 ⟨rfl, hw⟩
def wX8_isMissing (x0 : Nat) (h : MH) (Q : Int32 → MH → Prop) : Prop := hS h x0 = (1, 8) ∧ ((if 0 ≤ hI h x0 1 then nI 0 else nI 1) = 0 ∨ (if 0 ≤ hI h x0 1 then nI 0 else nI 1) = 1) ∧ Q ((if 0 ≤ hI h x0 1 then nI 0 else nI 1)) h
set_option maxHeartbeats 4000000 in
set_option maxRecDepth 100000 in
theorem gX8_isMissing (x0 : Nat) (h : MH) (Q : Int32 → MH → Prop) (hw : wX8_isMissing x0 h Q) : Cm MX8_isMissing 0 0 0 [.ref (x0)] h (pI Q) := by
  refine cm_of [some (.ref (x0))] rfl pnX8 (Nat.le_of_ble_eq_true rfl) rfl ?_
  unfold wX8_isMissing at hw
  refine q_aload_nr eX8_isMissing_0 rfl ?_
  obtain ⟨hs1, hw⟩ := hw
  refine q_getI flX8_15 rfl hs1 eX8_isMissing_1 ?_
  have hj4 : Wm MX8_isMissing 0 0 0 12 [some (.ref (x0))] [.int ((if 0 ≤ hI h x0 1 then nI 0 else nI 1))] h (pI Q) := by
    obtain ⟨hz3, hw⟩ := hw
    exact q_retZ rfl hz3 eX8_isMissing_12 ⟨_, rfl, hw⟩
  refine q_if_ge (tgt := 11) eX8_isMissing_4 (by decide) (fun c => ?_) (fun c => ?_)
  · refine q_iconst (v := nI 0) eX8_isMissing_11 (by decide) ?_
    rw [if_pos c] at hj4
    exact hj4
  · refine q_iconst (v := nI 1) eX8_isMissing_7 (by decide) ?_
    refine q_goto (tgt := 12) eX8_isMissing_8 (by decide) ?_
    rw [if_neg c] at hj4
    exact hj4
def wX8_begin_12 (Q : MH → Prop) : Nat → Nat → Int32 → MH → Prop
  | 0, _, _, _ => False
  | n + 1, x0, x3, h => (nI 40 ≤ x3 → Q h) ∧ (¬ (nI 40 ≤ x3) → hS h x0 = (1, 8) ∧ ∃ a5, hR h x0 2 = some a5 ∧ ∃ n8, hS h a5 = (3, n8) ∧ vp_in (x3) n8 ∧ ∀ h10, h10 = sL h a5 (x3).toNatClampNeg ((0 : Int64)) → wX8_begin_12 Q n x0 (x3 + nI 1) h10)
set_option maxHeartbeats 4000000 in
set_option maxRecDepth 100000 in
theorem tX8_begin_12 {Q : MH → Prop} : ∀ (n : Nat) (h : MH) (x0 : Nat) (x3 : Int32), wX8_begin_12 Q n x0 x3 h → Wm MX8_begin 0 0 0 12 [some (.ref (x0)), none, none, some (.int (x3))] [] h (pV Q) := by
  intro n
  induction n with
  | zero => intro h x0 x3 hw; exact hw.elim
  | succ n ih =>
    intro h x0 x3 hw
    unfold wX8_begin_12 at hw
    refine q_iload_n eX8_begin_12 rfl ?_
    refine q_bipush (v := nI 40) eX8_begin_13 (by decide) ?_
    obtain ⟨hw1, hw2⟩ := hw
    refine q_icmp_ge (tgt := 31) eX8_begin_15 (by decide) (fun c => ?_) (fun c => ?_)
    · have hw := hw1 c
      exact q_retV rfl eX8_begin_31 ⟨rfl, hw⟩
    · have hw := hw2 c
      refine q_aload_nr eX8_begin_18 rfl ?_
      obtain ⟨hs4, hw⟩ := hw
      obtain ⟨a5, hr6, hw⟩ := hw
      refine q_getR flX8_18 rfl hs4 hr6 eX8_begin_19 ?_
      refine q_iload_n eX8_begin_22 rfl ?_
      refine q_lconst (v := (0 : Int64)) eX8_begin_23 (by decide) ?_
      obtain ⟨n8, hs7, hw⟩ := hw
      obtain ⟨hi9, hw⟩ := hw
      have hw := hw _ rfl
      refine q_last hs7 hi9 eX8_begin_24 ?_
      refine x_iinc (v := (x3 + nI 1)) (ls' := [_, _, _, _]) eX8_begin_25 rfl rfl rfl rfl ?_
      refine q_goto (tgt := 12) eX8_begin_28 (by decide) ?_
      refine q_le (ls' := [some _, none, none, some _]) ⟨rfl, rfl, trivial⟩ ?_
      exact ih _ _ _ hw
def wX8_begin (x0 : Nat) (x1 : Int32) (x2 : Int32) (h : MH) (Q : MH → Prop) : Prop := hS h x0 = (1, 8) ∧ ∀ h2, h2 = sI h x0 0 (x1) → ∀ h3, h3 = sI h2 x0 1 (x2) → ∃ m11, wX8_begin_12 Q m11 x0 (nI 0) h3
set_option maxHeartbeats 4000000 in
set_option maxRecDepth 100000 in
theorem gX8_begin (x0 : Nat) (x1 : Int32) (x2 : Int32) (h : MH) (Q : MH → Prop) (hw : wX8_begin x0 x1 x2 h Q) : Cm MX8_begin 0 0 0 [.ref (x0), .int (x1), .int (x2)] h (pV Q) := by
  refine cm_of [some (.ref (x0)), some (.int (x1)), some (.int (x2)), none] rfl pnX8 (Nat.le_of_ble_eq_true rfl) rfl ?_
  unfold wX8_begin at hw
  refine q_aload_nr eX8_begin_0 rfl ?_
  refine q_iload_n eX8_begin_1 rfl ?_
  obtain ⟨hs1, hw⟩ := hw
  have hw := hw _ rfl
  refine q_putI (fwX8_9 _) rfl hs1 eX8_begin_2 ?_
  refine q_aload_nr eX8_begin_5 rfl ?_
  refine q_iload_n eX8_begin_6 rfl ?_
  have hw := hw _ rfl
  refine q_putI (fwX8_15 _) rfl hs1 eX8_begin_7 ?_
  refine q_iconst (v := nI 0) eX8_begin_10 (by decide) ?_
  refine x_istore_n (ls' := [_, _, _, _]) eX8_begin_11 (by decide) rfl rfl ?_
  refine q_le (ls' := [some _, none, none, some _]) ⟨rfl, rfl, trivial⟩ ?_
  obtain ⟨m11, hw⟩ := hw
  exact tX8_begin_12 m11 _ _ _ hw
def wX8_put (x0 : Nat) (x1 : Int32) (x2 : Int64) (h : MH) (Q : MH → Prop) : Prop := hS h x0 = (1, 8) ∧ ((hI h x0 0).toInt < 0 ∨ 2 < (hI h x0 0).toInt → ∃ a2, hR h x0 2 = some a2 ∧ ∃ n5, hS h a2 = (3, n5) ∧ vp_in (x1) n5 ∧ ∀ h7, h7 = sL h a2 (x1).toNatClampNeg (x2) → Q h7) ∧ (hI h x0 0 = nI 0 → ∃ a8, hR h x0 2 = some a8 ∧ ∃ n11, hS h a8 = (3, n11) ∧ vp_in (x1) n11 ∧ ∀ h13, h13 = sL h a8 (x1).toNatClampNeg ((((x2).toInt32).toInt8.toInt32).toInt64) → Q h13) ∧ (hI h x0 0 = nI 1 → ∃ a14, hR h x0 2 = some a14 ∧ ∃ n17, hS h a14 = (3, n17) ∧ vp_in (x1) n17 ∧ ∀ h19, h19 = sL h a14 (x1).toNatClampNeg ((((x2).toInt32).toInt16.toInt32).toInt64) → Q h19) ∧ (hI h x0 0 = nI 2 → ∃ a20, hR h x0 2 = some a20 ∧ ∃ n23, hS h a20 = (3, n23) ∧ vp_in (x1) n23 ∧ ∀ h25, h25 = sL h a20 (x1).toNatClampNeg (((x2).toInt32).toInt64) → Q h25)
set_option maxHeartbeats 4000000 in
set_option maxRecDepth 100000 in
theorem gX8_put (x0 : Nat) (x1 : Int32) (x2 : Int64) (h : MH) (Q : MH → Prop) (hw : wX8_put x0 x1 x2 h Q) : Cm MX8_put 0 0 0 [.ref (x0), .int (x1), .long (x2)] h (pV Q) := by
  refine cm_of [some (.ref (x0)), some (.int (x1)), some (.long (x2)), none] rfl pnX8 (Nat.le_of_ble_eq_true rfl) rfl ?_
  unfold wX8_put at hw
  refine q_aload_nr eX8_put_0 rfl ?_
  obtain ⟨hs1, hw⟩ := hw
  refine q_getI flX8_9 rfl hs1 eX8_put_1 ?_
  obtain ⟨hw0, hw1, hw2, hw3⟩ := hw
  by_cases hx : (hI h x0 0).toInt < 0 ∨ 2 < (hI h x0 0).toInt
  · have hw := hw0 hx
    refine q_tabOut (tgt := 70) eX8_put_4 hx (by decide) ?_
    refine q_aload_nr eX8_put_70 rfl ?_
    obtain ⟨a2, hr3, hw⟩ := hw
    refine q_getR flX8_18 rfl hs1 hr3 eX8_put_71 ?_
    refine q_iload_n eX8_put_74 rfl ?_
    refine q_lload_n eX8_put_75 rfl ?_
    obtain ⟨n5, hs4, hw⟩ := hw
    obtain ⟨hi6, hw⟩ := hw
    have hw := hw _ rfl
    refine q_last hs4 hi6 eX8_put_76 ?_
    exact q_retV rfl eX8_put_77 ⟨rfl, hw⟩
  · have hk : (hI h x0 0).toInt = 0 ∨ (hI h x0 0).toInt = 1 ∨ (hI h x0 0).toInt = 2 := by omega
    rcases hk with hk | hk | hk
    · have hw := hw1 (x_toInt (by decide) hk)
      refine q_tabIn (off := 28) (tgt := 32) eX8_put_4 (by omega) (by omega) (by rw [hk]; rfl) (by decide) ?_
      refine q_aload_nr eX8_put_32 rfl ?_
      obtain ⟨a8, hr9, hw⟩ := hw
      refine q_getR flX8_18 rfl hs1 hr9 eX8_put_33 ?_
      refine q_iload_n eX8_put_36 rfl ?_
      refine q_lload_n eX8_put_37 rfl ?_
      refine q_l2i eX8_put_38 ?_
      refine q_i2b eX8_put_39 ?_
      refine q_i2l eX8_put_40 ?_
      obtain ⟨n11, hs10, hw⟩ := hw
      obtain ⟨hi12, hw⟩ := hw
      have hw := hw _ rfl
      refine q_last hs10 hi12 eX8_put_41 ?_
      refine q_goto (tgt := 77) eX8_put_42 (by decide) ?_
      exact q_retV rfl eX8_put_77 ⟨rfl, hw⟩
    · have hw := hw2 (x_toInt (by decide) hk)
      refine q_tabIn (off := 41) (tgt := 45) eX8_put_4 (by omega) (by omega) (by rw [hk]; rfl) (by decide) ?_
      refine q_aload_nr eX8_put_45 rfl ?_
      obtain ⟨a14, hr15, hw⟩ := hw
      refine q_getR flX8_18 rfl hs1 hr15 eX8_put_46 ?_
      refine q_iload_n eX8_put_49 rfl ?_
      refine q_lload_n eX8_put_50 rfl ?_
      refine q_l2i eX8_put_51 ?_
      refine q_i2s eX8_put_52 ?_
      refine q_i2l eX8_put_53 ?_
      obtain ⟨n17, hs16, hw⟩ := hw
      obtain ⟨hi18, hw⟩ := hw
      have hw := hw _ rfl
      refine q_last hs16 hi18 eX8_put_54 ?_
      refine q_goto (tgt := 77) eX8_put_55 (by decide) ?_
      exact q_retV rfl eX8_put_77 ⟨rfl, hw⟩
    · have hw := hw3 (x_toInt (by decide) hk)
      refine q_tabIn (off := 54) (tgt := 58) eX8_put_4 (by omega) (by omega) (by rw [hk]; rfl) (by decide) ?_
      refine q_aload_nr eX8_put_58 rfl ?_
      obtain ⟨a20, hr21, hw⟩ := hw
      refine q_getR flX8_18 rfl hs1 hr21 eX8_put_59 ?_
      refine q_iload_n eX8_put_62 rfl ?_
      refine q_lload_n eX8_put_63 rfl ?_
      refine q_l2i eX8_put_64 ?_
      refine q_i2l eX8_put_65 ?_
      obtain ⟨n23, hs22, hw⟩ := hw
      obtain ⟨hi24, hw⟩ := hw
      have hw := hw _ rfl
      refine q_last hs22 hi24 eX8_put_66 ?_
      refine q_goto (tgt := 77) eX8_put_67 (by decide) ?_
      exact q_retV rfl eX8_put_77 ⟨rfl, hw⟩
def wX9_newTrays_7 (Q : Nat → MH → Prop) : Nat → Nat → Nat → Nat → Int32 → MH → Prop
  | 0, _, _, _, _, _ => False
  | n + 1, b, t, x0, x1, h => (nI 4 ≤ x1 → Q (x0) h) ∧ (¬ (nI 4 ≤ x1) → 1 ≤ b ∧ 3 ≤ t ∧ ∀ a7, a7 = hN h → ∀ h8, h8 = al h (1, 8) → 1 ≤ (b - 1) ∧ 40 ≤ (t - 3) ∧ wX8_init 1 40 a7 h8 (fun h12 => ∃ n14, hS h12 x0 = (7, n14) ∧ vp_in (x1) n14 ∧ hS h12 a7 = (1, 8) ∧ ∀ h16, h16 = sR h12 x0 (x1).toNatClampNeg (some a7) → wX9_newTrays_7 Q n (b - 2) (t - 43) x0 (x1 + nI 1) h16))
set_option maxHeartbeats 4000000 in
set_option maxRecDepth 100000 in
theorem tX9_newTrays_7 {Q : Nat → MH → Prop} : ∀ (n : Nat) (h : MH) (b t : Nat) (x0 : Nat) (x1 : Int32), wX9_newTrays_7 Q n b t x0 x1 h → Wm MX9_newTrays 2 b t 7 [some (.ref (x0)), some (.int (x1))] [] h (pR Q) := by
  intro n
  induction n with
  | zero => intro h b t x0 x1 hw; exact hw.elim
  | succ n ih =>
    intro h b t x0 x1 hw
    unfold wX9_newTrays_7 at hw
    refine q_iload_n eX9_newTrays_7 rfl ?_
    refine q_iconst (v := nI 4) eX9_newTrays_8 (by decide) ?_
    obtain ⟨hw1, hw2⟩ := hw
    refine q_icmp_ge (tgt := 28) eX9_newTrays_9 (by decide) (fun c => ?_) (fun c => ?_)
    · have hw := hw1 c
      refine q_aload_nr eX9_newTrays_28 rfl ?_
      exact q_retR (r := some x0) (Or.inr ⟨_, rfl⟩) eX9_newTrays_29 ⟨_, rfl, hw⟩
    · have hw := hw2 c
      refine q_aload_nr eX9_newTrays_12 rfl ?_
      refine q_iload_n eX9_newTrays_13 rfl ?_
      obtain ⟨hc5, hc6, hw⟩ := hw
      have hw := hw _ rfl _ rfl
      refine q_bud (b' := (b - 1) + 1) (t' := (t - 3) + 3) (by omega) (by omega) ?_
      refine q_new (c := 8) rfl clX9_84 inX8 iNX8 eX9_newTrays_14 ?_
      refine q_dup eX9_newTrays_17 rfl ?_
      obtain ⟨hc9, hc10, hw⟩ := hw
      refine q_bud (b' := (b - 2) + 1) (t' := (t - 43) + 40) (by omega) (by omega) ?_
      refine q_callIN (b := (b - 2)) (t := (t - 43)) (gX8_init 1 40 _ _ _ hw) rfl (host := "SpareRings") (by decide +kernel) kX8_init vX8_init rfl (by decide) rfl (Nat.le_of_ble_eq_true rfl) eX9_newTrays_18 (kV fun h12 hw => ?_)
      obtain ⟨n14, hs13, hw⟩ := hw
      obtain ⟨hi15, hw⟩ := hw
      obtain ⟨hs17, hw⟩ := hw
      have hw := hw _ rfl
      refine q_aast (Or.inr (Or.inl rfl)) hs13 hs17 hi15 eX9_newTrays_21 ?_
      refine x_iinc (v := (x1 + nI 1)) (ls' := [_, _]) eX9_newTrays_22 rfl rfl rfl rfl ?_
      refine q_goto (tgt := 7) eX9_newTrays_25 (by decide) ?_
      refine q_le (ls' := [some _, some _]) ⟨rfl, rfl, trivial⟩ ?_
      exact ih _ _ _ _ _ hw
def wX9_newTrays (b t : Nat)  (h : MH) (Q : Nat → MH → Prop) : Prop := 1 ≤ b ∧ 4 ≤ t ∧ ∀ a1, a1 = hN h → ∀ h2, h2 = al h (7, 4) → ∃ m18, wX9_newTrays_7 Q m18 (b - 1) (t - 4) a1 (nI 0) h2
set_option maxHeartbeats 4000000 in
set_option maxRecDepth 100000 in
theorem gX9_newTrays (b t : Nat)  (h : MH) (Q : Nat → MH → Prop) (hw : wX9_newTrays b t  h Q) : Cm MX9_newTrays 2 b t [] h (pR Q) := by
  refine cm_of [none, none] rfl pnX9 (Nat.le_of_ble_eq_true rfl) rfl ?_
  unfold wX9_newTrays at hw
  refine q_iconst (v := nI 4) eX9_newTrays_0 (by decide) ?_
  obtain ⟨hc3, hc4, hw⟩ := hw
  have hw := hw _ rfl _ rfl
  refine q_bud (b' := (b - 1) + 1) (t' := (t - 4) + 4) (by omega) (by omega) ?_
  refine q_anew (k := 7) (Or.inr (Or.inl rfl)) rfl clX9_84 (by decide) (by decide) (by decide) eX9_newTrays_1 ?_
  refine x_astore_nr (ls' := [_, _]) eX9_newTrays_4 (by decide) rfl rfl ?_
  refine q_iconst (v := nI 0) eX9_newTrays_5 (by decide) ?_
  refine x_istore_n (ls' := [_, _]) eX9_newTrays_6 (by decide) rfl rfl ?_
  refine q_le (ls' := [some _, some _]) ⟨rfl, rfl, trivial⟩ ?_
  obtain ⟨m18, hw⟩ := hw
  exact tX9_newTrays_7 m18 _ _ _ _ _ hw
def wX9_init (b t : Nat) (x0 : Nat) (h : MH) (Q : MH → Prop) : Prop := 1 ≤ b ∧ 11 ≤ t ∧ ∀ a3, a3 = hN h → ∀ h4, h4 = al h (1, 5) → 5 ≤ (b - 1) ∧ 1877 ≤ (t - 11) ∧ wX5_init 5 1877 a3 h4 (fun h8 => hS h8 x0 = (1, 9) ∧ ∀ h10, h10 = sR h8 x0 0 (some a3) → 1 ≤ (b - 6) ∧ 15 ≤ (t - 1888) ∧ ∀ a13, a13 = hN h10 → ∀ h14, h14 = al h10 (1, 4) → 10 ≤ (b - 7) ∧ 150 ≤ (t - 1903) ∧ wX4_init 10 150 a13 h14 (fun h18 => hS h18 x0 = (1, 9) ∧ ∀ h20, h20 = sR h18 x0 1 (some a13) → 1 ≤ (b - 17) ∧ 4 ≤ (t - 2053) ∧ ∀ a23, a23 = hN h20 → ∀ h24, h24 = al h20 (1, 6) → 2 ≤ (b - 18) ∧ 60 ≤ (t - 2057) ∧ wX6_init 2 60 a23 h24 (fun h28 => hS h28 x0 = (1, 9) ∧ ∀ h30, h30 = sR h28 x0 2 (some a23) → 1 ≤ (b - 20) ∧ 4 ≤ (t - 2117) ∧ ∀ a33, a33 = hN h30 → ∀ h34, h34 = al h30 (1, 6) → 2 ≤ (b - 21) ∧ 60 ≤ (t - 2121) ∧ wX6_init 2 60 a33 h34 (fun h38 => hS h38 x0 = (1, 9) ∧ ∀ h40, h40 = sR h38 x0 3 (some a33) → 13 ≤ (b - 23) ∧ 260 ≤ (t - 2181) ∧ wX9_newStates 13 260 (nI 4) h40 (fun r43 h44 => hS h44 x0 = (1, 9) ∧ ∀ h46, h46 = sR h44 x0 4 (some r43) → 1 ≤ (b - 36) ∧ 3 ≤ (t - 2441) ∧ ∀ a49, a49 = hN h46 → ∀ h50, h50 = al h46 (1, 2) → 31 ≤ (b - 37) ∧ 650 ≤ (t - 2444) ∧ wX2_init 31 650 a49 h50 (fun h54 => hS h54 x0 = (1, 9) ∧ ∀ h56, h56 = sR h54 x0 5 (some a49) → 1 ≤ (b - 68) ∧ 1 ≤ (t - 3094) ∧ ∀ a59, a59 = hN h56 → ∀ h60, h60 = al h56 (1, 7) → 1 ≤ (b - 69) ∧ 360 ≤ (t - 3095) ∧ wX7_init 1 360 a59 h60 (fun h64 => hS h64 x0 = (1, 9) ∧ ∀ h66, h66 = sR h64 x0 6 (some a59) → 1 ≤ (b - 70) ∧ 12 ≤ (t - 3455) ∧ ∀ a69, a69 = hN h66 → ∀ h70, h70 = al h66 (1, 0) → 5 ≤ (b - 71) ∧ 160 ≤ (t - 3467) ∧ wX0_init 5 160 a69 h70 (fun h74 => hS h74 x0 = (1, 9) ∧ ∀ h76, h76 = sR h74 x0 7 (some a69) → 1 ≤ (b - 76) ∧ 2 ≤ (t - 3627) ∧ ∀ a79, a79 = hN h76 → ∀ h80, h80 = al h76 (1, 1) → wX1_init a79 h80 (fun h82 => hS h82 x0 = (1, 9) ∧ ∀ h84, h84 = sR h82 x0 8 (some a79) → 9 ≤ (b - 77) ∧ 176 ≤ (t - 3629) ∧ wX9_newTrays 9 176 h84 (fun r87 h88 => hS h88 x0 = (1, 9) ∧ ∀ h90, h90 = sR h88 x0 9 (some r87) → 1 ≤ (b - 86) ∧ 2 ≤ (t - 3805) ∧ ∀ a91, a91 = hN h90 → ∀ h92, h92 = al h90 (8, 2) → hS h92 x0 = (1, 9) ∧ ∀ h96, h96 = sR h92 x0 10 (some a91) → 7 ≤ (b - 87) ∧ 130 ≤ (t - 3807) ∧ wX9_newStates 7 130 (nI 2) h96 (fun r99 h100 => hS h100 x0 = (1, 9) ∧ ∀ h102, h102 = sR h100 x0 11 (some r99) → Q h102)))))))))))
set_option maxHeartbeats 4000000 in
set_option maxRecDepth 100000 in
theorem gX9_init (b t : Nat) (x0 : Nat) (h : MH) (Q : MH → Prop) (hw : wX9_init b t x0 h Q) : Cm MX9_init 4 b t [.ref (x0)] h (pV Q) := by
  refine cm_of [some (.ref (x0))] rfl pnX9 (Nat.le_of_ble_eq_true rfl) rfl ?_
  unfold wX9_init at hw
  refine q_aload_nr eX9_init_0 rfl ?_
  refine q_objI mlX9_3 iOi cOi (by decide) (Nat.le_of_ble_eq_true rfl) eX9_init_1 ?_
  refine q_aload_nr eX9_init_4 rfl ?_
  obtain ⟨hc1, hc2, hw⟩ := hw
  refine q_bud (b' := (b - 1) + 1) (t' := (t - 11) + 11) (by omega) (by omega) ?_
  refine q_new (c := 5) rfl clX9_9 inX5 iNX5 eX9_init_5 ?_
  generalize hEa3 : hN h = a3
  generalize hEh4 : al h (1, 5) = h4
  have hw := hw a3 hEa3.symm h4 hEh4.symm
  refine q_dup eX9_init_8 rfl ?_
  obtain ⟨hc5, hc6, hw⟩ := hw
  refine q_bud (b' := (b - 6) + 5) (t' := (t - 1888) + 1877) (by omega) (by omega) ?_
  refine q_callIN (b := (b - 6)) (t := (t - 1888)) (gX5_init 5 1877 _ _ _ hw) rfl (host := "SpareRings") (by decide +kernel) kX5_init vX5_init rfl (by decide) rfl (Nat.le_of_ble_eq_true rfl) eX9_init_9 (kV fun h8 hw => ?_)
  obtain ⟨hs9, hw⟩ := hw
  refine q_putR fwX9_12 rfl hs9 eX9_init_12 ?_
  generalize hEh10 : sR h8 x0 0 (some a3) = h10
  have hw := hw h10 hEh10.symm
  refine q_aload_nr eX9_init_15 rfl ?_
  obtain ⟨hc11, hc12, hw⟩ := hw
  refine q_bud (b' := (b - 7) + 1) (t' := (t - 1903) + 15) (by omega) (by omega) ?_
  refine q_new (c := 4) rfl clX9_16 inX4 iNX4 eX9_init_16 ?_
  generalize hEa13 : hN h10 = a13
  generalize hEh14 : al h10 (1, 4) = h14
  have hw := hw a13 hEa13.symm h14 hEh14.symm
  refine q_dup eX9_init_19 rfl ?_
  obtain ⟨hc15, hc16, hw⟩ := hw
  refine q_bud (b' := (b - 17) + 10) (t' := (t - 2053) + 150) (by omega) (by omega) ?_
  refine q_callIN (b := (b - 17)) (t := (t - 2053)) (gX4_init 10 150 _ _ _ hw) rfl (host := "SpareRings") (by decide +kernel) kX4_init vX4_init rfl (by decide) rfl (Nat.le_of_ble_eq_true rfl) eX9_init_20 (kV fun h18 hw => ?_)
  obtain ⟨hs19, hw⟩ := hw
  refine q_putR (fwX9_19 _) rfl hs19 eX9_init_23 ?_
  generalize hEh20 : sR h18 x0 1 (some a13) = h20
  have hw := hw h20 hEh20.symm
  refine q_aload_nr eX9_init_26 rfl ?_
  obtain ⟨hc21, hc22, hw⟩ := hw
  refine q_bud (b' := (b - 18) + 1) (t' := (t - 2057) + 4) (by omega) (by omega) ?_
  refine q_new (c := 6) rfl clX9_23 inX6 iNX6 eX9_init_27 ?_
  generalize hEa23 : hN h20 = a23
  generalize hEh24 : al h20 (1, 6) = h24
  have hw := hw a23 hEa23.symm h24 hEh24.symm
  refine q_dup eX9_init_30 rfl ?_
  obtain ⟨hc25, hc26, hw⟩ := hw
  refine q_bud (b' := (b - 20) + 2) (t' := (t - 2117) + 60) (by omega) (by omega) ?_
  refine q_callI (b := (b - 20)) (t := (t - 2117)) (gX6_init 2 60 _ _ _ hw) rfl mlX9_25 kX6_init vX6_init rfl (by decide) rfl (Nat.le_of_ble_eq_true rfl) eX9_init_31 (kV fun h28 hw => ?_)
  obtain ⟨hs29, hw⟩ := hw
  refine q_putR fwX9_26 rfl hs29 eX9_init_34 ?_
  generalize hEh30 : sR h28 x0 2 (some a23) = h30
  have hw := hw h30 hEh30.symm
  refine q_aload_nr eX9_init_37 rfl ?_
  obtain ⟨hc31, hc32, hw⟩ := hw
  refine q_bud (b' := (b - 21) + 1) (t' := (t - 2121) + 4) (by omega) (by omega) ?_
  refine q_new (c := 6) rfl clX9_23 inX6 iNX6 eX9_init_38 ?_
  generalize hEa33 : hN h30 = a33
  generalize hEh34 : al h30 (1, 6) = h34
  have hw := hw a33 hEa33.symm h34 hEh34.symm
  refine q_dup eX9_init_41 rfl ?_
  obtain ⟨hc35, hc36, hw⟩ := hw
  refine q_bud (b' := (b - 23) + 2) (t' := (t - 2181) + 60) (by omega) (by omega) ?_
  refine q_callI (b := (b - 23)) (t := (t - 2181)) (gX6_init 2 60 _ _ _ hw) rfl mlX9_25 kX6_init vX6_init rfl (by decide) rfl (Nat.le_of_ble_eq_true rfl) eX9_init_42 (kV fun h38 hw => ?_)
  obtain ⟨hs39, hw⟩ := hw
  refine q_putR fwX9_30 rfl hs39 eX9_init_45 ?_
  generalize hEh40 : sR h38 x0 3 (some a33) = h40
  have hw := hw h40 hEh40.symm
  refine q_aload_nr eX9_init_48 rfl ?_
  refine q_iconst (v := nI 4) eX9_init_49 (by decide) ?_
  obtain ⟨hc41, hc42, hw⟩ := hw
  refine q_bud (b' := (b - 36) + 13) (t' := (t - 2441) + 260) (by omega) (by omega) ?_
  refine q_callS (b := (b - 36)) (t := (t - 2441)) (gX9_newStates 13 260 _ _ _ hw) mlX9_33 kX9_newStates sX9_newStates rfl (by decide) rfl (Nat.le_of_ble_eq_true rfl) eX9_init_50 (kR fun r43 h44 hw => ?_)
  obtain ⟨hs45, hw⟩ := hw
  refine q_putR fwX9_37 rfl hs45 eX9_init_53 ?_
  generalize hEh46 : sR h44 x0 4 (some r43) = h46
  have hw := hw h46 hEh46.symm
  refine q_aload_nr eX9_init_56 rfl ?_
  obtain ⟨hc47, hc48, hw⟩ := hw
  refine q_bud (b' := (b - 37) + 1) (t' := (t - 2444) + 3) (by omega) (by omega) ?_
  refine q_new (c := 2) rfl clX9_41 inX2 iNX2 eX9_init_57 ?_
  generalize hEa49 : hN h46 = a49
  generalize hEh50 : al h46 (1, 2) = h50
  have hw := hw a49 hEa49.symm h50 hEh50.symm
  refine q_dup eX9_init_60 rfl ?_
  obtain ⟨hc51, hc52, hw⟩ := hw
  refine q_bud (b' := (b - 68) + 31) (t' := (t - 3094) + 650) (by omega) (by omega) ?_
  refine q_callIN (b := (b - 68)) (t := (t - 3094)) (gX2_init 31 650 _ _ _ hw) rfl (host := "SpareRings") (by decide +kernel) kX2_init vX2_init rfl (by decide) rfl (Nat.le_of_ble_eq_true rfl) eX9_init_61 (kV fun h54 hw => ?_)
  obtain ⟨hs55, hw⟩ := hw
  refine q_putR fwX9_44 rfl hs55 eX9_init_64 ?_
  generalize hEh56 : sR h54 x0 5 (some a49) = h56
  have hw := hw h56 hEh56.symm
  refine q_aload_nr eX9_init_67 rfl ?_
  obtain ⟨hc57, hc58, hw⟩ := hw
  refine q_bud (b' := (b - 69) + 1) (t' := (t - 3095) + 1) (by omega) (by omega) ?_
  refine q_new (c := 7) rfl clX9_48 inX7 iNX7 eX9_init_68 ?_
  generalize hEa59 : hN h56 = a59
  generalize hEh60 : al h56 (1, 7) = h60
  have hw := hw a59 hEa59.symm h60 hEh60.symm
  refine q_dup eX9_init_71 rfl ?_
  obtain ⟨hc61, hc62, hw⟩ := hw
  refine q_bud (b' := (b - 70) + 1) (t' := (t - 3455) + 360) (by omega) (by omega) ?_
  refine q_callIN (b := (b - 70)) (t := (t - 3455)) (gX7_init 1 360 _ _ _ hw) rfl (host := "SpareRings") (by decide +kernel) kX7_init vX7_init rfl (by decide) rfl (Nat.le_of_ble_eq_true rfl) eX9_init_72 (kV fun h64 hw => ?_)
  obtain ⟨hs65, hw⟩ := hw
  refine q_putR fwX9_51 rfl hs65 eX9_init_75 ?_
  generalize hEh66 : sR h64 x0 6 (some a59) = h66
  have hw := hw h66 hEh66.symm
  refine q_aload_nr eX9_init_78 rfl ?_
  obtain ⟨hc67, hc68, hw⟩ := hw
  refine q_bud (b' := (b - 71) + 1) (t' := (t - 3467) + 12) (by omega) (by omega) ?_
  refine q_new (c := 0) rfl clX9_55 inX0 iNX0 eX9_init_79 ?_
  generalize hEa69 : hN h66 = a69
  generalize hEh70 : al h66 (1, 0) = h70
  have hw := hw a69 hEa69.symm h70 hEh70.symm
  refine q_dup eX9_init_82 rfl ?_
  obtain ⟨hc71, hc72, hw⟩ := hw
  refine q_bud (b' := (b - 76) + 5) (t' := (t - 3627) + 160) (by omega) (by omega) ?_
  refine q_callIN (b := (b - 76)) (t := (t - 3627)) (gX0_init 5 160 _ _ _ hw) rfl (host := "SpareRings") (by decide +kernel) kX0_init vX0_init rfl (by decide) rfl (Nat.le_of_ble_eq_true rfl) eX9_init_83 (kV fun h74 hw => ?_)
  obtain ⟨hs75, hw⟩ := hw
  refine q_putR fwX9_58 rfl hs75 eX9_init_86 ?_
  generalize hEh76 : sR h74 x0 7 (some a69) = h76
  have hw := hw h76 hEh76.symm
  refine q_aload_nr eX9_init_89 rfl ?_
  obtain ⟨hc77, hc78, hw⟩ := hw
  refine q_bud (b' := (b - 77) + 1) (t' := (t - 3629) + 2) (by omega) (by omega) ?_
  refine q_new (c := 1) rfl clX9_62 inX1 iNX1 eX9_init_90 ?_
  generalize hEa79 : hN h76 = a79
  generalize hEh80 : al h76 (1, 1) = h80
  have hw := hw a79 hEa79.symm h80 hEh80.symm
  refine q_dup eX9_init_93 rfl ?_
  refine q_bud (b' := (b - 77) + 0) (t' := (t - 3629) + 0) (Nat.add_zero _) (Nat.add_zero _) ?_
  refine q_callIN (b := (b - 77)) (t := (t - 3629)) (gX1_init _ _ _ hw) rfl (host := "SpareRings") (by decide +kernel) kX1_init vX1_init rfl (by decide) rfl (Nat.le_of_ble_eq_true rfl) eX9_init_94 (kV fun h82 hw => ?_)
  obtain ⟨hs83, hw⟩ := hw
  refine q_putR fwX9_65 rfl hs83 eX9_init_97 ?_
  generalize hEh84 : sR h82 x0 8 (some a79) = h84
  have hw := hw h84 hEh84.symm
  refine q_aload_nr eX9_init_100 rfl ?_
  obtain ⟨hc85, hc86, hw⟩ := hw
  refine q_bud (b' := (b - 86) + 9) (t' := (t - 3805) + 176) (by omega) (by omega) ?_
  refine q_callS (b := (b - 86)) (t := (t - 3805)) (gX9_newTrays 9 176  _ _ hw) mlX9_69 kX9_newTrays sX9_newTrays rfl (by decide) rfl (Nat.le_of_ble_eq_true rfl) eX9_init_101 (kR fun r87 h88 hw => ?_)
  obtain ⟨hs89, hw⟩ := hw
  refine q_putR fwX9_73 rfl hs89 eX9_init_104 ?_
  generalize hEh90 : sR h88 x0 9 (some r87) = h90
  have hw := hw h90 hEh90.symm
  refine q_aload_nr eX9_init_107 rfl ?_
  refine q_iconst (v := nI 2) eX9_init_108 (by decide) ?_
  obtain ⟨hc93, hc94, hw⟩ := hw
  refine q_bud (b' := (b - 87) + 1) (t' := (t - 3807) + 2) (by omega) (by omega) ?_
  refine q_anew (k := 8) (Or.inr (Or.inr rfl)) rfl clX9_16 (by decide) (by decide) (by decide) eX9_init_109 ?_
  generalize hEa91 : hN h90 = a91
  generalize hEh92 : al h90 (8, 2) = h92
  have hw := hw a91 hEa91.symm h92 hEh92.symm
  obtain ⟨hs95, hw⟩ := hw
  refine q_putR fwX9_77 rfl hs95 eX9_init_112 ?_
  generalize hEh96 : sR h92 x0 10 (some a91) = h96
  have hw := hw h96 hEh96.symm
  refine q_aload_nr eX9_init_115 rfl ?_
  refine q_iconst (v := nI 2) eX9_init_116 (by decide) ?_
  obtain ⟨hc97, hc98, hw⟩ := hw
  refine q_bud (b' := (b - 94) + 7) (t' := (t - 3937) + 130) (by omega) (by omega) ?_
  refine q_callS (b := (b - 94)) (t := (t - 3937)) (gX9_newStates 7 130 _ _ _ hw) mlX9_33 kX9_newStates sX9_newStates rfl (by decide) rfl (Nat.le_of_ble_eq_true rfl) eX9_init_117 (kR fun r99 h100 hw => ?_)
  obtain ⟨hs101, hw⟩ := hw
  refine q_putR fwX9_81 rfl hs101 eX9_init_120 ?_
  generalize hEh102 : sR h100 x0 11 (some r99) = h102
  have hw := hw h102 hEh102.symm
  exact q_retV rfl eX9_init_123 ⟨rfl, hw⟩
def wX9_feed (x0 : Nat) (x1 : Int32) (x2 : Int32) (x3 : Int32) (x4 : Int32) (x5 : Int32) (h : MH) (Q : Int32 → MH → Prop) : Prop := hS h x0 = (1, 9) ∧ ∃ a2, hR h x0 0 = some a2 ∧ hS h a2 = (1, 5) ∧ ((hI h a2 0 + nI 20) ≤ nI 900 → wX5_putOnTape a2 x1 h (fun h6 => hS h6 x0 = (1, 9) ∧ ∃ a8, hR h6 x0 0 = some a8 ∧ hS h6 a8 = (1, 5) ∧ wX5_putOnTape a8 x2 h6 (fun h12 => hS h12 x0 = (1, 9) ∧ ∃ a14, hR h12 x0 0 = some a14 ∧ hS h12 a14 = (1, 5) ∧ wX5_putOnTape a14 x3 h12 (fun h18 => hS h18 x0 = (1, 9) ∧ ∃ a20, hR h18 x0 0 = some a20 ∧ hS h18 a20 = (1, 5) ∧ wX5_putOnTape a20 x4 h18 (fun h24 => hS h24 x0 = (1, 9) ∧ ∃ a26, hR h24 x0 0 = some a26 ∧ hS h24 a26 = (1, 5) ∧ wX5_putOnTape a26 x5 h24 (fun h30 => hS h30 x0 = (1, 9) ∧ ∃ a32, hR h30 x0 0 = some a32 ∧ hS h30 a32 = (1, 5) ∧ Q (hI h30 a32 0) h30)))))) ∧ (¬ ((hI h a2 0 + nI 20) ≤ nI 900) → Q ((-5 : Int32)) h)
set_option maxHeartbeats 4000000 in
set_option maxRecDepth 100000 in
theorem gX9_feed (x0 : Nat) (x1 : Int32) (x2 : Int32) (x3 : Int32) (x4 : Int32) (x5 : Int32) (h : MH) (Q : Int32 → MH → Prop) (hw : wX9_feed x0 x1 x2 x3 x4 x5 h Q) : Cm MX9_feed 1 0 0 [.ref (x0), .int (x1), .int (x2), .int (x3), .int (x4), .int (x5)] h (pI Q) := by
  refine cm_of [some (.ref (x0)), some (.int (x1)), some (.int (x2)), some (.int (x3)), some (.int (x4)), some (.int (x5))] rfl pnX9 (Nat.le_of_ble_eq_true rfl) rfl ?_
  unfold wX9_feed at hw
  refine q_aload_nr eX9_feed_0 rfl ?_
  obtain ⟨hs1, hw⟩ := hw
  obtain ⟨a2, hr3, hw⟩ := hw
  refine q_getR flX9_12 rfl hs1 hr3 eX9_feed_1 ?_
  obtain ⟨hs4, hw⟩ := hw
  refine q_getI flX9_87 rfl hs4 eX9_feed_4 ?_
  refine q_bipush (v := nI 20) eX9_feed_7 (by decide) ?_
  refine q_iadd eX9_feed_9 ?_
  refine q_sipush (v := nI 900) eX9_feed_10 (by decide) ?_
  obtain ⟨hw1, hw2⟩ := hw
  refine q_icmp_le (tgt := 19) eX9_feed_13 (by decide) (fun c => ?_) (fun c => ?_)
  · have hw := hw1 c
    refine q_aload_nr eX9_feed_19 rfl ?_
    refine q_getR flX9_12 rfl hs1 hr3 eX9_feed_20 ?_
    refine q_iload_n eX9_feed_23 rfl ?_
    refine q_callV (b := 0) (t := 0) (gX5_putOnTape _ _ _ _ hw) mlX9_91 kX5_putOnTape vX5_putOnTape rfl hs4 ⟨rfl, rfl⟩ (by decide) rfl (Nat.le_of_ble_eq_true rfl) eX9_feed_24 (kV fun h6 hw => ?_)
    refine q_aload_nr eX9_feed_27 rfl ?_
    obtain ⟨hs7, hw⟩ := hw
    obtain ⟨a8, hr9, hw⟩ := hw
    refine q_getR flX9_12 rfl hs7 hr9 eX9_feed_28 ?_
    refine q_iload_n eX9_feed_31 rfl ?_
    obtain ⟨hs10, hw⟩ := hw
    refine q_callV (b := 0) (t := 0) (gX5_putOnTape _ _ _ _ hw) mlX9_91 kX5_putOnTape vX5_putOnTape rfl hs10 ⟨rfl, rfl⟩ (by decide) rfl (Nat.le_of_ble_eq_true rfl) eX9_feed_32 (kV fun h12 hw => ?_)
    refine q_aload_nr eX9_feed_35 rfl ?_
    obtain ⟨hs13, hw⟩ := hw
    obtain ⟨a14, hr15, hw⟩ := hw
    refine q_getR flX9_12 rfl hs13 hr15 eX9_feed_36 ?_
    refine q_iload_n eX9_feed_39 rfl ?_
    obtain ⟨hs16, hw⟩ := hw
    refine q_callV (b := 0) (t := 0) (gX5_putOnTape _ _ _ _ hw) mlX9_91 kX5_putOnTape vX5_putOnTape rfl hs16 ⟨rfl, rfl⟩ (by decide) rfl (Nat.le_of_ble_eq_true rfl) eX9_feed_40 (kV fun h18 hw => ?_)
    refine q_aload_nr eX9_feed_43 rfl ?_
    obtain ⟨hs19, hw⟩ := hw
    obtain ⟨a20, hr21, hw⟩ := hw
    refine q_getR flX9_12 rfl hs19 hr21 eX9_feed_44 ?_
    refine q_iload eX9_feed_47 rfl ?_
    obtain ⟨hs22, hw⟩ := hw
    refine q_callV (b := 0) (t := 0) (gX5_putOnTape _ _ _ _ hw) mlX9_91 kX5_putOnTape vX5_putOnTape rfl hs22 ⟨rfl, rfl⟩ (by decide) rfl (Nat.le_of_ble_eq_true rfl) eX9_feed_49 (kV fun h24 hw => ?_)
    refine q_aload_nr eX9_feed_52 rfl ?_
    obtain ⟨hs25, hw⟩ := hw
    obtain ⟨a26, hr27, hw⟩ := hw
    refine q_getR flX9_12 rfl hs25 hr27 eX9_feed_53 ?_
    refine q_iload eX9_feed_56 rfl ?_
    obtain ⟨hs28, hw⟩ := hw
    refine q_callV (b := 0) (t := 0) (gX5_putOnTape _ _ _ _ hw) mlX9_91 kX5_putOnTape vX5_putOnTape rfl hs28 ⟨rfl, rfl⟩ (by decide) rfl (Nat.le_of_ble_eq_true rfl) eX9_feed_58 (kV fun h30 hw => ?_)
    refine q_aload_nr eX9_feed_61 rfl ?_
    obtain ⟨hs31, hw⟩ := hw
    obtain ⟨a32, hr33, hw⟩ := hw
    refine q_getR flX9_12 rfl hs31 hr33 eX9_feed_62 ?_
    obtain ⟨hs34, hw⟩ := hw
    refine q_getI flX9_87 rfl hs34 eX9_feed_65 ?_
    exact q_ret rfl eX9_feed_68 ⟨_, rfl, hw⟩
  · have hw := hw2 c
    refine q_bipush (v := (-5 : Int32)) eX9_feed_16 (by decide) ?_
    exact q_ret rfl eX9_feed_18 ⟨_, rfl, hw⟩
def wX9_net (b t : Nat) (x0 : Nat) (x1 : Int32) (h : MH) (Q : Int32 → MH → Prop) : Prop := (x1 < 0 → Q ((-3 : Int32)) h) ∧ (¬ (x1 < 0) → hS h x0 = (1, 9) ∧ ∃ a2, hR h x0 0 = some a2 ∧ hS h a2 = (1, 5) ∧ (x1 ≤ hI h a2 0 → 16 ≤ b ∧ 1125 ≤ t ∧ wX5_readNet 16 1125 a2 x1 h (fun r7 h8 => (∀ a9, r7 = some a9 → hS h8 x0 = (1, 9) ∧ ∀ h11, h11 = sR h8 x0 1 (some a9) → ∃ a12, hR h11 x0 2 = some a12 ∧ hS h11 a9 = (1, 4) ∧ hS h11 a12 = (1, 6) ∧ wX6_begin a12 (hI h11 a9 1) h11 (fun h17 => hS h17 x0 = (1, 9) ∧ ∃ a19, hR h17 x0 5 = some a19 ∧ hS h17 a19 = (1, 2) ∧ wX2_forget a19 h17 (fun h23 => hS h23 a9 = (1, 4) ∧ Q (hI h23 a9 2) h23))) ∧ (r7 = none → hS h8 x0 = (1, 9) ∧ ∃ a26, hR h8 x0 0 = some a26 ∧ hS h8 a26 = (1, 5) ∧ Q (((-30 : Int32) - hI h8 a26 1)) h8))) ∧ (¬ (x1 ≤ hI h a2 0) → Q ((-3 : Int32)) h))
set_option maxHeartbeats 4000000 in
set_option maxRecDepth 100000 in
theorem gX9_net (b t : Nat) (x0 : Nat) (x1 : Int32) (h : MH) (Q : Int32 → MH → Prop) (hw : wX9_net b t x0 x1 h Q) : Cm MX9_net 304 b t [.ref (x0), .int (x1)] h (pI Q) := by
  refine cm_of [some (.ref (x0)), some (.int (x1)), none] rfl pnX9 (Nat.le_of_ble_eq_true rfl) rfl ?_
  unfold wX9_net at hw
  refine q_iload_n eX9_net_0 rfl ?_
  obtain ⟨hw1, hw2⟩ := hw
  refine q_if_lt (tgt := 15) eX9_net_1 (by decide) (fun c => ?_) (fun c => ?_)
  · have hw := hw1 c
    refine q_bipush (v := (-3 : Int32)) eX9_net_15 (by decide) ?_
    exact q_ret rfl eX9_net_17 ⟨_, rfl, hw⟩
  · have hw := hw2 c
    refine q_iload_n eX9_net_4 rfl ?_
    refine q_aload_nr eX9_net_5 rfl ?_
    obtain ⟨hs1, hw⟩ := hw
    obtain ⟨a2, hr3, hw⟩ := hw
    refine q_getR flX9_12 rfl hs1 hr3 eX9_net_6 ?_
    obtain ⟨hs4, hw⟩ := hw
    refine q_getI flX9_87 rfl hs4 eX9_net_9 ?_
    obtain ⟨hw1, hw2⟩ := hw
    refine q_icmp_le (tgt := 18) eX9_net_12 (by decide) (fun c => ?_) (fun c => ?_)
    · have hw := hw1 c
      refine q_aload_nr eX9_net_18 rfl ?_
      refine q_getR flX9_12 rfl hs1 hr3 eX9_net_19 ?_
      refine q_iload_n eX9_net_22 rfl ?_
      obtain ⟨hc5, hc6, hw⟩ := hw
      refine q_bud (b' := (b - 16) + 16) (t' := (t - 1125) + 1125) (by omega) (by omega) ?_
      refine q_callV (b := (b - 16)) (t := (t - 1125)) (gX5_readNet 16 1125 _ _ _ _ hw) mlX9_95 kX5_readNet vX5_readNet rfl hs4 ⟨rfl, rfl⟩ (by decide) rfl (Nat.le_of_ble_eq_true rfl) eX9_net_23 (kO fun r7 h8 hw => ?_)
      refine x_astore_n (ls' := [_, _, _]) eX9_net_26 (by decide) rfl rfl ?_
      refine q_aload_n eX9_net_27 rfl ?_
      obtain ⟨hw1, hw2⟩ := hw
      refine q_ifnonnull (tgt := 42) eX9_net_28 (by decide) (fun a9 c => ?_) (fun c => ?_)
      · have hw := hw1 _ c
        rw [c]
        show Wm _ _ _ _ _ [some (.ref (x0)), some (.int (x1)), some (.ref (a9))] _ _ _
        refine q_aload_nr eX9_net_42 rfl ?_
        refine q_aload_nr eX9_net_43 rfl ?_
        obtain ⟨hs10, hw⟩ := hw
        have hw := hw _ rfl
        refine q_putR (fwX9_19 _) rfl hs10 eX9_net_44 ?_
        refine q_aload_nr eX9_net_47 rfl ?_
        obtain ⟨a12, hr13, hw⟩ := hw
        refine q_getR flX9_26 rfl hs10 hr13 eX9_net_48 ?_
        refine q_aload_nr eX9_net_51 rfl ?_
        obtain ⟨hs14, hw⟩ := hw
        refine q_getI flX9_102 rfl hs14 eX9_net_52 ?_
        obtain ⟨hs15, hw⟩ := hw
        refine q_bud (b' := (b - 16) + 0) (t' := (t - 1125) + 0) (Nat.add_zero _) (Nat.add_zero _) ?_
        refine q_callV (b := (b - 16)) (t := (t - 1125)) (gX6_begin _ _ _ _ hw) mlX9_105 kX6_begin vX6_begin rfl hs15 ⟨rfl, rfl⟩ (by decide) rfl (Nat.le_of_ble_eq_true rfl) eX9_net_55 (kV fun h17 hw => ?_)
        refine q_aload_nr eX9_net_58 rfl ?_
        obtain ⟨hs18, hw⟩ := hw
        obtain ⟨a19, hr20, hw⟩ := hw
        refine q_getR flX9_44 rfl hs18 hr20 eX9_net_59 ?_
        obtain ⟨hs21, hw⟩ := hw
        refine q_bud (b' := (b - 16) + 0) (t' := (t - 1125) + 0) (Nat.add_zero _) (Nat.add_zero _) ?_
        refine q_callV (b := (b - 16)) (t := (t - 1125)) (gX2_forget _ _ _ hw) mlX9_108 kX2_forget vX2_forget rfl hs21 ⟨rfl, rfl⟩ (by decide) rfl (Nat.le_of_ble_eq_true rfl) eX9_net_62 (kV fun h23 hw => ?_)
        refine q_aload_nr eX9_net_65 rfl ?_
        obtain ⟨hs24, hw⟩ := hw
        refine q_getI flX9_111 rfl hs24 eX9_net_66 ?_
        exact q_ret rfl eX9_net_69 ⟨_, rfl, hw⟩
      · have hw := hw2 c
        refine q_bipush (v := (-30 : Int32)) eX9_net_31 (by decide) ?_
        refine q_aload_nr eX9_net_33 rfl ?_
        obtain ⟨hs25, hw⟩ := hw
        obtain ⟨a26, hr27, hw⟩ := hw
        refine q_getR flX9_12 rfl hs25 hr27 eX9_net_34 ?_
        obtain ⟨hs28, hw⟩ := hw
        refine q_getI flX9_99 rfl hs28 eX9_net_37 ?_
        refine q_isub eX9_net_40 ?_
        exact q_ret rfl eX9_net_41 ⟨_, rfl, hw⟩
    · have hw := hw2 c
      refine q_bipush (v := (-3 : Int32)) eX9_net_15 (by decide) ?_
      exact q_ret rfl eX9_net_17 ⟨_, rfl, hw⟩
def wX9_fault (x0 : Nat) (x1 : Int32) (h : MH) (Q : Int32 → MH → Prop) : Prop := (¬ x1 = nI 0 → ¬ x1 = nI 1 → Q ((-1 : Int32)) h) ∧ (x1 = nI 0 → hS h x0 = (1, 9) ∧ ∃ a2, hR h x0 0 = some a2 ∧ hS h a2 = (1, 5) ∧ Q (hI h a2 1) h) ∧ (x1 = nI 1 → hS h x0 = (1, 9) ∧ ∃ a6, hR h x0 0 = some a6 ∧ hS h a6 = (1, 5) ∧ Q (hI h a6 2) h)
set_option maxHeartbeats 4000000 in
set_option maxRecDepth 100000 in
theorem gX9_fault (x0 : Nat) (x1 : Int32) (h : MH) (Q : Int32 → MH → Prop) (hw : wX9_fault x0 x1 h Q) : Cm MX9_fault 0 0 0 [.ref (x0), .int (x1)] h (pI Q) := by
  refine cm_of [some (.ref (x0)), some (.int (x1))] rfl pnX9 (Nat.le_of_ble_eq_true rfl) rfl ?_
  unfold wX9_fault at hw
  refine q_iload_n eX9_fault_0 rfl ?_
  obtain ⟨hw0, hw1, hw2⟩ := hw
  by_cases hq0 : x1 = nI 0
  · have hw := hw1 hq0
    refine q_lookup (off := 27) (tgt := 28) eX9_fault_1 (by decide) (by show Op.lookupswitch.offset [(0, 27), (1, 35)] _ _ = _; rw [hq0]; rfl) (by decide) ?_
    refine q_aload_nr eX9_fault_28 rfl ?_
    obtain ⟨hs1, hw⟩ := hw
    obtain ⟨a2, hr3, hw⟩ := hw
    refine q_getR flX9_12 rfl hs1 hr3 eX9_fault_29 ?_
    obtain ⟨hs4, hw⟩ := hw
    refine q_getI flX9_99 rfl hs4 eX9_fault_32 ?_
    exact q_ret rfl eX9_fault_35 ⟨_, rfl, hw⟩
  · by_cases hq1 : x1 = nI 1
    · have hw := hw2 hq1
      refine q_lookup (off := 35) (tgt := 36) eX9_fault_1 (by decide) (by show Op.lookupswitch.offset [(0, 27), (1, 35)] _ _ = _; rw [lv_osw (k := nI 0) hq0 (by decide)]; rw [hq1]; rfl) (by decide) ?_
      refine q_aload_nr eX9_fault_36 rfl ?_
      obtain ⟨hs5, hw⟩ := hw
      obtain ⟨a6, hr7, hw⟩ := hw
      refine q_getR flX9_12 rfl hs5 hr7 eX9_fault_37 ?_
      obtain ⟨hs8, hw⟩ := hw
      refine q_getI flX9_114 rfl hs8 eX9_fault_40 ?_
      exact q_ret rfl eX9_fault_43 ⟨_, rfl, hw⟩
    · have hw := hw0 hq0 hq1
      refine q_lookup (off := 43) (tgt := 44) eX9_fault_1 (by decide) (by show Op.lookupswitch.offset [(0, 27), (1, 35)] _ _ = _; rw [lv_osw (k := nI 0) hq0 (by decide)]; rw [lv_osw (k := nI 1) hq1 (by decide)]; rfl) (by decide) ?_
      refine q_iconst (v := (-1 : Int32)) eX9_fault_44 (by decide) ?_
      exact q_ret rfl eX9_fault_45 ⟨_, rfl, hw⟩
