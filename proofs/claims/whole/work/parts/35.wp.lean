/-! ===== methods: what each needs and does (by program) ===== -/
def wX9_sumOverLots_13 (Q : Int32 → MH → Prop) (PX9_sumOverLots : Nat → Nat → Int32 → Int32 → MH → (Int32 → MH → Prop) → Prop) (x0 : Nat) (x1 : Nat) (x3 : Int32) (h : MH) : Prop := hS h x0 = (1, 9) ∧ ∃ a2, hR h x0 6 = some a2 ∧ ∃ a4, hR h x0 1 = some a4 ∧ hS h a2 = (1, 7) ∧ wX7_lostUnits a2 a4 x1 h (fun r7 h8 => Q ((if x3 = 0 then (if r7 = 0 then nI 1 else nI 0) else r7)) h8)
set_option maxHeartbeats 4000000 in
set_option maxRecDepth 100000 in
theorem tX9_sumOverLots_13 {Q : Int32 → MH → Prop} {PX9_sumOverLots : Nat → Nat → Int32 → Int32 → MH → (Int32 → MH → Prop) → Prop} {d d2 : Nat} (hd : 4 ≤ d) (hd2 : d2 < d) (hPX9_sumOverLots : ∀ (y0 : Nat) (y1 : Nat) (y2 : Int32) (y3 : Int32) (h : MH) (Q : Int32 → MH → Prop), PX9_sumOverLots y0 y1 y2 y3 h Q → Cm MX9_sumOverLots d2 0 0 [.ref (y0), .ref (y1), .int (y2), .int (y3)] h (pI Q)) (h : MH) (x0 : Nat) (x1 : Nat) (x3 : Int32) (hw : wX9_sumOverLots_13 Q PX9_sumOverLots x0 x1 x3 h) : Wm MX9_sumOverLots d 0 0 13 [some (.ref (x0)), some (.ref (x1)), none, some (.int (x3)), none, none, none] [] h (pI Q) := by
  unfold wX9_sumOverLots_13 at hw
  refine q_aload_nr eX9_sumOverLots_13 rfl ?_
  obtain ⟨hs1, hw⟩ := hw
  obtain ⟨a2, hr3, hw⟩ := hw
  refine q_getR flX9_51 rfl hs1 hr3 eX9_sumOverLots_14 ?_
  refine q_aload_nr eX9_sumOverLots_17 rfl ?_
  obtain ⟨a4, hr5, hw⟩ := hw
  refine q_getR flX9_19 rfl hs1 hr5 eX9_sumOverLots_18 ?_
  refine q_aload_nr eX9_sumOverLots_21 rfl ?_
  obtain ⟨hs6, hw⟩ := hw
  refine q_callV (b := 0) (t := 0) (gX7_lostUnits _ _ _ _ _ hw) mlX9_200 kX7_lostUnits vX7_lostUnits rfl hs6 ⟨rfl, rfl⟩ (by omega) rfl (Nat.le_of_ble_eq_true rfl) eX9_sumOverLots_22 (kI fun r7 h8 hw => ?_)
  refine x_istore (ls' := [_, _, _, _, _, _, _]) eX9_sumOverLots_25 (by decide) rfl rfl ?_
  refine q_iload_n eX9_sumOverLots_27 rfl ?_
  have hj10 : Wm MX9_sumOverLots d 0 0 46 [some (.ref (x0)), some (.ref (x1)), none, some (.int (x3)), some (.int (r7)), none, none] [.int ((if x3 = 0 then (if r7 = 0 then nI 1 else nI 0) else r7))] h8 (pI Q) := by
    exact q_ret rfl eX9_sumOverLots_46 ⟨_, rfl, hw⟩
  refine q_if_eq (tgt := 36) eX9_sumOverLots_28 (by decide) (fun c => ?_) (fun c => ?_)
  · refine q_iload eX9_sumOverLots_36 rfl ?_
    have hj11 : Wm MX9_sumOverLots d 0 0 46 [some (.ref (x0)), some (.ref (x1)), none, some (.int (x3)), some (.int (r7)), none, none] [.int ((if r7 = 0 then nI 1 else nI 0))] h8 (pI Q) := by
      rw [if_pos c] at hj10
      exact hj10
    refine q_if_ne (tgt := 45) eX9_sumOverLots_38 (by decide) (fun c => ?_) (fun c => ?_)
    · refine q_iconst (v := nI 0) eX9_sumOverLots_45 (by decide) ?_
      rw [if_neg c] at hj11
      exact hj11
    · refine q_iconst (v := nI 1) eX9_sumOverLots_41 (by decide) ?_
      refine q_goto (tgt := 46) eX9_sumOverLots_42 (by decide) ?_
      rw [if_pos c] at hj11
      exact hj11
  · refine q_iload eX9_sumOverLots_31 rfl ?_
    refine q_goto (tgt := 46) eX9_sumOverLots_33 (by decide) ?_
    rw [if_neg c] at hj10
    exact hj10
def wX9_sumOverLots_57 (Q : Int32 → MH → Prop) (PX9_sumOverLots : Nat → Nat → Int32 → Int32 → MH → (Int32 → MH → Prop) → Prop) : Nat → Nat → Nat → Int32 → Int32 → Int32 → Int32 → Int32 → MH → Prop
  | 0, _, _, _, _, _, _, _, _ => False
  | n + 1, x0, x1, x2, x3, x4, x5, x6, h => hS h x0 = (1, 9) ∧ ∃ a18, hR h x0 1 = some a18 ∧ hS h a18 = (1, 4) ∧ (hI h a18 3 ≤ x6 → (¬ (x4 = 0) → PX9_sumOverLots x0 x1 (x2 - nI 1) x3 h (fun r21 h22 => Q ((x5 + (x4 * r21))) h22)) ∧ (x4 = 0 → Q (x5) h)) ∧ (¬ (hI h a18 3 ≤ x6) → hS h x1 = (1, 6) ∧ wX6_hasFailed x1 x6 h (fun r24 h25 => (¬ (r24 = 0) → wX9_sumOverLots_57 Q PX9_sumOverLots n x0 x1 x2 x3 x4 x5 (x6 + nI 1) h25) ∧ (r24 = 0 → hS h25 x0 = (1, 9) ∧ ∃ a27, hR h25 x0 4 = some a27 ∧ ∃ n30, hS h25 a27 = (6, n30) ∧ vp_in (x2) n30 ∧ ∃ a32, hR h25 a27 (x2).toNatClampNeg = some a32 ∧ hS h25 a32 = (1, 6) ∧ wX6_copyFrom a32 x1 h25 (fun h36 => hS h36 x0 = (1, 9) ∧ ∃ a38, hR h36 x0 6 = some a38 ∧ ∃ a40, hR h36 x0 1 = some a40 ∧ ∃ a42, hR h36 x0 4 = some a42 ∧ ∃ n45, hS h36 a42 = (6, n45) ∧ vp_in (x2) n45 ∧ ∃ a47, hR h36 a42 (x2).toNatClampNeg = some a47 ∧ hS h36 a38 = (1, 7) ∧ wX7_failLink a38 a40 a47 x6 h36 (fun r50 h51 => hS h51 x0 = (1, 9) ∧ ∃ a53, hR h51 x0 4 = some a53 ∧ ∃ n56, hS h51 a53 = (6, n56) ∧ vp_in (x2) n56 ∧ ∃ a58, hR h51 a53 (x2).toNatClampNeg = some a58 ∧ PX9_sumOverLots x0 a58 (x2 - nI 1) x3 h51 (fun r60 h61 => wX9_sumOverLots_57 Q PX9_sumOverLots n x0 x1 x2 x3 (x4 + (-1 : Int32)) (x5 + r60) (x6 + nI 1) h61))))))
set_option maxHeartbeats 4000000 in
set_option maxRecDepth 100000 in
theorem tX9_sumOverLots_57 {Q : Int32 → MH → Prop} {PX9_sumOverLots : Nat → Nat → Int32 → Int32 → MH → (Int32 → MH → Prop) → Prop} {d d2 : Nat} (hd : 4 ≤ d) (hd2 : d2 < d) (hPX9_sumOverLots : ∀ (y0 : Nat) (y1 : Nat) (y2 : Int32) (y3 : Int32) (h : MH) (Q : Int32 → MH → Prop), PX9_sumOverLots y0 y1 y2 y3 h Q → Cm MX9_sumOverLots d2 0 0 [.ref (y0), .ref (y1), .int (y2), .int (y3)] h (pI Q)) : ∀ (n : Nat) (h : MH) (x0 : Nat) (x1 : Nat) (x2 : Int32) (x3 : Int32) (x4 : Int32) (x5 : Int32) (x6 : Int32), wX9_sumOverLots_57 Q PX9_sumOverLots n x0 x1 x2 x3 x4 x5 x6 h → Wm MX9_sumOverLots d 0 0 57 [some (.ref (x0)), some (.ref (x1)), some (.int (x2)), some (.int (x3)), some (.int (x4)), some (.int (x5)), some (.int (x6))] [] h (pI Q) := by
  intro n
  induction n with
  | zero => intro h x0 x1 x2 x3 x4 x5 x6 hw; exact hw.elim
  | succ n ih =>
    intro h x0 x1 x2 x3 x4 x5 x6 hw
    unfold wX9_sumOverLots_57 at hw
    refine q_iload eX9_sumOverLots_57 rfl ?_
    refine q_aload_nr eX9_sumOverLots_59 rfl ?_
    obtain ⟨hs17, hw⟩ := hw
    obtain ⟨a18, hr19, hw⟩ := hw
    refine q_getR flX9_19 rfl hs17 hr19 eX9_sumOverLots_60 ?_
    obtain ⟨hs20, hw⟩ := hw
    refine q_getI flX9_309 rfl hs20 eX9_sumOverLots_63 ?_
    obtain ⟨hw1, hw2⟩ := hw
    refine q_icmp_ge (tgt := 136) eX9_sumOverLots_66 (by decide) (fun c => ?_) (fun c => ?_)
    · have hw := hw1 c
      refine q_iload eX9_sumOverLots_136 rfl ?_
      obtain ⟨hw1, hw2⟩ := hw
      refine q_if_ne (tgt := 146) eX9_sumOverLots_138 (by decide) (fun c => ?_) (fun c => ?_)
      · have hw := hw1 c
        refine q_iload eX9_sumOverLots_146 rfl ?_
        refine q_iload eX9_sumOverLots_148 rfl ?_
        refine q_aload_nr eX9_sumOverLots_150 rfl ?_
        refine q_aload_nr eX9_sumOverLots_151 rfl ?_
        refine q_iload_n eX9_sumOverLots_152 rfl ?_
        refine q_iconst (v := nI 1) eX9_sumOverLots_153 (by decide) ?_
        refine q_isub eX9_sumOverLots_154 ?_
        refine q_iload_n eX9_sumOverLots_155 rfl ?_
        refine q_callV (b := 0) (t := 0) (hPX9_sumOverLots _ _ _ _ _ _ hw) mlX9_356 kX9_sumOverLots vX9_sumOverLots rfl hs17 ⟨rfl, rfl⟩ (by omega) rfl (Nat.le_of_ble_eq_true rfl) eX9_sumOverLots_156 (kI fun r21 h22 hw => ?_)
        refine q_imul eX9_sumOverLots_159 ?_
        refine q_iadd eX9_sumOverLots_160 ?_
        exact q_ret rfl eX9_sumOverLots_161 ⟨_, rfl, hw⟩
      · have hw := hw2 c
        refine q_iload eX9_sumOverLots_141 rfl ?_
        refine q_goto (tgt := 161) eX9_sumOverLots_143 (by decide) ?_
        exact q_ret rfl eX9_sumOverLots_161 ⟨_, rfl, hw⟩
    · have hw := hw2 c
      refine q_aload_nr eX9_sumOverLots_69 rfl ?_
      refine q_iload eX9_sumOverLots_70 rfl ?_
      obtain ⟨hs23, hw⟩ := hw
      refine q_callV (b := 0) (t := 0) (gX6_hasFailed _ _ _ _ hw) mlX9_134 kX6_hasFailed vX6_hasFailed rfl hs23 ⟨rfl, rfl⟩ (by omega) rfl (Nat.le_of_ble_eq_true rfl) eX9_sumOverLots_72 (kI fun r24 h25 hw => ?_)
      obtain ⟨hw1, hw2⟩ := hw
      refine q_if_ne (tgt := 130) eX9_sumOverLots_75 (by decide) (fun c => ?_) (fun c => ?_)
      · have hw := hw1 c
        refine x_iinc (v := (x6 + nI 1)) (ls' := [_, _, _, _, _, _, _]) eX9_sumOverLots_130 rfl rfl rfl rfl ?_
        refine q_goto (tgt := 57) eX9_sumOverLots_133 (by decide) ?_
        refine q_le (ls' := [some _, some _, some _, some _, some _, some _, some _]) ⟨rfl, rfl, rfl, rfl, rfl, rfl, rfl, trivial⟩ ?_
        exact ih _ _ _ _ _ _ _ _ hw
      · have hw := hw2 c
        refine q_aload_nr eX9_sumOverLots_78 rfl ?_
        obtain ⟨hs26, hw⟩ := hw
        obtain ⟨a27, hr28, hw⟩ := hw
        refine q_getR flX9_37 rfl hs26 hr28 eX9_sumOverLots_79 ?_
        refine q_iload_n eX9_sumOverLots_82 rfl ?_
        obtain ⟨n30, hs29, hw⟩ := hw
        obtain ⟨hi31, hw⟩ := hw
        obtain ⟨a32, hr33, hw⟩ := hw
        refine q_aald (Or.inl rfl) hs29 hi31 hr33 eX9_sumOverLots_83 ?_
        refine q_aload_nr eX9_sumOverLots_84 rfl ?_
        obtain ⟨hs34, hw⟩ := hw
        refine q_callV (b := 0) (t := 0) (gX6_copyFrom _ _ _ _ hw) mlX9_181 kX6_copyFrom vX6_copyFrom rfl hs34 ⟨rfl, rfl⟩ (by omega) rfl (Nat.le_of_ble_eq_true rfl) eX9_sumOverLots_85 (kV fun h36 hw => ?_)
        refine q_aload_nr eX9_sumOverLots_88 rfl ?_
        obtain ⟨hs37, hw⟩ := hw
        obtain ⟨a38, hr39, hw⟩ := hw
        refine q_getR flX9_51 rfl hs37 hr39 eX9_sumOverLots_89 ?_
        refine q_aload_nr eX9_sumOverLots_92 rfl ?_
        obtain ⟨a40, hr41, hw⟩ := hw
        refine q_getR flX9_19 rfl hs37 hr41 eX9_sumOverLots_93 ?_
        refine q_aload_nr eX9_sumOverLots_96 rfl ?_
        obtain ⟨a42, hr43, hw⟩ := hw
        refine q_getR flX9_37 rfl hs37 hr43 eX9_sumOverLots_97 ?_
        refine q_iload_n eX9_sumOverLots_100 rfl ?_
        obtain ⟨n45, hs44, hw⟩ := hw
        obtain ⟨hi46, hw⟩ := hw
        obtain ⟨a47, hr48, hw⟩ := hw
        refine q_aald (Or.inl rfl) hs44 hi46 hr48 eX9_sumOverLots_101 ?_
        refine q_iload eX9_sumOverLots_102 rfl ?_
        obtain ⟨hs49, hw⟩ := hw
        refine q_callV (b := 0) (t := 0) (gX7_failLink _ _ _ _ _ _ hw) mlX9_197 kX7_failLink vX7_failLink rfl hs49 ⟨rfl, rfl⟩ (by omega) rfl (Nat.le_of_ble_eq_true rfl) eX9_sumOverLots_104 (kI fun r50 h51 hw => ?_)
        refine q_pop eX9_sumOverLots_107 rfl ?_
        refine q_iload eX9_sumOverLots_108 rfl ?_
        refine q_aload_nr eX9_sumOverLots_110 rfl ?_
        refine q_aload_nr eX9_sumOverLots_111 rfl ?_
        obtain ⟨hs52, hw⟩ := hw
        obtain ⟨a53, hr54, hw⟩ := hw
        refine q_getR flX9_37 rfl hs52 hr54 eX9_sumOverLots_112 ?_
        refine q_iload_n eX9_sumOverLots_115 rfl ?_
        obtain ⟨n56, hs55, hw⟩ := hw
        obtain ⟨hi57, hw⟩ := hw
        obtain ⟨a58, hr59, hw⟩ := hw
        refine q_aald (Or.inl rfl) hs55 hi57 hr59 eX9_sumOverLots_116 ?_
        refine q_iload_n eX9_sumOverLots_117 rfl ?_
        refine q_iconst (v := nI 1) eX9_sumOverLots_118 (by decide) ?_
        refine q_isub eX9_sumOverLots_119 ?_
        refine q_iload_n eX9_sumOverLots_120 rfl ?_
        refine q_callV (b := 0) (t := 0) (hPX9_sumOverLots _ _ _ _ _ _ hw) mlX9_356 kX9_sumOverLots vX9_sumOverLots rfl hs52 ⟨rfl, rfl⟩ (by omega) rfl (Nat.le_of_ble_eq_true rfl) eX9_sumOverLots_121 (kI fun r60 h61 hw => ?_)
        refine q_iadd eX9_sumOverLots_124 ?_
        refine x_istore (ls' := [_, _, _, _, _, _, _]) eX9_sumOverLots_125 (by decide) rfl rfl ?_
        refine x_iinc (v := (x4 + (-1 : Int32))) (ls' := [_, _, _, _, _, _, _]) eX9_sumOverLots_127 rfl rfl rfl rfl ?_
        refine x_iinc (v := (x6 + nI 1)) (ls' := [_, _, _, _, _, _, _]) eX9_sumOverLots_130 rfl rfl rfl rfl ?_
        refine q_goto (tgt := 57) eX9_sumOverLots_133 (by decide) ?_
        refine q_le (ls' := [some _, some _, some _, some _, some _, some _, some _]) ⟨rfl, rfl, rfl, rfl, rfl, rfl, rfl, trivial⟩ ?_
        exact ih _ _ _ _ _ _ _ _ hw
def wX9_sumOverLots (PX9_sumOverLots : Nat → Nat → Int32 → Int32 → MH → (Int32 → MH → Prop) → Prop) (x0 : Nat) (x1 : Nat) (x2 : Int32) (x3 : Int32) (h : MH) (Q : Int32 → MH → Prop) : Prop := (x2 ≤ 0 → wX9_sumOverLots_13 Q PX9_sumOverLots x0 x1 x3 h) ∧ (¬ (x2 ≤ 0) → hS h x0 = (1, 9) ∧ ∃ a13, hR h x0 4 = some a13 ∧ ∃ n16, hS h a13 = (6, n16) ∧ (x2 < nI n16 → ∃ m62, wX9_sumOverLots_57 Q PX9_sumOverLots m62 x0 x1 x2 x3 (nI 10) (nI 0) (nI 0) h) ∧ (¬ (x2 < nI n16) → wX9_sumOverLots_13 Q PX9_sumOverLots x0 x1 x3 h))
set_option maxHeartbeats 4000000 in
set_option maxRecDepth 100000 in
theorem gX9_sumOverLots {PX9_sumOverLots : Nat → Nat → Int32 → Int32 → MH → (Int32 → MH → Prop) → Prop} {d d2 : Nat} (hd : 4 ≤ d) (hd2 : d2 < d) (hPX9_sumOverLots : ∀ (y0 : Nat) (y1 : Nat) (y2 : Int32) (y3 : Int32) (h : MH) (Q : Int32 → MH → Prop), PX9_sumOverLots y0 y1 y2 y3 h Q → Cm MX9_sumOverLots d2 0 0 [.ref (y0), .ref (y1), .int (y2), .int (y3)] h (pI Q)) (x0 : Nat) (x1 : Nat) (x2 : Int32) (x3 : Int32) (h : MH) (Q : Int32 → MH → Prop) (hw : wX9_sumOverLots PX9_sumOverLots x0 x1 x2 x3 h Q) : Cm MX9_sumOverLots d 0 0 [.ref (x0), .ref (x1), .int (x2), .int (x3)] h (pI Q) := by
  refine cm_of [some (.ref (x0)), some (.ref (x1)), some (.int (x2)), some (.int (x3)), none, none, none] rfl pnX9 (Nat.le_of_ble_eq_true rfl) rfl ?_
  unfold wX9_sumOverLots at hw
  refine q_iload_n eX9_sumOverLots_0 rfl ?_
  obtain ⟨hw1, hw2⟩ := hw
  refine q_if_le (tgt := 13) eX9_sumOverLots_1 (by decide) (fun c => ?_) (fun c => ?_)
  · have hw := hw1 c
    refine q_le (ls' := [some _, some _, none, some _, none, none, none]) ⟨rfl, rfl, rfl, trivial⟩ ?_
    exact tX9_sumOverLots_13 hd hd2 hPX9_sumOverLots _ _ _ _ hw
  · have hw := hw2 c
    refine q_iload_n eX9_sumOverLots_4 rfl ?_
    refine q_aload_nr eX9_sumOverLots_5 rfl ?_
    obtain ⟨hs12, hw⟩ := hw
    obtain ⟨a13, hr14, hw⟩ := hw
    refine q_getR flX9_37 rfl hs12 hr14 eX9_sumOverLots_6 ?_
    obtain ⟨n16, hs15, hw⟩ := hw
    refine q_alen (by decide) hs15 eX9_sumOverLots_9 ?_
    show Wm _ _ _ _ _ _ (.int (nI _) :: _) _ _
    obtain ⟨hw1, hw2⟩ := hw
    refine q_icmp_lt (tgt := 47) eX9_sumOverLots_10 (by decide) (fun c => ?_) (fun c => ?_)
    · have hw := hw1 c
      refine q_bipush (v := nI 10) eX9_sumOverLots_47 (by decide) ?_
      refine x_istore (ls' := [_, _, _, _, _, _, _]) eX9_sumOverLots_49 (by decide) rfl rfl ?_
      refine q_iconst (v := nI 0) eX9_sumOverLots_51 (by decide) ?_
      refine x_istore (ls' := [_, _, _, _, _, _, _]) eX9_sumOverLots_52 (by decide) rfl rfl ?_
      refine q_iconst (v := nI 0) eX9_sumOverLots_54 (by decide) ?_
      refine x_istore (ls' := [_, _, _, _, _, _, _]) eX9_sumOverLots_55 (by decide) rfl rfl ?_
      refine q_le (ls' := [some _, some _, some _, some _, some _, some _, some _]) ⟨rfl, rfl, rfl, rfl, rfl, rfl, rfl, trivial⟩ ?_
      obtain ⟨m62, hw⟩ := hw
      exact tX9_sumOverLots_57 hd hd2 hPX9_sumOverLots m62 _ _ _ _ _ _ _ _ hw
    · have hw := hw2 c
      refine q_le (ls' := [some _, some _, none, some _, none, none, none]) ⟨rfl, rfl, rfl, trivial⟩ ?_
      exact tX9_sumOverLots_13 hd hd2 hPX9_sumOverLots _ _ _ _ hw
def wX9_lotsFraction_30 (Q : Int32 → MH → Prop) : Nat → Nat → Int32 → Int32 → Int32 → Int32 → Int32 → MH → Prop
  | 0, _, _, _, _, _, _, _ => False
  | n + 1, x0, x1, x2, x3, x4, x5, h => (x1 ≤ x5 → hS h x0 = (1, 9) ∧ ∃ a2, hR h x0 8 = some a2 ∧ ∃ a4, hR h x0 2 = some a4 ∧ Cm MX9_sumOverLots 300 0 0 [.ref (x0), .ref (a4), .int (x1), .int (x3)] h (pI fun r6 h7 => hS h7 a2 = (1, 1) ∧ wX1_begin a2 ((r6).toInt64) ((x4).toInt64) h7 (fun h10 => hS h10 x0 = (1, 9) ∧ ∃ a12, hR h10 x0 8 = some a12 ∧ hS h10 a12 = (1, 1) ∧ wX1_part a12 x2 h10 (fun r15 h16 => Q ((r15).toInt32) h16)))) ∧ (¬ (x1 ≤ x5) → wX9_lotsFraction_30 Q n x0 x1 x2 x3 (x4 * nI 10) (x5 + nI 1) h)
set_option maxHeartbeats 4000000 in
set_option maxRecDepth 100000 in
theorem tX9_lotsFraction_30 {Q : Int32 → MH → Prop} : ∀ (n : Nat) (h : MH) (x0 : Nat) (x1 : Int32) (x2 : Int32) (x3 : Int32) (x4 : Int32) (x5 : Int32), wX9_lotsFraction_30 Q n x0 x1 x2 x3 x4 x5 h → Wm MX9_lotsFraction 301 0 0 30 [some (.ref (x0)), some (.int (x1)), some (.int (x2)), some (.int (x3)), some (.int (x4)), some (.int (x5))] [] h (pI Q) := by
  intro n
  induction n with
  | zero => intro h x0 x1 x2 x3 x4 x5 hw; exact hw.elim
  | succ n ih =>
    intro h x0 x1 x2 x3 x4 x5 hw
    unfold wX9_lotsFraction_30 at hw
    refine q_iload eX9_lotsFraction_30 rfl ?_
    refine q_iload_n eX9_lotsFraction_32 rfl ?_
    obtain ⟨hw1, hw2⟩ := hw
    refine q_icmp_ge (tgt := 49) eX9_lotsFraction_33 (by decide) (fun c => ?_) (fun c => ?_)
    · have hw := hw1 c
      refine q_aload_nr eX9_lotsFraction_49 rfl ?_
      obtain ⟨hs1, hw⟩ := hw
      obtain ⟨a2, hr3, hw⟩ := hw
      refine q_getR flX9_65 rfl hs1 hr3 eX9_lotsFraction_50 ?_
      refine q_aload_nr eX9_lotsFraction_53 rfl ?_
      refine q_aload_nr eX9_lotsFraction_54 rfl ?_
      obtain ⟨a4, hr5, hw⟩ := hw
      refine q_getR flX9_26 rfl hs1 hr5 eX9_lotsFraction_55 ?_
      refine q_iload_n eX9_lotsFraction_58 rfl ?_
      refine q_iload_n eX9_lotsFraction_59 rfl ?_
      refine q_callV (b := 0) (t := 0) hw mlX9_356 kX9_sumOverLots vX9_sumOverLots rfl hs1 ⟨rfl, rfl⟩ (by decide) rfl (Nat.le_of_ble_eq_true rfl) eX9_lotsFraction_60 (kI fun r6 h7 hw => ?_)
      refine q_i2l eX9_lotsFraction_63 ?_
      refine q_iload eX9_lotsFraction_64 rfl ?_
      refine q_i2l eX9_lotsFraction_66 ?_
      obtain ⟨hs8, hw⟩ := hw
      refine q_callV (b := 0) (t := 0) (gX1_begin _ _ _ _ _ hw) mlX9_360 kX1_begin vX1_begin rfl hs8 ⟨rfl, rfl⟩ (by decide) rfl (Nat.le_of_ble_eq_true rfl) eX9_lotsFraction_67 (kV fun h10 hw => ?_)
      refine q_aload_nr eX9_lotsFraction_70 rfl ?_
      obtain ⟨hs11, hw⟩ := hw
      obtain ⟨a12, hr13, hw⟩ := hw
      refine q_getR flX9_65 rfl hs11 hr13 eX9_lotsFraction_71 ?_
      refine q_iload_n eX9_lotsFraction_74 rfl ?_
      obtain ⟨hs14, hw⟩ := hw
      refine q_callV (b := 0) (t := 0) (gX1_part _ _ _ _ hw) mlX9_280 kX1_part vX1_part rfl hs14 ⟨rfl, rfl⟩ (by decide) rfl (Nat.le_of_ble_eq_true rfl) eX9_lotsFraction_75 (kL fun r15 h16 hw => ?_)
      refine q_l2i eX9_lotsFraction_78 ?_
      exact q_ret rfl eX9_lotsFraction_79 ⟨_, rfl, hw⟩
    · have hw := hw2 c
      refine q_iload eX9_lotsFraction_36 rfl ?_
      refine q_bipush (v := nI 10) eX9_lotsFraction_38 (by decide) ?_
      refine q_imul eX9_lotsFraction_40 ?_
      refine x_istore (ls' := [_, _, _, _, _, _]) eX9_lotsFraction_41 (by decide) rfl rfl ?_
      refine x_iinc (v := (x5 + nI 1)) (ls' := [_, _, _, _, _, _]) eX9_lotsFraction_43 rfl rfl rfl rfl ?_
      refine q_goto (tgt := 30) eX9_lotsFraction_46 (by decide) ?_
      refine q_le (ls' := [some _, some _, some _, some _, some _, some _]) ⟨rfl, rfl, rfl, rfl, rfl, rfl, trivial⟩ ?_
      exact ih _ _ _ _ _ _ _ hw
def wX9_lotsFraction (x0 : Nat) (x1 : Int32) (x2 : Int32) (x3 : Int32) (h : MH) (Q : Int32 → MH → Prop) : Prop := (x2 < 0 → Q ((-2 : Int32)) h) ∧ (¬ (x2 < 0) → (x2 ≤ nI 1 → (x1 < 0 → Q ((-3 : Int32)) h) ∧ (¬ (x1 < 0) → (x1 ≤ nI 3 → ∃ m17, wX9_lotsFraction_30 Q m17 x0 x1 x2 x3 (nI 1) (nI 0) h) ∧ (¬ (x1 ≤ nI 3) → Q ((-3 : Int32)) h))) ∧ (¬ (x2 ≤ nI 1) → Q ((-2 : Int32)) h))
set_option maxHeartbeats 4000000 in
set_option maxRecDepth 100000 in
theorem gX9_lotsFraction (x0 : Nat) (x1 : Int32) (x2 : Int32) (x3 : Int32) (h : MH) (Q : Int32 → MH → Prop) (hw : wX9_lotsFraction x0 x1 x2 x3 h Q) : Cm MX9_lotsFraction 301 0 0 [.ref (x0), .int (x1), .int (x2), .int (x3)] h (pI Q) := by
  refine cm_of [some (.ref (x0)), some (.int (x1)), some (.int (x2)), some (.int (x3)), none, none] rfl pnX9 (Nat.le_of_ble_eq_true rfl) rfl ?_
  unfold wX9_lotsFraction at hw
  refine q_iload_n eX9_lotsFraction_0 rfl ?_
  obtain ⟨hw1, hw2⟩ := hw
  refine q_if_lt (tgt := 9) eX9_lotsFraction_1 (by decide) (fun c => ?_) (fun c => ?_)
  · have hw := hw1 c
    refine q_bipush (v := (-2 : Int32)) eX9_lotsFraction_9 (by decide) ?_
    exact q_ret rfl eX9_lotsFraction_11 ⟨_, rfl, hw⟩
  · have hw := hw2 c
    refine q_iload_n eX9_lotsFraction_4 rfl ?_
    refine q_iconst (v := nI 1) eX9_lotsFraction_5 (by decide) ?_
    obtain ⟨hw1, hw2⟩ := hw
    refine q_icmp_le (tgt := 12) eX9_lotsFraction_6 (by decide) (fun c => ?_) (fun c => ?_)
    · have hw := hw1 c
      refine q_iload_n eX9_lotsFraction_12 rfl ?_
      obtain ⟨hw1, hw2⟩ := hw
      refine q_if_lt (tgt := 21) eX9_lotsFraction_13 (by decide) (fun c => ?_) (fun c => ?_)
      · have hw := hw1 c
        refine q_bipush (v := (-3 : Int32)) eX9_lotsFraction_21 (by decide) ?_
        exact q_ret rfl eX9_lotsFraction_23 ⟨_, rfl, hw⟩
      · have hw := hw2 c
        refine q_iload_n eX9_lotsFraction_16 rfl ?_
        refine q_iconst (v := nI 3) eX9_lotsFraction_17 (by decide) ?_
        obtain ⟨hw1, hw2⟩ := hw
        refine q_icmp_le (tgt := 24) eX9_lotsFraction_18 (by decide) (fun c => ?_) (fun c => ?_)
        · have hw := hw1 c
          refine q_iconst (v := nI 1) eX9_lotsFraction_24 (by decide) ?_
          refine x_istore (ls' := [_, _, _, _, _, _]) eX9_lotsFraction_25 (by decide) rfl rfl ?_
          refine q_iconst (v := nI 0) eX9_lotsFraction_27 (by decide) ?_
          refine x_istore (ls' := [_, _, _, _, _, _]) eX9_lotsFraction_28 (by decide) rfl rfl ?_
          refine q_le (ls' := [some _, some _, some _, some _, some _, some _]) ⟨rfl, rfl, rfl, rfl, rfl, rfl, trivial⟩ ?_
          obtain ⟨m17, hw⟩ := hw
          exact tX9_lotsFraction_30 m17 _ _ _ _ _ _ _ hw
        · have hw := hw2 c
          refine q_bipush (v := (-3 : Int32)) eX9_lotsFraction_21 (by decide) ?_
          exact q_ret rfl eX9_lotsFraction_23 ⟨_, rfl, hw⟩
    · have hw := hw2 c
      refine q_bipush (v := (-2 : Int32)) eX9_lotsFraction_9 (by decide) ?_
      exact q_ret rfl eX9_lotsFraction_11 ⟨_, rfl, hw⟩
def wX9_chance (x0 : Nat) (x1 : Int32) (x2 : Int32) (h : MH) (Q : Int32 → MH → Prop) : Prop := hS h x0 = (1, 9) ∧ wX9_lotsFraction x0 x1 x2 (nI 0) h (fun r2 h3 => Q (r2) h3)
set_option maxHeartbeats 4000000 in
set_option maxRecDepth 100000 in
theorem gX9_chance (x0 : Nat) (x1 : Int32) (x2 : Int32) (h : MH) (Q : Int32 → MH → Prop) (hw : wX9_chance x0 x1 x2 h Q) : Cm MX9_chance 302 0 0 [.ref (x0), .int (x1), .int (x2)] h (pI Q) := by
  refine cm_of [some (.ref (x0)), some (.int (x1)), some (.int (x2))] rfl pnX9 (Nat.le_of_ble_eq_true rfl) rfl ?_
  unfold wX9_chance at hw
  refine q_aload_nr eX9_chance_0 rfl ?_
  refine q_iload_n eX9_chance_1 rfl ?_
  refine q_iload_n eX9_chance_2 rfl ?_
  refine q_iconst (v := nI 0) eX9_chance_3 (by decide) ?_
  obtain ⟨hs1, hw⟩ := hw
  refine q_callV (b := 0) (t := 0) (gX9_lotsFraction _ _ _ _ _ _ hw) mlX9_352 kX9_lotsFraction vX9_lotsFraction rfl hs1 ⟨rfl, rfl⟩ (by decide) rfl (Nat.le_of_ble_eq_true rfl) eX9_chance_4 (kI fun r2 h3 hw => ?_)
  exact q_ret rfl eX9_chance_7 ⟨_, rfl, hw⟩
def wX9_mean (x0 : Nat) (x1 : Int32) (x2 : Int32) (h : MH) (Q : Int32 → MH → Prop) : Prop := hS h x0 = (1, 9) ∧ wX9_lotsFraction x0 x1 x2 (nI 1) h (fun r2 h3 => Q (r2) h3)
set_option maxHeartbeats 4000000 in
set_option maxRecDepth 100000 in
theorem gX9_mean (x0 : Nat) (x1 : Int32) (x2 : Int32) (h : MH) (Q : Int32 → MH → Prop) (hw : wX9_mean x0 x1 x2 h Q) : Cm MX9_mean 302 0 0 [.ref (x0), .int (x1), .int (x2)] h (pI Q) := by
  refine cm_of [some (.ref (x0)), some (.int (x1)), some (.int (x2))] rfl pnX9 (Nat.le_of_ble_eq_true rfl) rfl ?_
  unfold wX9_mean at hw
  refine q_aload_nr eX9_mean_0 rfl ?_
  refine q_iload_n eX9_mean_1 rfl ?_
  refine q_iload_n eX9_mean_2 rfl ?_
  refine q_iconst (v := nI 1) eX9_mean_3 (by decide) ?_
  obtain ⟨hs1, hw⟩ := hw
  refine q_callV (b := 0) (t := 0) (gX9_lotsFraction _ _ _ _ _ _ hw) mlX9_352 kX9_lotsFraction vX9_lotsFraction rfl hs1 ⟨rfl, rfl⟩ (by decide) rfl (Nat.le_of_ble_eq_true rfl) eX9_mean_4 (kI fun r2 h3 hw => ?_)
  exact q_ret rfl eX9_mean_7 ⟨_, rfl, hw⟩
def wX9_numbers (x0 : Nat) (x1 : Int32) (x2 : Int32) (x3 : Int32) (h : MH) (Q : Int32 → MH → Prop) : Prop := wX9_isTray x1 h (fun r1 h2 => (r1 = 0 → Q ((-2 : Int32)) h2) ∧ (¬ (r1 = 0) → (x2 < 0 → Q ((-2 : Int32)) h2) ∧ (¬ (x2 < 0) → (x2 < nI 4 → (x3 < 0 → Q ((-3 : Int32)) h2) ∧ (¬ (x3 < 0) → (x3 ≤ nI 40 → hS h2 x0 = (1, 9) ∧ ∃ a4, hR h2 x0 9 = some a4 ∧ ∃ n7, hS h2 a4 = (7, n7) ∧ vp_in (x1) n7 ∧ ∃ a9, hR h2 a4 (x1).toNatClampNeg = some a9 ∧ hS h2 a9 = (1, 8) ∧ wX8_begin a9 x2 x3 h2 (fun h13 => Q (nI 0) h13)) ∧ (¬ (x3 ≤ nI 40) → Q ((-3 : Int32)) h2))) ∧ (¬ (x2 < nI 4) → Q ((-2 : Int32)) h2))))
set_option maxHeartbeats 4000000 in
set_option maxRecDepth 100000 in
theorem gX9_numbers (x0 : Nat) (x1 : Int32) (x2 : Int32) (x3 : Int32) (h : MH) (Q : Int32 → MH → Prop) (hw : wX9_numbers x0 x1 x2 x3 h Q) : Cm MX9_numbers 1 0 0 [.ref (x0), .int (x1), .int (x2), .int (x3)] h (pI Q) := by
  refine cm_of [some (.ref (x0)), some (.int (x1)), some (.int (x2)), some (.int (x3))] rfl pnX9 (Nat.le_of_ble_eq_true rfl) rfl ?_
  unfold wX9_numbers at hw
  refine q_iload_n eX9_numbers_0 rfl ?_
  refine q_callS (b := 0) (t := 0) (gX9_isTray _ _ _ hw) mlX9_220 kX9_isTray sX9_isTray rfl (by decide) rfl (Nat.le_of_ble_eq_true rfl) eX9_numbers_1 (kI fun r1 h2 hw => ?_)
  obtain ⟨hw1, hw2⟩ := hw
  refine q_if_eq (tgt := 16) eX9_numbers_4 (by decide) (fun c => ?_) (fun c => ?_)
  · have hw := hw1 c
    refine q_bipush (v := (-2 : Int32)) eX9_numbers_16 (by decide) ?_
    exact q_ret rfl eX9_numbers_18 ⟨_, rfl, hw⟩
  · have hw := hw2 c
    refine q_iload_n eX9_numbers_7 rfl ?_
    obtain ⟨hw1, hw2⟩ := hw
    refine q_if_lt (tgt := 16) eX9_numbers_8 (by decide) (fun c => ?_) (fun c => ?_)
    · have hw := hw1 c
      refine q_bipush (v := (-2 : Int32)) eX9_numbers_16 (by decide) ?_
      exact q_ret rfl eX9_numbers_18 ⟨_, rfl, hw⟩
    · have hw := hw2 c
      refine q_iload_n eX9_numbers_11 rfl ?_
      refine q_iconst (v := nI 4) eX9_numbers_12 (by decide) ?_
      obtain ⟨hw1, hw2⟩ := hw
      refine q_icmp_lt (tgt := 19) eX9_numbers_13 (by decide) (fun c => ?_) (fun c => ?_)
      · have hw := hw1 c
        refine q_iload_n eX9_numbers_19 rfl ?_
        obtain ⟨hw1, hw2⟩ := hw
        refine q_if_lt (tgt := 29) eX9_numbers_20 (by decide) (fun c => ?_) (fun c => ?_)
        · have hw := hw1 c
          refine q_bipush (v := (-3 : Int32)) eX9_numbers_29 (by decide) ?_
          exact q_ret rfl eX9_numbers_31 ⟨_, rfl, hw⟩
        · have hw := hw2 c
          refine q_iload_n eX9_numbers_23 rfl ?_
          refine q_bipush (v := nI 40) eX9_numbers_24 (by decide) ?_
          obtain ⟨hw1, hw2⟩ := hw
          refine q_icmp_le (tgt := 32) eX9_numbers_26 (by decide) (fun c => ?_) (fun c => ?_)
          · have hw := hw1 c
            refine q_aload_nr eX9_numbers_32 rfl ?_
            obtain ⟨hs3, hw⟩ := hw
            obtain ⟨a4, hr5, hw⟩ := hw
            refine q_getR flX9_73 rfl hs3 hr5 eX9_numbers_33 ?_
            refine q_iload_n eX9_numbers_36 rfl ?_
            obtain ⟨n7, hs6, hw⟩ := hw
            obtain ⟨hi8, hw⟩ := hw
            obtain ⟨a9, hr10, hw⟩ := hw
            refine q_aald (Or.inr (Or.inl rfl)) hs6 hi8 hr10 eX9_numbers_37 ?_
            refine q_iload_n eX9_numbers_38 rfl ?_
            refine q_iload_n eX9_numbers_39 rfl ?_
            obtain ⟨hs11, hw⟩ := hw
            refine q_callV (b := 0) (t := 0) (gX8_begin _ _ _ _ _ hw) mlX9_363 kX8_begin vX8_begin rfl hs11 ⟨rfl, rfl⟩ (by decide) rfl (Nat.le_of_ble_eq_true rfl) eX9_numbers_40 (kV fun h13 hw => ?_)
            refine q_iconst (v := nI 0) eX9_numbers_43 (by decide) ?_
            exact q_ret rfl eX9_numbers_44 ⟨_, rfl, hw⟩
          · have hw := hw2 c
            refine q_bipush (v := (-3 : Int32)) eX9_numbers_29 (by decide) ?_
            exact q_ret rfl eX9_numbers_31 ⟨_, rfl, hw⟩
      · have hw := hw2 c
        refine q_bipush (v := (-2 : Int32)) eX9_numbers_16 (by decide) ?_
        exact q_ret rfl eX9_numbers_18 ⟨_, rfl, hw⟩
def wX9_write (x0 : Nat) (x1 : Int32) (x2 : Int32) (x3 : Int64) (h : MH) (Q : Int64 → MH → Prop) : Prop := wX9_isTray x1 h (fun r1 h2 => (¬ (r1 = 0) → hS h2 x0 = (1, 9) ∧ ∃ a4, hR h2 x0 9 = some a4 ∧ ∃ n7, hS h2 a4 = (7, n7) ∧ vp_in (x1) n7 ∧ ∃ a9, hR h2 a4 (x1).toNatClampNeg = some a9 ∧ hS h2 a9 = (1, 8) ∧ wX8_isMissing a9 h2 (fun r12 h13 => (r12 = 0 → (x2 < 0 → Q ((-7 : Int64)) h13) ∧ (¬ (x2 < 0) → hS h13 a9 = (1, 8) ∧ (x2 < hI h13 a9 1 → wX8_put a9 x2 x3 h13 (fun h16 => hS h16 a9 = (1, 8) ∧ ∃ a18, hR h16 a9 2 = some a18 ∧ ∃ n21, hS h16 a18 = (3, n21) ∧ vp_in (x2) n21 ∧ Q (hL h16 a18 (x2).toNatClampNeg) h16)) ∧ (¬ (x2 < hI h13 a9 1) → Q ((-7 : Int64)) h13))) ∧ (¬ (r12 = 0) → Q ((-6 : Int64)) h13))) ∧ (r1 = 0 → Q ((-2 : Int64)) h2))
set_option maxHeartbeats 4000000 in
set_option maxRecDepth 100000 in
theorem gX9_write (x0 : Nat) (x1 : Int32) (x2 : Int32) (x3 : Int64) (h : MH) (Q : Int64 → MH → Prop) (hw : wX9_write x0 x1 x2 x3 h Q) : Cm MX9_write 1 0 0 [.ref (x0), .int (x1), .int (x2), .long (x3)] h (pL Q) := by
  refine cm_of [some (.ref (x0)), some (.int (x1)), some (.int (x2)), some (.long (x3)), none, none] rfl pnX9 (Nat.le_of_ble_eq_true rfl) rfl ?_
  unfold wX9_write at hw
  refine q_iload_n eX9_write_0 rfl ?_
  refine q_callS (b := 0) (t := 0) (gX9_isTray _ _ _ hw) mlX9_220 kX9_isTray sX9_isTray rfl (by decide) rfl (Nat.le_of_ble_eq_true rfl) eX9_write_1 (kI fun r1 h2 hw => ?_)
  obtain ⟨hw1, hw2⟩ := hw
  refine q_if_ne (tgt := 11) eX9_write_4 (by decide) (fun c => ?_) (fun c => ?_)
  · have hw := hw1 c
    refine q_aload_nr eX9_write_11 rfl ?_
    obtain ⟨hs3, hw⟩ := hw
    obtain ⟨a4, hr5, hw⟩ := hw
    refine q_getR flX9_73 rfl hs3 hr5 eX9_write_12 ?_
    refine q_iload_n eX9_write_15 rfl ?_
    obtain ⟨n7, hs6, hw⟩ := hw
    obtain ⟨hi8, hw⟩ := hw
    obtain ⟨a9, hr10, hw⟩ := hw
    refine q_aald (Or.inr (Or.inl rfl)) hs6 hi8 hr10 eX9_write_16 ?_
    refine x_astorer (ls' := [_, _, _, _, _, _]) eX9_write_17 (by decide) rfl rfl ?_
    refine q_aloadr eX9_write_19 rfl ?_
    obtain ⟨hs11, hw⟩ := hw
    refine q_callV (b := 0) (t := 0) (gX8_isMissing _ _ _ hw) mlX9_223 kX8_isMissing vX8_isMissing rfl hs11 ⟨rfl, rfl⟩ (by decide) rfl (Nat.le_of_ble_eq_true rfl) eX9_write_21 (kI fun r12 h13 hw => ?_)
    obtain ⟨hw1, hw2⟩ := hw
    refine q_if_eq (tgt := 31) eX9_write_24 (by decide) (fun c => ?_) (fun c => ?_)
    · have hw := hw1 c
      refine q_iload_n eX9_write_31 rfl ?_
      obtain ⟨hw1, hw2⟩ := hw
      refine q_if_lt (tgt := 44) eX9_write_32 (by decide) (fun c => ?_) (fun c => ?_)
      · have hw := hw1 c
        refine q_ldc2 coX9_368 eX9_write_44 ?_
        exact q_retL rfl eX9_write_47 ⟨_, rfl, hw⟩
      · have hw := hw2 c
        refine q_iload_n eX9_write_35 rfl ?_
        refine q_aloadr eX9_write_36 rfl ?_
        obtain ⟨hs14, hw⟩ := hw
        refine q_getI flX9_231 rfl hs14 eX9_write_38 ?_
        obtain ⟨hw1, hw2⟩ := hw
        refine q_icmp_lt (tgt := 48) eX9_write_41 (by decide) (fun c => ?_) (fun c => ?_)
        · have hw := hw1 c
          refine q_aloadr eX9_write_48 rfl ?_
          refine q_iload_n eX9_write_50 rfl ?_
          refine q_lload_n eX9_write_51 rfl ?_
          refine q_callV (b := 0) (t := 0) (gX8_put _ _ _ _ _ hw) mlX9_370 kX8_put vX8_put rfl hs14 ⟨rfl, rfl⟩ (by decide) rfl (Nat.le_of_ble_eq_true rfl) eX9_write_52 (kV fun h16 hw => ?_)
          refine q_aloadr eX9_write_55 rfl ?_
          obtain ⟨hs17, hw⟩ := hw
          obtain ⟨a18, hr19, hw⟩ := hw
          refine q_getR flX9_232 rfl hs17 hr19 eX9_write_57 ?_
          refine q_iload_n eX9_write_60 rfl ?_
          obtain ⟨n21, hs20, hw⟩ := hw
          obtain ⟨hi22, hw⟩ := hw
          refine q_lald hs20 hi22 eX9_write_61 ?_
          exact q_retL rfl eX9_write_62 ⟨_, rfl, hw⟩
        · have hw := hw2 c
          refine q_ldc2 coX9_368 eX9_write_44 ?_
          exact q_retL rfl eX9_write_47 ⟨_, rfl, hw⟩
    · have hw := hw2 c
      refine q_ldc2 coX9_366 eX9_write_27 ?_
      exact q_retL rfl eX9_write_30 ⟨_, rfl, hw⟩
  · have hw := hw2 c
    refine q_ldc2 coX9_272 eX9_write_7 ?_
    exact q_retL rfl eX9_write_10 ⟨_, rfl, hw⟩
def wX9_lists_77 (Q : Int32 → MH → Prop) (K62 : Nat → Nat → Nat → Nat → Int32 → Int32 → MH → Prop) : Nat → Nat → Nat → Nat → Nat → Int32 → Int32 → Int32 → MH → Prop
  | 0, _, _, _, _, _, _, _, _ => False
  | n + 1, b, t, x0, x3, x4, x5, x6, h => hS h x0 = (1, 9) ∧ ∃ a33, hR h x0 7 = some a33 ∧ hS h a33 = (1, 0) ∧ ∃ a36, hR h a33 9 = some a36 ∧ ∃ n39, hS h a36 = (2, n39) ∧ vp_in (x5) n39 ∧ (hI h a36 (x5).toNatClampNeg ≤ x6 → K62 b t x0 x3 x4 (x5 + nI 1) h) ∧ (¬ (hI h a36 (x5).toNatClampNeg ≤ x6) → hS h x3 = (1, 8) ∧ (hI h x3 1 ≤ x4 → K62 b t x0 x3 x4 (x5 + nI 1) h) ∧ (¬ (hI h x3 1 ≤ x4) → wX8_put x3 x4 ((x5).toInt64) h (fun h43 => wX9_lists_77 Q K62 n b t x0 x3 (x4 + nI 1) x5 (x6 + nI 1) h43)))
set_option maxHeartbeats 4000000 in
set_option maxRecDepth 100000 in
theorem tX9_lists_77 {Q : Int32 → MH → Prop} {K62 : Nat → Nat → Nat → Nat → Int32 → Int32 → MH → Prop} (hK62 : ∀ (h : MH) (b t : Nat) (x0 : Nat) (x3 : Nat) (x4 : Int32) (x5 : Int32), K62 b t x0 x3 x4 x5 h → Wm MX9_lists 303 b t 62 [some (.ref (x0)), none, none, some (.ref (x3)), some (.int (x4)), some (.int (x5)), none] [] h (pI Q)) : ∀ (n : Nat) (h : MH) (b t : Nat) (x0 : Nat) (x3 : Nat) (x4 : Int32) (x5 : Int32) (x6 : Int32), wX9_lists_77 Q K62 n b t x0 x3 x4 x5 x6 h → Wm MX9_lists 303 b t 77 [some (.ref (x0)), none, none, some (.ref (x3)), some (.int (x4)), some (.int (x5)), some (.int (x6))] [] h (pI Q) := by
  intro n
  induction n with
  | zero => intro h b t x0 x3 x4 x5 x6 hw; exact hw.elim
  | succ n ih =>
    intro h b t x0 x3 x4 x5 x6 hw
    unfold wX9_lists_77 at hw
    refine q_iload eX9_lists_77 rfl ?_
    refine q_aload_nr eX9_lists_79 rfl ?_
    obtain ⟨hs32, hw⟩ := hw
    obtain ⟨a33, hr34, hw⟩ := hw
    refine q_getR flX9_58 rfl hs32 hr34 eX9_lists_80 ?_
    obtain ⟨hs35, hw⟩ := hw
    obtain ⟨a36, hr37, hw⟩ := hw
    refine q_getR flX9_269 rfl hs35 hr37 eX9_lists_83 ?_
    refine q_iload eX9_lists_86 rfl ?_
    obtain ⟨n39, hs38, hw⟩ := hw
    obtain ⟨hi40, hw⟩ := hw
    refine q_iald hs38 hi40 eX9_lists_88 ?_
    obtain ⟨hw1, hw2⟩ := hw
    refine q_icmp_ge (tgt := 119) eX9_lists_89 (by decide) (fun c => ?_) (fun c => ?_)
    · have hw := hw1 c
      refine x_iinc (v := (x5 + nI 1)) (ls' := [_, _, _, _, _, _, _]) eX9_lists_119 rfl rfl rfl rfl ?_
      refine q_goto (tgt := 62) eX9_lists_122 (by decide) ?_
      refine q_le (ls' := [some _, none, none, some _, some _, some _, none]) ⟨rfl, rfl, rfl, rfl, trivial⟩ ?_
      exact hK62 _ _ _ _ _ _ _ hw
    · have hw := hw2 c
      refine q_iload eX9_lists_92 rfl ?_
      refine q_aload_nr eX9_lists_94 rfl ?_
      obtain ⟨hs41, hw⟩ := hw
      refine q_getI flX9_231 rfl hs41 eX9_lists_95 ?_
      obtain ⟨hw1, hw2⟩ := hw
      refine q_icmp_ge (tgt := 119) eX9_lists_98 (by decide) (fun c => ?_) (fun c => ?_)
      · have hw := hw1 c
        refine x_iinc (v := (x5 + nI 1)) (ls' := [_, _, _, _, _, _, _]) eX9_lists_119 rfl rfl rfl rfl ?_
        refine q_goto (tgt := 62) eX9_lists_122 (by decide) ?_
        refine q_le (ls' := [some _, none, none, some _, some _, some _, none]) ⟨rfl, rfl, rfl, rfl, trivial⟩ ?_
        exact hK62 _ _ _ _ _ _ _ hw
      · have hw := hw2 c
        refine q_aload_nr eX9_lists_101 rfl ?_
        refine q_iload eX9_lists_102 rfl ?_
        refine q_iload eX9_lists_104 rfl ?_
        refine q_i2l eX9_lists_106 ?_
        refine q_bud (b' := b + 0) (t' := t + 0) (Nat.add_zero _) (Nat.add_zero _) ?_
        refine q_callV (b := b) (t := t) (gX8_put _ _ _ _ _ hw) mlX9_370 kX8_put vX8_put rfl hs41 ⟨rfl, rfl⟩ (by decide) rfl (Nat.le_of_ble_eq_true rfl) eX9_lists_107 (kV fun h43 hw => ?_)
        refine x_iinc (v := (x4 + nI 1)) (ls' := [_, _, _, _, _, _, _]) eX9_lists_110 rfl rfl rfl rfl ?_
        refine x_iinc (v := (x6 + nI 1)) (ls' := [_, _, _, _, _, _, _]) eX9_lists_113 rfl rfl rfl rfl ?_
        refine q_goto (tgt := 77) eX9_lists_116 (by decide) ?_
        refine q_le (ls' := [some _, none, none, some _, some _, some _, some _]) ⟨rfl, rfl, rfl, rfl, rfl, trivial⟩ ?_
        exact ih _ _ _ _ _ _ _ _ hw
def wX9_lists_62 (Q : Int32 → MH → Prop) : Nat → Nat → Nat → Nat → Nat → Int32 → Int32 → MH → Prop
  | 0, _, _, _, _, _, _, _ => False
  | n + 1, b, t, x0, x3, x4, x5, h => hS h x0 = (1, 9) ∧ ∃ a29, hR h x0 7 = some a29 ∧ hS h a29 = (1, 0) ∧ (hI h a29 2 ≤ x5 → Q (x4) h) ∧ (¬ (hI h a29 2 ≤ x5) → ∃ m44, wX9_lists_77 Q (wX9_lists_62 Q n) m44 b t x0 x3 x4 x5 (nI 0) h)
set_option maxHeartbeats 4000000 in
set_option maxRecDepth 100000 in
theorem tX9_lists_62 {Q : Int32 → MH → Prop} : ∀ (n : Nat) (h : MH) (b t : Nat) (x0 : Nat) (x3 : Nat) (x4 : Int32) (x5 : Int32), wX9_lists_62 Q n b t x0 x3 x4 x5 h → Wm MX9_lists 303 b t 62 [some (.ref (x0)), none, none, some (.ref (x3)), some (.int (x4)), some (.int (x5)), none] [] h (pI Q) := by
  intro n
  induction n with
  | zero => intro h b t x0 x3 x4 x5 hw; exact hw.elim
  | succ n ih =>
    intro h b t x0 x3 x4 x5 hw
    unfold wX9_lists_62 at hw
    refine q_iload eX9_lists_62 rfl ?_
    refine q_aload_nr eX9_lists_64 rfl ?_
    obtain ⟨hs28, hw⟩ := hw
    obtain ⟨a29, hr30, hw⟩ := hw
    refine q_getR flX9_58 rfl hs28 hr30 eX9_lists_65 ?_
    obtain ⟨hs31, hw⟩ := hw
    refine q_getI flX9_374 rfl hs31 eX9_lists_68 ?_
    obtain ⟨hw1, hw2⟩ := hw
    refine q_icmp_ge (tgt := 125) eX9_lists_71 (by decide) (fun c => ?_) (fun c => ?_)
    · have hw := hw1 c
      refine q_iload eX9_lists_125 rfl ?_
      exact q_ret rfl eX9_lists_127 ⟨_, rfl, hw⟩
    · have hw := hw2 c
      refine q_iconst (v := nI 0) eX9_lists_74 (by decide) ?_
      refine x_istore (ls' := [_, _, _, _, _, _, _]) eX9_lists_75 (by decide) rfl rfl ?_
      refine q_le (ls' := [some _, none, none, some _, some _, some _, some _]) ⟨rfl, rfl, rfl, rfl, rfl, trivial⟩ ?_
      obtain ⟨m44, hw⟩ := hw
      exact tX9_lists_77 ih m44 _ _ _ _ _ _ _ _ hw
def wX9_lists (b t : Nat) (x0 : Nat) (x1 : Int32) (x2 : Int32) (h : MH) (Q : Int32 → MH → Prop) : Prop := wX9_isTray x1 h (fun r1 h2 => (r1 = 0 → Q ((-2 : Int32)) h2) ∧ (¬ (r1 = 0) → wX9_isAim x2 h2 (fun r3 h4 => (¬ (r3 = 0) → hS h4 x0 = (1, 9) ∧ ∃ a6, hR h4 x0 9 = some a6 ∧ ∃ n9, hS h4 a6 = (7, n9) ∧ vp_in (x1) n9 ∧ ∃ a11, hR h4 a6 (x1).toNatClampNeg = some a11 ∧ hS h4 a11 = (1, 8) ∧ wX8_isMissing a11 h4 (fun r14 h15 => (r14 = 0 → hS h15 x0 = (1, 9) ∧ ∃ a17, hR h15 x0 7 = some a17 ∧ ∃ a19, hR h15 x0 1 = some a19 ∧ ∃ a21, hR h15 x0 2 = some a21 ∧ hS h15 a17 = (1, 0) ∧ 1 ≤ b ∧ 2048 ≤ t ∧ wX0_solve 1 2048 a17 a19 a21 x2 h15 (fun r26 h27 => (¬ (r26 = 0) → ∃ m45, wX9_lists_62 Q m45 (b - 1) (t - 2048) x0 a11 (nI 0) (nI 0) h27) ∧ (r26 = 0 → Q ((-5 : Int32)) h27))) ∧ (¬ (r14 = 0) → Q ((-6 : Int32)) h15))) ∧ (r3 = 0 → Q ((-2 : Int32)) h4))))
set_option maxHeartbeats 4000000 in
set_option maxRecDepth 100000 in
theorem gX9_lists (b t : Nat) (x0 : Nat) (x1 : Int32) (x2 : Int32) (h : MH) (Q : Int32 → MH → Prop) (hw : wX9_lists b t x0 x1 x2 h Q) : Cm MX9_lists 303 b t [.ref (x0), .int (x1), .int (x2)] h (pI Q) := by
  refine cm_of [some (.ref (x0)), some (.int (x1)), some (.int (x2)), none, none, none, none] rfl pnX9 (Nat.le_of_ble_eq_true rfl) rfl ?_
  unfold wX9_lists at hw
  refine q_iload_n eX9_lists_0 rfl ?_
  refine q_bud (b' := b + 0) (t' := t + 0) (Nat.add_zero _) (Nat.add_zero _) ?_
  refine q_callS (b := b) (t := t) (gX9_isTray _ _ _ hw) mlX9_220 kX9_isTray sX9_isTray rfl (by decide) rfl (Nat.le_of_ble_eq_true rfl) eX9_lists_1 (kI fun r1 h2 hw => ?_)
  obtain ⟨hw1, hw2⟩ := hw
  refine q_if_eq (tgt := 14) eX9_lists_4 (by decide) (fun c => ?_) (fun c => ?_)
  · have hw := hw1 c
    refine q_bipush (v := (-2 : Int32)) eX9_lists_14 (by decide) ?_
    exact q_ret rfl eX9_lists_16 ⟨_, rfl, hw⟩
  · have hw := hw2 c
    refine q_iload_n eX9_lists_7 rfl ?_
    refine q_bud (b' := b + 0) (t' := t + 0) (Nat.add_zero _) (Nat.add_zero _) ?_
    refine q_callS (b := b) (t := t) (gX9_isAim _ _ _ hw) mlX9_256 kX9_isAim sX9_isAim rfl (by decide) rfl (Nat.le_of_ble_eq_true rfl) eX9_lists_8 (kI fun r3 h4 hw => ?_)
    obtain ⟨hw1, hw2⟩ := hw
    refine q_if_ne (tgt := 17) eX9_lists_11 (by decide) (fun c => ?_) (fun c => ?_)
    · have hw := hw1 c
      refine q_aload_nr eX9_lists_17 rfl ?_
      obtain ⟨hs5, hw⟩ := hw
      obtain ⟨a6, hr7, hw⟩ := hw
      refine q_getR flX9_73 rfl hs5 hr7 eX9_lists_18 ?_
      refine q_iload_n eX9_lists_21 rfl ?_
      obtain ⟨n9, hs8, hw⟩ := hw
      obtain ⟨hi10, hw⟩ := hw
      obtain ⟨a11, hr12, hw⟩ := hw
      refine q_aald (Or.inr (Or.inl rfl)) hs8 hi10 hr12 eX9_lists_22 ?_
      refine x_astore_nr (ls' := [_, _, _, _, _, _, _]) eX9_lists_23 (by decide) rfl rfl ?_
      refine q_aload_nr eX9_lists_24 rfl ?_
      obtain ⟨hs13, hw⟩ := hw
      refine q_bud (b' := b + 0) (t' := t + 0) (Nat.add_zero _) (Nat.add_zero _) ?_
      refine q_callV (b := b) (t := t) (gX8_isMissing _ _ _ hw) mlX9_223 kX8_isMissing vX8_isMissing rfl hs13 ⟨rfl, rfl⟩ (by decide) rfl (Nat.le_of_ble_eq_true rfl) eX9_lists_25 (kI fun r14 h15 hw => ?_)
      obtain ⟨hw1, hw2⟩ := hw
      refine q_if_eq (tgt := 34) eX9_lists_28 (by decide) (fun c => ?_) (fun c => ?_)
      · have hw := hw1 c
        refine q_aload_nr eX9_lists_34 rfl ?_
        obtain ⟨hs16, hw⟩ := hw
        obtain ⟨a17, hr18, hw⟩ := hw
        refine q_getR flX9_58 rfl hs16 hr18 eX9_lists_35 ?_
        refine q_aload_nr eX9_lists_38 rfl ?_
        obtain ⟨a19, hr20, hw⟩ := hw
        refine q_getR flX9_19 rfl hs16 hr20 eX9_lists_39 ?_
        refine q_aload_nr eX9_lists_42 rfl ?_
        obtain ⟨a21, hr22, hw⟩ := hw
        refine q_getR flX9_26 rfl hs16 hr22 eX9_lists_43 ?_
        refine q_iload_n eX9_lists_46 rfl ?_
        obtain ⟨hs23, hw⟩ := hw
        obtain ⟨hc24, hc25, hw⟩ := hw
        refine q_bud (b' := (b - 1) + 1) (t' := (t - 2048) + 2048) (by omega) (by omega) ?_
        refine q_callV (b := (b - 1)) (t := (t - 2048)) (gX0_solve 1 2048 _ _ _ _ _ _ hw) mlX9_259 kX0_solve vX0_solve rfl hs23 ⟨rfl, rfl⟩ (by decide) rfl (Nat.le_of_ble_eq_true rfl) eX9_lists_47 (kI fun r26 h27 hw => ?_)
        obtain ⟨hw1, hw2⟩ := hw
        refine q_if_ne (tgt := 56) eX9_lists_50 (by decide) (fun c => ?_) (fun c => ?_)
        · have hw := hw1 c
          refine q_iconst (v := nI 0) eX9_lists_56 (by decide) ?_
          refine x_istore (ls' := [_, _, _, _, _, _, _]) eX9_lists_57 (by decide) rfl rfl ?_
          refine q_iconst (v := nI 0) eX9_lists_59 (by decide) ?_
          refine x_istore (ls' := [_, _, _, _, _, _, _]) eX9_lists_60 (by decide) rfl rfl ?_
          refine q_le (ls' := [some _, none, none, some _, some _, some _, none]) ⟨rfl, rfl, rfl, rfl, trivial⟩ ?_
          obtain ⟨m45, hw⟩ := hw
          exact tX9_lists_62 m45 _ _ _ _ _ _ _ hw
        · have hw := hw2 c
          refine q_bipush (v := (-5 : Int32)) eX9_lists_53 (by decide) ?_
          exact q_ret rfl eX9_lists_55 ⟨_, rfl, hw⟩
      · have hw := hw2 c
        refine q_bipush (v := (-6 : Int32)) eX9_lists_31 (by decide) ?_
        exact q_ret rfl eX9_lists_33 ⟨_, rfl, hw⟩
    · have hw := hw2 c
      refine q_bipush (v := (-2 : Int32)) eX9_lists_14 (by decide) ?_
      exact q_ret rfl eX9_lists_16 ⟨_, rfl, hw⟩
def wX9_isImage (x0 : Int32) (h : MH) (Q : Int32 → MH → Prop) : Prop := ((if x0 < 0 then nI 0 else (if nI 2 ≤ x0 then nI 0 else nI 1)) = 0 ∨ (if x0 < 0 then nI 0 else (if nI 2 ≤ x0 then nI 0 else nI 1)) = 1) ∧ Q ((if x0 < 0 then nI 0 else (if nI 2 ≤ x0 then nI 0 else nI 1))) h
set_option maxHeartbeats 4000000 in
set_option maxRecDepth 100000 in
theorem gX9_isImage (x0 : Int32) (h : MH) (Q : Int32 → MH → Prop) (hw : wX9_isImage x0 h Q) : Cm MX9_isImage 0 0 0 [.int (x0)] h (pI Q) := by
  refine cm_of [some (.int (x0))] rfl pnX9 (Nat.le_of_ble_eq_true rfl) rfl ?_
  unfold wX9_isImage at hw
  refine q_iload_n eX9_isImage_0 rfl ?_
  have hj3 : Wm MX9_isImage 0 0 0 14 [some (.int (x0))] [.int ((if x0 < 0 then nI 0 else (if nI 2 ≤ x0 then nI 0 else nI 1)))] h (pI Q) := by
    obtain ⟨hz2, hw⟩ := hw
    exact q_retZ rfl hz2 eX9_isImage_14 ⟨_, rfl, hw⟩
  refine q_if_lt (tgt := 13) eX9_isImage_1 (by decide) (fun c => ?_) (fun c => ?_)
  · refine q_iconst (v := nI 0) eX9_isImage_13 (by decide) ?_
    rw [if_pos c] at hj3
    exact hj3
  · refine q_iload_n eX9_isImage_4 rfl ?_
    refine q_iconst (v := nI 2) eX9_isImage_5 (by decide) ?_
    have hj4 : Wm MX9_isImage 0 0 0 14 [some (.int (x0))] [.int ((if nI 2 ≤ x0 then nI 0 else nI 1))] h (pI Q) := by
      rw [if_neg c] at hj3
      exact hj3
    refine q_icmp_ge (tgt := 13) eX9_isImage_6 (by decide) (fun c => ?_) (fun c => ?_)
    · refine q_iconst (v := nI 0) eX9_isImage_13 (by decide) ?_
      rw [if_pos c] at hj4
      exact hj4
    · refine q_iconst (v := nI 1) eX9_isImage_9 (by decide) ?_
      refine q_goto (tgt := 14) eX9_isImage_10 (by decide) ?_
      rw [if_neg c] at hj4
      exact hj4
def wX9_image (x0 : Nat) (x1 : Int32) (h : MH) (Q : Int32 → MH → Prop) : Prop := wX9_isImage x1 h (fun r1 h2 => (¬ (r1 = 0) → hS h2 x0 = (1, 9) ∧ ∃ a4, hR h2 x0 10 = some a4 ∧ ∃ a6, hR h2 x0 1 = some a6 ∧ ∃ n9, hS h2 a4 = (8, n9) ∧ vp_in (x1) n9 ∧ hS h2 a6 = (1, 4) ∧ ∀ h11, h11 = sR h2 a4 (x1).toNatClampNeg (some a6) → ∃ a13, hR h11 x0 11 = some a13 ∧ ∃ n16, hS h11 a13 = (6, n16) ∧ vp_in (x1) n16 ∧ ∃ a18, hR h11 a13 (x1).toNatClampNeg = some a18 ∧ ∃ a20, hR h11 x0 2 = some a20 ∧ hS h11 a18 = (1, 6) ∧ wX6_copyFrom a18 a20 h11 (fun h24 => Q (nI 0) h24)) ∧ (r1 = 0 → Q ((-2 : Int32)) h2))
set_option maxHeartbeats 4000000 in
set_option maxRecDepth 100000 in
theorem gX9_image (x0 : Nat) (x1 : Int32) (h : MH) (Q : Int32 → MH → Prop) (hw : wX9_image x0 x1 h Q) : Cm MX9_image 2 0 0 [.ref (x0), .int (x1)] h (pI Q) := by
  refine cm_of [some (.ref (x0)), some (.int (x1))] rfl pnX9 (Nat.le_of_ble_eq_true rfl) rfl ?_
  unfold wX9_image at hw
  refine q_iload_n eX9_image_0 rfl ?_
  refine q_callS (b := 0) (t := 0) (gX9_isImage _ _ _ hw) mlX9_377 kX9_isImage sX9_isImage rfl (by decide) rfl (Nat.le_of_ble_eq_true rfl) eX9_image_1 (kI fun r1 h2 hw => ?_)
  obtain ⟨hw1, hw2⟩ := hw
  refine q_if_ne (tgt := 10) eX9_image_4 (by decide) (fun c => ?_) (fun c => ?_)
  · have hw := hw1 c
    refine q_aload_nr eX9_image_10 rfl ?_
    obtain ⟨hs3, hw⟩ := hw
    obtain ⟨a4, hr5, hw⟩ := hw
    refine q_getR flX9_77 rfl hs3 hr5 eX9_image_11 ?_
    refine q_iload_n eX9_image_14 rfl ?_
    refine q_aload_nr eX9_image_15 rfl ?_
    obtain ⟨a6, hr7, hw⟩ := hw
    refine q_getR flX9_19 rfl hs3 hr7 eX9_image_16 ?_
    obtain ⟨n9, hs8, hw⟩ := hw
    obtain ⟨hi10, hw⟩ := hw
    obtain ⟨hs12, hw⟩ := hw
    have hw := hw _ rfl
    refine q_aast (Or.inr (Or.inr rfl)) hs8 hs12 hi10 eX9_image_19 ?_
    refine q_aload_nr eX9_image_20 rfl ?_
    obtain ⟨a13, hr14, hw⟩ := hw
    refine q_getR flX9_81 rfl hs3 hr14 eX9_image_21 ?_
    refine q_iload_n eX9_image_24 rfl ?_
    obtain ⟨n16, hs15, hw⟩ := hw
    obtain ⟨hi17, hw⟩ := hw
    obtain ⟨a18, hr19, hw⟩ := hw
    refine q_aald (Or.inl rfl) hs15 hi17 hr19 eX9_image_25 ?_
    refine q_aload_nr eX9_image_26 rfl ?_
    obtain ⟨a20, hr21, hw⟩ := hw
    refine q_getR flX9_26 rfl hs3 hr21 eX9_image_27 ?_
    obtain ⟨hs22, hw⟩ := hw
    refine q_callV (b := 0) (t := 0) (gX6_copyFrom _ _ _ _ hw) mlX9_181 kX6_copyFrom vX6_copyFrom rfl hs22 ⟨rfl, rfl⟩ (by decide) rfl (Nat.le_of_ble_eq_true rfl) eX9_image_30 (kV fun h24 hw => ?_)
    refine q_iconst (v := nI 0) eX9_image_33 (by decide) ?_
    exact q_ret rfl eX9_image_34 ⟨_, rfl, hw⟩
  · have hw := hw2 c
    refine q_bipush (v := (-2 : Int32)) eX9_image_7 (by decide) ?_
    exact q_ret rfl eX9_image_9 ⟨_, rfl, hw⟩
def wX9_restore (x0 : Nat) (x1 : Int32) (h : MH) (Q : Int32 → MH → Prop) : Prop := wX9_isImage x1 h (fun r1 h2 => (¬ (r1 = 0) → hS h2 x0 = (1, 9) ∧ ∃ a4, hR h2 x0 10 = some a4 ∧ ∃ n7, hS h2 a4 = (8, n7) ∧ vp_in (x1) n7 ∧ (∀ a9, hR h2 a4 (x1).toNatClampNeg = some a9 → ∀ h10, h10 = sR h2 x0 1 (some a9) → ∃ a11, hR h10 x0 2 = some a11 ∧ ∃ a13, hR h10 x0 11 = some a13 ∧ ∃ n16, hS h10 a13 = (6, n16) ∧ vp_in (x1) n16 ∧ ∃ a18, hR h10 a13 (x1).toNatClampNeg = some a18 ∧ hS h10 a11 = (1, 6) ∧ wX6_copyFrom a11 a18 h10 (fun h22 => hS h22 x0 = (1, 9) ∧ ∃ a24, hR h22 x0 5 = some a24 ∧ hS h22 a24 = (1, 2) ∧ wX2_forget a24 h22 (fun h28 => Q (nI 0) h28))) ∧ (hR h2 a4 (x1).toNatClampNeg = none → Q ((-5 : Int32)) h2)) ∧ (r1 = 0 → Q ((-2 : Int32)) h2))
set_option maxHeartbeats 4000000 in
set_option maxRecDepth 100000 in
theorem gX9_restore (x0 : Nat) (x1 : Int32) (h : MH) (Q : Int32 → MH → Prop) (hw : wX9_restore x0 x1 h Q) : Cm MX9_restore 2 0 0 [.ref (x0), .int (x1)] h (pI Q) := by
  refine cm_of [some (.ref (x0)), some (.int (x1)), none] rfl pnX9 (Nat.le_of_ble_eq_true rfl) rfl ?_
  unfold wX9_restore at hw
  refine q_iload_n eX9_restore_0 rfl ?_
  refine q_callS (b := 0) (t := 0) (gX9_isImage _ _ _ hw) mlX9_377 kX9_isImage sX9_isImage rfl (by decide) rfl (Nat.le_of_ble_eq_true rfl) eX9_restore_1 (kI fun r1 h2 hw => ?_)
  obtain ⟨hw1, hw2⟩ := hw
  refine q_if_ne (tgt := 10) eX9_restore_4 (by decide) (fun c => ?_) (fun c => ?_)
  · have hw := hw1 c
    refine q_aload_nr eX9_restore_10 rfl ?_
    obtain ⟨hs3, hw⟩ := hw
    obtain ⟨a4, hr5, hw⟩ := hw
    refine q_getR flX9_77 rfl hs3 hr5 eX9_restore_11 ?_
    refine q_iload_n eX9_restore_14 rfl ?_
    obtain ⟨n7, hs6, hw⟩ := hw
    obtain ⟨hi8, hw⟩ := hw
    refine q_aaldq (Or.inr (Or.inr rfl)) hs6 hi8 eX9_restore_15 ?_
    refine x_astore_n (ls' := [_, _, _]) eX9_restore_16 (by decide) rfl rfl ?_
    refine q_aload_n eX9_restore_17 rfl ?_
    obtain ⟨hw1, hw2⟩ := hw
    refine q_ifnonnull (tgt := 24) eX9_restore_18 (by decide) (fun a9 c => ?_) (fun c => ?_)
    · have hw := hw1 _ c
      rw [c]
      show Wm _ _ _ _ _ [some (.ref (x0)), some (.int (x1)), some (.ref (a9))] _ _ _
      refine q_aload_nr eX9_restore_24 rfl ?_
      refine q_aload_nr eX9_restore_25 rfl ?_
      have hw := hw _ rfl
      refine q_putR (fwX9_19 _) rfl hs3 eX9_restore_26 ?_
      refine q_aload_nr eX9_restore_29 rfl ?_
      obtain ⟨a11, hr12, hw⟩ := hw
      refine q_getR flX9_26 rfl hs3 hr12 eX9_restore_30 ?_
      refine q_aload_nr eX9_restore_33 rfl ?_
      obtain ⟨a13, hr14, hw⟩ := hw
      refine q_getR flX9_81 rfl hs3 hr14 eX9_restore_34 ?_
      refine q_iload_n eX9_restore_37 rfl ?_
      obtain ⟨n16, hs15, hw⟩ := hw
      obtain ⟨hi17, hw⟩ := hw
      obtain ⟨a18, hr19, hw⟩ := hw
      refine q_aald (Or.inl rfl) hs15 hi17 hr19 eX9_restore_38 ?_
      obtain ⟨hs20, hw⟩ := hw
      refine q_callV (b := 0) (t := 0) (gX6_copyFrom _ _ _ _ hw) mlX9_181 kX6_copyFrom vX6_copyFrom rfl hs20 ⟨rfl, rfl⟩ (by decide) rfl (Nat.le_of_ble_eq_true rfl) eX9_restore_39 (kV fun h22 hw => ?_)
      refine q_aload_nr eX9_restore_42 rfl ?_
      obtain ⟨hs23, hw⟩ := hw
      obtain ⟨a24, hr25, hw⟩ := hw
      refine q_getR flX9_44 rfl hs23 hr25 eX9_restore_43 ?_
      obtain ⟨hs26, hw⟩ := hw
      refine q_callV (b := 0) (t := 0) (gX2_forget _ _ _ hw) mlX9_108 kX2_forget vX2_forget rfl hs26 ⟨rfl, rfl⟩ (by decide) rfl (Nat.le_of_ble_eq_true rfl) eX9_restore_46 (kV fun h28 hw => ?_)
      refine q_iconst (v := nI 0) eX9_restore_49 (by decide) ?_
      exact q_ret rfl eX9_restore_50 ⟨_, rfl, hw⟩
    · have hw := hw2 c
      refine q_bipush (v := (-5 : Int32)) eX9_restore_21 (by decide) ?_
      exact q_ret rfl eX9_restore_23 ⟨_, rfl, hw⟩
  · have hw := hw2 c
    refine q_bipush (v := (-2 : Int32)) eX9_restore_7 (by decide) ?_
    exact q_ret rfl eX9_restore_9 ⟨_, rfl, hw⟩
def wX9_count (x0 : Nat) (x1 : Int32) (h : MH) (Q : Int32 → MH → Prop) : Prop := ((x1).toInt < 0 ∨ 8 < (x1).toInt → Q ((-1 : Int32)) h) ∧ (x1 = nI 0 → hS h x0 = (1, 9) ∧ ∃ a2, hR h x0 1 = some a2 ∧ hS h a2 = (1, 4) ∧ Q (hI h a2 0) h) ∧ (x1 = nI 1 → hS h x0 = (1, 9) ∧ ∃ a6, hR h x0 1 = some a6 ∧ hS h a6 = (1, 4) ∧ Q (hI h a6 3) h) ∧ (x1 = nI 2 → hS h x0 = (1, 9) ∧ ∃ a10, hR h x0 2 = some a10 ∧ hS h a10 = (1, 6) ∧ Q (hI h a10 0) h) ∧ (x1 = nI 3 → hS h x0 = (1, 9) ∧ ∃ a14, hR h x0 2 = some a14 ∧ hS h a14 = (1, 6) ∧ wX6_allCopies a14 h (fun r17 h18 => Q (r17) h18)) ∧ (x1 = nI 4 → hS h x0 = (1, 9) ∧ ∃ a20, hR h x0 2 = some a20 ∧ hS h a20 = (1, 6) ∧ Q (hI h a20 1) h) ∧ (x1 = nI 5 → hS h x0 = (1, 9) ∧ ∃ a24, hR h x0 1 = some a24 ∧ hS h a24 = (1, 4) ∧ wX4_allWork a24 h (fun r27 h28 => Q (r27) h28)) ∧ (x1 = nI 6 → hS h x0 = (1, 9) ∧ ∃ a30, hR h x0 5 = some a30 ∧ hS h a30 = (1, 2) ∧ Q (hI h a30 2) h) ∧ (x1 = nI 7 → hS h x0 = (1, 9) ∧ ∃ a34, hR h x0 0 = some a34 ∧ hS h a34 = (1, 5) ∧ Q (hI h a34 0) h) ∧ (x1 = nI 8 → hS h x0 = (1, 9) ∧ ∃ a38, hR h x0 1 = some a38 ∧ hS h a38 = (1, 4) ∧ Q (hI h a38 2) h)
set_option maxHeartbeats 4000000 in
set_option maxRecDepth 100000 in
theorem gX9_count (x0 : Nat) (x1 : Int32) (h : MH) (Q : Int32 → MH → Prop) (hw : wX9_count x0 x1 h Q) : Cm MX9_count 2 0 0 [.ref (x0), .int (x1)] h (pI Q) := by
  refine cm_of [some (.ref (x0)), some (.int (x1))] rfl pnX9 (Nat.le_of_ble_eq_true rfl) rfl ?_
  unfold wX9_count at hw
  refine q_iload_n eX9_count_0 rfl ?_
  obtain ⟨hw0, hw1, hw2, hw3, hw4, hw5, hw6, hw7, hw8, hw9⟩ := hw
  by_cases hx : (x1).toInt < 0 ∨ 8 < (x1).toInt
  · have hw := hw0 hx
    refine q_tabOut (tgt := 124) eX9_count_1 hx (by decide) ?_
    refine q_iconst (v := (-1 : Int32)) eX9_count_124 (by decide) ?_
    exact q_ret rfl eX9_count_125 ⟨_, rfl, hw⟩
  · have hk : (x1).toInt = 0 ∨ (x1).toInt = 1 ∨ (x1).toInt = 2 ∨ (x1).toInt = 3 ∨ (x1).toInt = 4 ∨ (x1).toInt = 5 ∨ (x1).toInt = 6 ∨ (x1).toInt = 7 ∨ (x1).toInt = 8 := by omega
    rcases hk with hk | hk | hk | hk | hk | hk | hk | hk | hk
    · have hw := hw1 (x_toInt (by decide) hk)
      refine q_tabIn (off := 51) (tgt := 52) eX9_count_1 (by omega) (by omega) (by rw [hk]; rfl) (by decide) ?_
      refine q_aload_nr eX9_count_52 rfl ?_
      obtain ⟨hs1, hw⟩ := hw
      obtain ⟨a2, hr3, hw⟩ := hw
      refine q_getR flX9_19 rfl hs1 hr3 eX9_count_53 ?_
      obtain ⟨hs4, hw⟩ := hw
      refine q_getI flX9_380 rfl hs4 eX9_count_56 ?_
      exact q_ret rfl eX9_count_59 ⟨_, rfl, hw⟩
    · have hw := hw2 (x_toInt (by decide) hk)
      refine q_tabIn (off := 59) (tgt := 60) eX9_count_1 (by omega) (by omega) (by rw [hk]; rfl) (by decide) ?_
      refine q_aload_nr eX9_count_60 rfl ?_
      obtain ⟨hs5, hw⟩ := hw
      obtain ⟨a6, hr7, hw⟩ := hw
      refine q_getR flX9_19 rfl hs5 hr7 eX9_count_61 ?_
      obtain ⟨hs8, hw⟩ := hw
      refine q_getI flX9_309 rfl hs8 eX9_count_64 ?_
      exact q_ret rfl eX9_count_67 ⟨_, rfl, hw⟩
    · have hw := hw3 (x_toInt (by decide) hk)
      refine q_tabIn (off := 67) (tgt := 68) eX9_count_1 (by omega) (by omega) (by rw [hk]; rfl) (by decide) ?_
      refine q_aload_nr eX9_count_68 rfl ?_
      obtain ⟨hs9, hw⟩ := hw
      obtain ⟨a10, hr11, hw⟩ := hw
      refine q_getR flX9_26 rfl hs9 hr11 eX9_count_69 ?_
      obtain ⟨hs12, hw⟩ := hw
      refine q_getI flX9_145 rfl hs12 eX9_count_72 ?_
      exact q_ret rfl eX9_count_75 ⟨_, rfl, hw⟩
    · have hw := hw4 (x_toInt (by decide) hk)
      refine q_tabIn (off := 75) (tgt := 76) eX9_count_1 (by omega) (by omega) (by rw [hk]; rfl) (by decide) ?_
      refine q_aload_nr eX9_count_76 rfl ?_
      obtain ⟨hs13, hw⟩ := hw
      obtain ⟨a14, hr15, hw⟩ := hw
      refine q_getR flX9_26 rfl hs13 hr15 eX9_count_77 ?_
      obtain ⟨hs16, hw⟩ := hw
      refine q_callV (b := 0) (t := 0) (gX6_allCopies _ _ _ hw) mlX9_383 kX6_allCopies vX6_allCopies rfl hs16 ⟨rfl, rfl⟩ (by decide) rfl (Nat.le_of_ble_eq_true rfl) eX9_count_80 (kI fun r17 h18 hw => ?_)
      exact q_ret rfl eX9_count_83 ⟨_, rfl, hw⟩
    · have hw := hw5 (x_toInt (by decide) hk)
      refine q_tabIn (off := 83) (tgt := 84) eX9_count_1 (by omega) (by omega) (by rw [hk]; rfl) (by decide) ?_
      refine q_aload_nr eX9_count_84 rfl ?_
      obtain ⟨hs19, hw⟩ := hw
      obtain ⟨a20, hr21, hw⟩ := hw
      refine q_getR flX9_26 rfl hs19 hr21 eX9_count_85 ?_
      obtain ⟨hs22, hw⟩ := hw
      refine q_getI flX9_240 rfl hs22 eX9_count_88 ?_
      exact q_ret rfl eX9_count_91 ⟨_, rfl, hw⟩
    · have hw := hw6 (x_toInt (by decide) hk)
      refine q_tabIn (off := 91) (tgt := 92) eX9_count_1 (by omega) (by omega) (by rw [hk]; rfl) (by decide) ?_
      refine q_aload_nr eX9_count_92 rfl ?_
      obtain ⟨hs23, hw⟩ := hw
      obtain ⟨a24, hr25, hw⟩ := hw
      refine q_getR flX9_19 rfl hs23 hr25 eX9_count_93 ?_
      obtain ⟨hs26, hw⟩ := hw
      refine q_callV (b := 0) (t := 0) (gX4_allWork _ _ _ hw) mlX9_387 kX4_allWork vX4_allWork rfl hs26 ⟨rfl, rfl⟩ (by decide) rfl (Nat.le_of_ble_eq_true rfl) eX9_count_96 (kI fun r27 h28 hw => ?_)
      exact q_ret rfl eX9_count_99 ⟨_, rfl, hw⟩
    · have hw := hw7 (x_toInt (by decide) hk)
      refine q_tabIn (off := 99) (tgt := 100) eX9_count_1 (by omega) (by omega) (by rw [hk]; rfl) (by decide) ?_
      refine q_aload_nr eX9_count_100 rfl ?_
      obtain ⟨hs29, hw⟩ := hw
      obtain ⟨a30, hr31, hw⟩ := hw
      refine q_getR flX9_44 rfl hs29 hr31 eX9_count_101 ?_
      obtain ⟨hs32, hw⟩ := hw
      refine q_getI flX9_213 rfl hs32 eX9_count_104 ?_
      exact q_ret rfl eX9_count_107 ⟨_, rfl, hw⟩
    · have hw := hw8 (x_toInt (by decide) hk)
      refine q_tabIn (off := 107) (tgt := 108) eX9_count_1 (by omega) (by omega) (by rw [hk]; rfl) (by decide) ?_
      refine q_aload_nr eX9_count_108 rfl ?_
      obtain ⟨hs33, hw⟩ := hw
      obtain ⟨a34, hr35, hw⟩ := hw
      refine q_getR flX9_12 rfl hs33 hr35 eX9_count_109 ?_
      obtain ⟨hs36, hw⟩ := hw
      refine q_getI flX9_87 rfl hs36 eX9_count_112 ?_
      exact q_ret rfl eX9_count_115 ⟨_, rfl, hw⟩
    · have hw := hw9 (x_toInt (by decide) hk)
      refine q_tabIn (off := 115) (tgt := 116) eX9_count_1 (by omega) (by omega) (by rw [hk]; rfl) (by decide) ?_
      refine q_aload_nr eX9_count_116 rfl ?_
      obtain ⟨hs37, hw⟩ := hw
      obtain ⟨a38, hr39, hw⟩ := hw
      refine q_getR flX9_19 rfl hs37 hr39 eX9_count_117 ?_
      obtain ⟨hs40, hw⟩ := hw
      refine q_getI flX9_111 rfl hs40 eX9_count_120 ?_
      exact q_ret rfl eX9_count_123 ⟨_, rfl, hw⟩
def wX10_within (x0 : Int64) (x2 : Int64) (x4 : Int64) (h : MH) (Q : Int32 → MH → Prop) : Prop := ((lg_cmp (x0) (x2)) < 0 → Q (nI 0) h) ∧ (¬ ((lg_cmp (x0) (x2)) < 0) → ((if 0 < (lg_cmp (x0) (x4)) then nI 0 else nI 1) = 0 ∨ (if 0 < (lg_cmp (x0) (x4)) then nI 0 else nI 1) = 1) ∧ Q ((if 0 < (lg_cmp (x0) (x4)) then nI 0 else nI 1)) h)
set_option maxHeartbeats 4000000 in
set_option maxRecDepth 100000 in
theorem gX10_within (x0 : Int64) (x2 : Int64) (x4 : Int64) (h : MH) (Q : Int32 → MH → Prop) (hw : wX10_within x0 x2 x4 h Q) : Cm MX10_within 0 0 0 [.long (x0), .long (x2), .long (x4)] h (pI Q) := by
  refine cm_of [some (.long (x0)), none, some (.long (x2)), none, some (.long (x4)), none] rfl pnX10 (Nat.le_of_ble_eq_true rfl) rfl ?_
  unfold wX10_within at hw
  refine q_lload_n eX10_within_0 rfl ?_
  refine q_lload_n eX10_within_1 rfl ?_
  refine q_lcmp eX10_within_2 ?_
  obtain ⟨hw1, hw2⟩ := hw
  refine q_if_lt (tgt := 17) eX10_within_3 (by decide) (fun c => ?_) (fun c => ?_)
  · have hw := hw1 c
    refine q_iconst (v := nI 0) eX10_within_17 (by decide) ?_
    exact q_retZ rfl (by decide) eX10_within_18 ⟨_, rfl, hw⟩
  · have hw := hw2 c
    refine q_lload_n eX10_within_6 rfl ?_
    refine q_lload eX10_within_7 rfl ?_
    refine q_lcmp eX10_within_9 ?_
    have hj3 : Wm MX10_within 0 0 0 18 [some (.long (x0)), none, some (.long (x2)), none, some (.long (x4)), none] [.int ((if 0 < (lg_cmp (x0) (x4)) then nI 0 else nI 1))] h (pI Q) := by
      obtain ⟨hz2, hw⟩ := hw
      exact q_retZ rfl hz2 eX10_within_18 ⟨_, rfl, hw⟩
    refine q_if_gt (tgt := 17) eX10_within_10 (by decide) (fun c => ?_) (fun c => ?_)
    · refine q_iconst (v := nI 0) eX10_within_17 (by decide) ?_
      rw [if_pos c] at hj3
      exact hj3
    · refine q_iconst (v := nI 1) eX10_within_13 (by decide) ?_
      refine q_goto (tgt := 18) eX10_within_14 (by decide) ?_
      rw [if_neg c] at hj3
      exact hj3
def wX10_endOf (x0 : Nat) (x1 : Int32) (x2 : Int32) (h : MH) (Q : Int32 → MH → Prop) : Prop := hS h x0 = (1, 10) ∧ ∃ a2, hR h x0 1 = some a2 ∧ ∃ n5, hS h a2 = (2, n5) ∧ vp_in (((nI 9 + (nI 2 * x1)) + x2)) n5 ∧ Q (hI h a2 (((nI 9 + (nI 2 * x1)) + x2)).toNatClampNeg) h
set_option maxHeartbeats 4000000 in
set_option maxRecDepth 100000 in
theorem gX10_endOf (x0 : Nat) (x1 : Int32) (x2 : Int32) (h : MH) (Q : Int32 → MH → Prop) (hw : wX10_endOf x0 x1 x2 h Q) : Cm MX10_endOf 0 0 0 [.ref (x0), .int (x1), .int (x2)] h (pI Q) := by
  refine cm_of [some (.ref (x0)), some (.int (x1)), some (.int (x2))] rfl pnX10 (Nat.le_of_ble_eq_true rfl) rfl ?_
  unfold wX10_endOf at hw
  refine q_aload_nr eX10_endOf_0 rfl ?_
  obtain ⟨hs1, hw⟩ := hw
  obtain ⟨a2, hr3, hw⟩ := hw
  refine q_getR flX10_13 rfl hs1 hr3 eX10_endOf_1 ?_
  refine q_bipush (v := nI 9) eX10_endOf_4 (by decide) ?_
  refine q_iconst (v := nI 2) eX10_endOf_6 (by decide) ?_
  refine q_iload_n eX10_endOf_7 rfl ?_
  refine q_imul eX10_endOf_8 ?_
  refine q_iadd eX10_endOf_9 ?_
  refine q_iload_n eX10_endOf_10 rfl ?_
  refine q_iadd eX10_endOf_11 ?_
  obtain ⟨n5, hs4, hw⟩ := hw
  obtain ⟨hi6, hw⟩ := hw
  refine q_iald hs4 hi6 eX10_endOf_12 ?_
  exact q_ret rfl eX10_endOf_13 ⟨_, rfl, hw⟩
def wX10_endsOf (x0 : Nat) (x1 : Int32) (h : MH) (Q : Int32 → MH → Prop) : Prop := hS h x0 = (1, 10) ∧ wX10_endOf x0 x1 (nI 0) h (fun r2 h3 => hS h3 x0 = (1, 10) ∧ wX10_endOf x0 x1 (nI 1) h3 (fun r5 h6 => Q (((nI 1 <<< (r2 &&& 31)) ||| (nI 1 <<< (r5 &&& 31)))) h6))
set_option maxHeartbeats 4000000 in
set_option maxRecDepth 100000 in
theorem gX10_endsOf (x0 : Nat) (x1 : Int32) (h : MH) (Q : Int32 → MH → Prop) (hw : wX10_endsOf x0 x1 h Q) : Cm MX10_endsOf 1 0 0 [.ref (x0), .int (x1)] h (pI Q) := by
  refine cm_of [some (.ref (x0)), some (.int (x1))] rfl pnX10 (Nat.le_of_ble_eq_true rfl) rfl ?_
  unfold wX10_endsOf at hw
  refine q_iconst (v := nI 1) eX10_endsOf_0 (by decide) ?_
  refine q_aload_nr eX10_endsOf_1 rfl ?_
  refine q_iload_n eX10_endsOf_2 rfl ?_
  refine q_iconst (v := nI 0) eX10_endsOf_3 (by decide) ?_
  obtain ⟨hs1, hw⟩ := hw
  refine q_callV (b := 0) (t := 0) (gX10_endOf _ _ _ _ _ hw) mlX10_219 kX10_endOf vX10_endOf rfl hs1 ⟨rfl, rfl⟩ (by decide) rfl (Nat.le_of_ble_eq_true rfl) eX10_endsOf_4 (kI fun r2 h3 hw => ?_)
  refine q_ishl eX10_endsOf_7 ?_
  refine q_iconst (v := nI 1) eX10_endsOf_8 (by decide) ?_
  refine q_aload_nr eX10_endsOf_9 rfl ?_
  refine q_iload_n eX10_endsOf_10 rfl ?_
  refine q_iconst (v := nI 1) eX10_endsOf_11 (by decide) ?_
  obtain ⟨hs4, hw⟩ := hw
  refine q_callV (b := 0) (t := 0) (gX10_endOf _ _ _ _ _ hw) mlX10_219 kX10_endOf vX10_endOf rfl hs4 ⟨rfl, rfl⟩ (by decide) rfl (Nat.le_of_ble_eq_true rfl) eX10_endsOf_12 (kI fun r5 h6 hw => ?_)
  refine q_ishl eX10_endsOf_15 ?_
  refine q_ior eX10_endsOf_16 ?_
  exact q_ret rfl eX10_endsOf_17 ⟨_, rfl, hw⟩
def wX10_isIn (x0 : Int64) (x2 : Int32) (h : MH) (Q : Int32 → MH → Prop) : Prop := ((if (lg_cmp (((x0 >>> ((x2).toInt64 &&& 63)) &&& (1 : Int64))) ((1 : Int64))) = 0 then nI 1 else nI 0) = 0 ∨ (if (lg_cmp (((x0 >>> ((x2).toInt64 &&& 63)) &&& (1 : Int64))) ((1 : Int64))) = 0 then nI 1 else nI 0) = 1) ∧ Q ((if (lg_cmp (((x0 >>> ((x2).toInt64 &&& 63)) &&& (1 : Int64))) ((1 : Int64))) = 0 then nI 1 else nI 0)) h
set_option maxHeartbeats 4000000 in
set_option maxRecDepth 100000 in
theorem gX10_isIn (x0 : Int64) (x2 : Int32) (h : MH) (Q : Int32 → MH → Prop) (hw : wX10_isIn x0 x2 h Q) : Cm MX10_isIn 0 0 0 [.long (x0), .int (x2)] h (pI Q) := by
  refine cm_of [some (.long (x0)), none, some (.int (x2))] rfl pnX10 (Nat.le_of_ble_eq_true rfl) rfl ?_
  unfold wX10_isIn at hw
  refine q_lload_n eX10_isIn_0 rfl ?_
  refine q_iload_n eX10_isIn_1 rfl ?_
  refine q_lshr eX10_isIn_2 ?_
  refine q_lconst (v := (1 : Int64)) eX10_isIn_3 (by decide) ?_
  refine q_land eX10_isIn_4 ?_
  refine q_lconst (v := (1 : Int64)) eX10_isIn_5 (by decide) ?_
  refine q_lcmp eX10_isIn_6 ?_
  have hj3 : Wm MX10_isIn 0 0 0 15 [some (.long (x0)), none, some (.int (x2))] [.int ((if (lg_cmp (((x0 >>> ((x2).toInt64 &&& 63)) &&& (1 : Int64))) ((1 : Int64))) = 0 then nI 1 else nI 0))] h (pI Q) := by
    obtain ⟨hz2, hw⟩ := hw
    exact q_retZ rfl hz2 eX10_isIn_15 ⟨_, rfl, hw⟩
  refine q_if_ne (tgt := 14) eX10_isIn_7 (by decide) (fun c => ?_) (fun c => ?_)
  · refine q_iconst (v := nI 0) eX10_isIn_14 (by decide) ?_
    rw [if_neg c] at hj3
    exact hj3
  · refine q_iconst (v := nI 1) eX10_isIn_10 (by decide) ?_
    refine q_goto (tgt := 15) eX10_isIn_11 (by decide) ?_
    rw [if_pos c] at hj3
    exact hj3
def wX10_chordsOf_5 (Q : Int32 → MH → Prop) : Nat → Nat → Int32 → Int32 → Int32 → Int32 → MH → Prop
  | 0, _, _, _, _, _, _ => False
  | n + 1, x0, x1, x2, x3, x4, h => hS h x0 = (1, 10) ∧ ∃ a2, hR h x0 1 = some a2 ∧ ∃ n5, hS h a2 = (2, n5) ∧ vp_in (nI 2) n5 ∧ (hI h a2 (nI 2).toNatClampNeg ≤ x4 → Q (x3) h) ∧ (¬ (hI h a2 (nI 2).toNatClampNeg ≤ x4) → wX10_isIn ((x1).toInt64) x4 h (fun r7 h8 => (¬ (r7 = 0) → wX10_chordsOf_5 Q n x0 x1 x2 x3 (x4 + nI 1) h8) ∧ (r7 = 0 → hS h8 x0 = (1, 10) ∧ wX10_endsOf x0 x4 h8 (fun r10 h11 => (¬ ((r10 &&& (x2 ^^^ (-1 : Int32))) = 0) → wX10_chordsOf_5 Q n x0 x1 x2 x3 (x4 + nI 1) h11) ∧ ((r10 &&& (x2 ^^^ (-1 : Int32))) = 0 → wX10_chordsOf_5 Q n x0 x1 x2 (x3 ||| (nI 1 <<< (x4 &&& 31))) (x4 + nI 1) h11)))))
set_option maxHeartbeats 4000000 in
set_option maxRecDepth 100000 in
theorem tX10_chordsOf_5 {Q : Int32 → MH → Prop} : ∀ (n : Nat) (h : MH) (x0 : Nat) (x1 : Int32) (x2 : Int32) (x3 : Int32) (x4 : Int32), wX10_chordsOf_5 Q n x0 x1 x2 x3 x4 h → Wm MX10_chordsOf 2 0 0 5 [some (.ref (x0)), some (.int (x1)), some (.int (x2)), some (.int (x3)), some (.int (x4))] [] h (pI Q) := by
  intro n
  induction n with
  | zero => intro h x0 x1 x2 x3 x4 hw; exact hw.elim
  | succ n ih =>
    intro h x0 x1 x2 x3 x4 hw
    unfold wX10_chordsOf_5 at hw
    refine q_iload eX10_chordsOf_5 rfl ?_
    refine q_aload_nr eX10_chordsOf_7 rfl ?_
    obtain ⟨hs1, hw⟩ := hw
    obtain ⟨a2, hr3, hw⟩ := hw
    refine q_getR flX10_13 rfl hs1 hr3 eX10_chordsOf_8 ?_
    refine q_iconst (v := nI 2) eX10_chordsOf_11 (by decide) ?_
    obtain ⟨n5, hs4, hw⟩ := hw
    obtain ⟨hi6, hw⟩ := hw
    refine q_iald hs4 hi6 eX10_chordsOf_12 ?_
    obtain ⟨hw1, hw2⟩ := hw
    refine q_icmp_ge (tgt := 52) eX10_chordsOf_13 (by decide) (fun c => ?_) (fun c => ?_)
    · have hw := hw1 c
      refine q_iload_n eX10_chordsOf_52 rfl ?_
      exact q_ret rfl eX10_chordsOf_53 ⟨_, rfl, hw⟩
    · have hw := hw2 c
      refine q_iload_n eX10_chordsOf_16 rfl ?_
      refine q_i2l eX10_chordsOf_17 ?_
      refine q_iload eX10_chordsOf_18 rfl ?_
      refine q_callS (b := 0) (t := 0) (gX10_isIn _ _ _ _ hw) mlX10_232 kX10_isIn sX10_isIn rfl (by decide) rfl (Nat.le_of_ble_eq_true rfl) eX10_chordsOf_20 (kI fun r7 h8 hw => ?_)
      obtain ⟨hw1, hw2⟩ := hw
      refine q_if_ne (tgt := 46) eX10_chordsOf_23 (by decide) (fun c => ?_) (fun c => ?_)
      · have hw := hw1 c
        refine x_iinc (v := (x4 + nI 1)) (ls' := [_, _, _, _, _]) eX10_chordsOf_46 rfl rfl rfl rfl ?_
        refine q_goto (tgt := 5) eX10_chordsOf_49 (by decide) ?_
        refine q_le (ls' := [some _, some _, some _, some _, some _]) ⟨rfl, rfl, rfl, rfl, rfl, trivial⟩ ?_
        exact ih _ _ _ _ _ _ hw
      · have hw := hw2 c
        refine q_aload_nr eX10_chordsOf_26 rfl ?_
        refine q_iload eX10_chordsOf_27 rfl ?_
        obtain ⟨hs9, hw⟩ := hw
        refine q_callV (b := 0) (t := 0) (gX10_endsOf _ _ _ _ hw) mlX10_236 kX10_endsOf vX10_endsOf rfl hs9 ⟨rfl, rfl⟩ (by decide) rfl (Nat.le_of_ble_eq_true rfl) eX10_chordsOf_29 (kI fun r10 h11 hw => ?_)
        refine q_iload_n eX10_chordsOf_32 rfl ?_
        refine q_iconst (v := (-1 : Int32)) eX10_chordsOf_33 (by decide) ?_
        refine q_ixor eX10_chordsOf_34 ?_
        refine q_iand eX10_chordsOf_35 ?_
        obtain ⟨hw1, hw2⟩ := hw
        refine q_if_ne (tgt := 46) eX10_chordsOf_36 (by decide) (fun c => ?_) (fun c => ?_)
        · have hw := hw1 c
          refine x_iinc (v := (x4 + nI 1)) (ls' := [_, _, _, _, _]) eX10_chordsOf_46 rfl rfl rfl rfl ?_
          refine q_goto (tgt := 5) eX10_chordsOf_49 (by decide) ?_
          refine q_le (ls' := [some _, some _, some _, some _, some _]) ⟨rfl, rfl, rfl, rfl, rfl, trivial⟩ ?_
          exact ih _ _ _ _ _ _ hw
        · have hw := hw2 c
          refine q_iload_n eX10_chordsOf_39 rfl ?_
          refine q_iconst (v := nI 1) eX10_chordsOf_40 (by decide) ?_
          refine q_iload eX10_chordsOf_41 rfl ?_
          refine q_ishl eX10_chordsOf_43 ?_
          refine q_ior eX10_chordsOf_44 ?_
          refine x_istore_n (ls' := [_, _, _, _, _]) eX10_chordsOf_45 (by decide) rfl rfl ?_
          refine x_iinc (v := (x4 + nI 1)) (ls' := [_, _, _, _, _]) eX10_chordsOf_46 rfl rfl rfl rfl ?_
          refine q_goto (tgt := 5) eX10_chordsOf_49 (by decide) ?_
          refine q_le (ls' := [some _, some _, some _, some _, some _]) ⟨rfl, rfl, rfl, rfl, rfl, trivial⟩ ?_
          exact ih _ _ _ _ _ _ hw
def wX10_chordsOf (x0 : Nat) (x1 : Int32) (x2 : Int32) (h : MH) (Q : Int32 → MH → Prop) : Prop := ∃ m12, wX10_chordsOf_5 Q m12 x0 x1 x2 (nI 0) (nI 0) h
set_option maxHeartbeats 4000000 in
set_option maxRecDepth 100000 in
theorem gX10_chordsOf (x0 : Nat) (x1 : Int32) (x2 : Int32) (h : MH) (Q : Int32 → MH → Prop) (hw : wX10_chordsOf x0 x1 x2 h Q) : Cm MX10_chordsOf 2 0 0 [.ref (x0), .int (x1), .int (x2)] h (pI Q) := by
  refine cm_of [some (.ref (x0)), some (.int (x1)), some (.int (x2)), none, none] rfl pnX10 (Nat.le_of_ble_eq_true rfl) rfl ?_
  unfold wX10_chordsOf at hw
  refine q_iconst (v := nI 0) eX10_chordsOf_0 (by decide) ?_
  refine x_istore_n (ls' := [_, _, _, _, _]) eX10_chordsOf_1 (by decide) rfl rfl ?_
  refine q_iconst (v := nI 0) eX10_chordsOf_2 (by decide) ?_
  refine x_istore (ls' := [_, _, _, _, _]) eX10_chordsOf_3 (by decide) rfl rfl ?_
  refine q_le (ls' := [some _, some _, some _, some _, some _]) ⟨rfl, rfl, rfl, rfl, rfl, trivial⟩ ?_
  obtain ⟨m12, hw⟩ := hw
  exact tX10_chordsOf_5 m12 _ _ _ _ _ _ hw
def wX10_between_116 (Q : Int32 → MH → Prop) (s0 : Int64) (h : MH) : Prop := ((lg_cmp (s0) ((1000000 : Int64))) ≤ 0 → (0 ≤ (lg_cmp (s0) ((-1000000 : Int64))) → Q ((s0).toInt32) h) ∧ (¬ (0 ≤ (lg_cmp (s0) ((-1000000 : Int64)))) → Q (((-1000000 : Int64)).toInt32) h)) ∧ (¬ ((lg_cmp (s0) ((1000000 : Int64))) ≤ 0) → Q (((1000000 : Int64)).toInt32) h)
set_option maxHeartbeats 4000000 in
set_option maxRecDepth 100000 in
theorem tX10_between_116 {Q : Int32 → MH → Prop} (h : MH) (s0 : Int64) (hw : wX10_between_116 Q s0 h) : Wm MX10_between 0 0 0 116 [none, none, none, none, none] [.long (s0)] h (pI Q) := by
  unfold wX10_between_116 at hw
  refine x_lstore_n (ls' := [_, _, _, _, _]) eX10_between_116 (by decide) rfl rfl ?_
  refine q_lload_n eX10_between_117 rfl ?_
  refine q_ldc2 coX10_222 eX10_between_118 ?_
  refine q_lcmp eX10_between_121 ?_
  obtain ⟨hw1, hw2⟩ := hw
  refine q_if_le (tgt := 131) eX10_between_122 (by decide) (fun c => ?_) (fun c => ?_)
  · have hw := hw1 c
    refine q_lload_n eX10_between_131 rfl ?_
    refine q_ldc2 coX10_224 eX10_between_132 ?_
    refine q_lcmp eX10_between_135 ?_
    obtain ⟨hw1, hw2⟩ := hw
    refine q_if_ge (tgt := 145) eX10_between_136 (by decide) (fun c => ?_) (fun c => ?_)
    · have hw := hw1 c
      refine q_lload_n eX10_between_145 rfl ?_
      refine q_l2i eX10_between_146 ?_
      exact q_ret rfl eX10_between_147 ⟨_, rfl, hw⟩
    · have hw := hw2 c
      refine q_ldc2 coX10_224 eX10_between_139 ?_
      refine q_goto (tgt := 146) eX10_between_142 (by decide) ?_
      refine q_l2i eX10_between_146 ?_
      exact q_ret rfl eX10_between_147 ⟨_, rfl, hw⟩
  · have hw := hw2 c
    refine q_ldc2 coX10_222 eX10_between_125 ?_
    refine q_goto (tgt := 146) eX10_between_128 (by decide) ?_
    refine q_l2i eX10_between_146 ?_
    exact q_ret rfl eX10_between_147 ⟨_, rfl, hw⟩
def wX10_between_81 (Q : Int32 → MH → Prop) (x0 : Int32) (x1 : Int32) (x2 : Int32) (h : MH) : Prop := (¬ (x0 = nI 3000) → (¬ (x0 = nI 3001) → wX10_between_116 Q ((x1).toInt64 * (x2).toInt64) h) ∧ (x0 = nI 3001 → wX10_between_116 Q ((x1).toInt64 - (x2).toInt64) h)) ∧ (x0 = nI 3000 → wX10_between_116 Q ((x1).toInt64 + (x2).toInt64) h)
set_option maxHeartbeats 4000000 in
set_option maxRecDepth 100000 in
theorem tX10_between_81 {Q : Int32 → MH → Prop} (h : MH) (x0 : Int32) (x1 : Int32) (x2 : Int32) (hw : wX10_between_81 Q x0 x1 x2 h) : Wm MX10_between 0 0 0 81 [some (.int (x0)), some (.int (x1)), some (.int (x2)), none, none] [] h (pI Q) := by
  unfold wX10_between_81 at hw
  refine q_iload_n eX10_between_81 rfl ?_
  refine q_sipush (v := nI 3000) eX10_between_82 (by decide) ?_
  obtain ⟨hw1, hw2⟩ := hw
  refine q_icmp_ne (tgt := 96) eX10_between_85 (by decide) (fun c => ?_) (fun c => ?_)
  · have hw := hw1 c
    refine q_iload_n eX10_between_96 rfl ?_
    refine q_sipush (v := nI 3001) eX10_between_97 (by decide) ?_
    obtain ⟨hw1, hw2⟩ := hw
    refine q_icmp_ne (tgt := 111) eX10_between_100 (by decide) (fun c => ?_) (fun c => ?_)
    · have hw := hw1 c
      refine q_iload_n eX10_between_111 rfl ?_
      refine q_i2l eX10_between_112 ?_
      refine q_iload_n eX10_between_113 rfl ?_
      refine q_i2l eX10_between_114 ?_
      refine q_lmul eX10_between_115 ?_
      refine q_le (ls' := [none, none, none, none, none]) trivial ?_
      exact tX10_between_116 _ _ hw
    · have hw := hw2 c
      refine q_iload_n eX10_between_103 rfl ?_
      refine q_i2l eX10_between_104 ?_
      refine q_iload_n eX10_between_105 rfl ?_
      refine q_i2l eX10_between_106 ?_
      refine q_lsub eX10_between_107 ?_
      refine q_goto (tgt := 116) eX10_between_108 (by decide) ?_
      refine q_le (ls' := [none, none, none, none, none]) trivial ?_
      exact tX10_between_116 _ _ hw
  · have hw := hw2 c
    refine q_iload_n eX10_between_88 rfl ?_
    refine q_i2l eX10_between_89 ?_
    refine q_iload_n eX10_between_90 rfl ?_
    refine q_i2l eX10_between_91 ?_
    refine q_ladd eX10_between_92 ?_
    refine q_goto (tgt := 116) eX10_between_93 (by decide) ?_
    refine q_le (ls' := [none, none, none, none, none]) trivial ?_
    exact tX10_between_116 _ _ hw
def wX10_between (x0 : Int32) (x1 : Int32) (x2 : Int32) (h : MH) (Q : Int32 → MH → Prop) : Prop := ((x0).toInt < 3003 ∨ 3008 < (x0).toInt → wX10_between_81 Q x0 x1 x2 h) ∧ (x0 = nI 3003 → Q ((if x1 = x2 then nI 1 else nI 0)) h) ∧ (x0 = nI 3004 → Q ((if x2 ≤ x1 then nI 0 else nI 1)) h) ∧ (x0 = nI 3005 → Q ((if x1 ≤ x2 then nI 0 else nI 1)) h) ∧ (x0 = nI 3006 → wX10_between_81 Q x0 x1 x2 h) ∧ (x0 = nI 3007 → Q ((x1 &&& x2)) h) ∧ (x0 = nI 3008 → Q ((x1 ||| x2)) h)
set_option maxHeartbeats 4000000 in
set_option maxRecDepth 100000 in
theorem gX10_between (x0 : Int32) (x1 : Int32) (x2 : Int32) (h : MH) (Q : Int32 → MH → Prop) (hw : wX10_between x0 x1 x2 h Q) : Cm MX10_between 0 0 0 [.int (x0), .int (x1), .int (x2)] h (pI Q) := by
  refine cm_of [some (.int (x0)), some (.int (x1)), some (.int (x2)), none, none] rfl pnX10 (Nat.le_of_ble_eq_true rfl) rfl ?_
  unfold wX10_between at hw
  refine q_iload_n eX10_between_0 rfl ?_
  obtain ⟨hw0, hw1, hw2, hw3, hw4, hw5, hw6⟩ := hw
  by_cases hx : (x0).toInt < 3003 ∨ 3008 < (x0).toInt
  · have hw := hw0 hx
    refine q_tabOut (tgt := 81) eX10_between_1 hx (by decide) ?_
    refine q_le (ls' := [some _, some _, some _, none, none]) ⟨rfl, rfl, rfl, trivial⟩ ?_
    exact tX10_between_81 _ _ _ _ hw
  · have hk : (x0).toInt = 3003 ∨ (x0).toInt = 3004 ∨ (x0).toInt = 3005 ∨ (x0).toInt = 3006 ∨ (x0).toInt = 3007 ∨ (x0).toInt = 3008 := by omega
    rcases hk with hk | hk | hk | hk | hk | hk
    · have hw := hw1 (x_toInt (by decide) hk)
      refine q_tabIn (off := 39) (tgt := 40) eX10_between_1 (by omega) (by omega) (by rw [hk]; rfl) (by decide) ?_
      refine q_iload_n eX10_between_40 rfl ?_
      refine q_iload_n eX10_between_41 rfl ?_
      have hj2 : Wm MX10_between 0 0 0 50 [some (.int (x0)), some (.int (x1)), some (.int (x2)), none, none] [.int ((if x1 = x2 then nI 1 else nI 0))] h (pI Q) := by
        exact q_ret rfl eX10_between_50 ⟨_, rfl, hw⟩
      refine q_icmp_ne (tgt := 49) eX10_between_42 (by decide) (fun c => ?_) (fun c => ?_)
      · refine q_iconst (v := nI 0) eX10_between_49 (by decide) ?_
        rw [if_neg c] at hj2
        exact hj2
      · refine q_iconst (v := nI 1) eX10_between_45 (by decide) ?_
        refine q_goto (tgt := 50) eX10_between_46 (by decide) ?_
        rw [if_pos c] at hj2
        exact hj2
    · have hw := hw2 (x_toInt (by decide) hk)
      refine q_tabIn (off := 50) (tgt := 51) eX10_between_1 (by omega) (by omega) (by rw [hk]; rfl) (by decide) ?_
      refine q_iload_n eX10_between_51 rfl ?_
      refine q_iload_n eX10_between_52 rfl ?_
      have hj4 : Wm MX10_between 0 0 0 61 [some (.int (x0)), some (.int (x1)), some (.int (x2)), none, none] [.int ((if x2 ≤ x1 then nI 0 else nI 1))] h (pI Q) := by
        exact q_ret rfl eX10_between_61 ⟨_, rfl, hw⟩
      refine q_icmp_ge (tgt := 60) eX10_between_53 (by decide) (fun c => ?_) (fun c => ?_)
      · refine q_iconst (v := nI 0) eX10_between_60 (by decide) ?_
        rw [if_pos c] at hj4
        exact hj4
      · refine q_iconst (v := nI 1) eX10_between_56 (by decide) ?_
        refine q_goto (tgt := 61) eX10_between_57 (by decide) ?_
        rw [if_neg c] at hj4
        exact hj4
    · have hw := hw3 (x_toInt (by decide) hk)
      refine q_tabIn (off := 61) (tgt := 62) eX10_between_1 (by omega) (by omega) (by rw [hk]; rfl) (by decide) ?_
      refine q_iload_n eX10_between_62 rfl ?_
      refine q_iload_n eX10_between_63 rfl ?_
      have hj6 : Wm MX10_between 0 0 0 72 [some (.int (x0)), some (.int (x1)), some (.int (x2)), none, none] [.int ((if x1 ≤ x2 then nI 0 else nI 1))] h (pI Q) := by
        exact q_ret rfl eX10_between_72 ⟨_, rfl, hw⟩
      refine q_icmp_le (tgt := 71) eX10_between_64 (by decide) (fun c => ?_) (fun c => ?_)
      · refine q_iconst (v := nI 0) eX10_between_71 (by decide) ?_
        rw [if_pos c] at hj6
        exact hj6
      · refine q_iconst (v := nI 1) eX10_between_67 (by decide) ?_
        refine q_goto (tgt := 72) eX10_between_68 (by decide) ?_
        rw [if_neg c] at hj6
        exact hj6
    · have hw := hw4 (x_toInt (by decide) hk)
      refine q_tabIn (off := 80) (tgt := 81) eX10_between_1 (by omega) (by omega) (by rw [hk]; rfl) (by decide) ?_
      refine q_le (ls' := [some _, some _, some _, none, none]) ⟨rfl, rfl, rfl, trivial⟩ ?_
      exact tX10_between_81 _ _ _ _ hw
    · have hw := hw5 (x_toInt (by decide) hk)
      refine q_tabIn (off := 72) (tgt := 73) eX10_between_1 (by omega) (by omega) (by rw [hk]; rfl) (by decide) ?_
      refine q_iload_n eX10_between_73 rfl ?_
      refine q_iload_n eX10_between_74 rfl ?_
      refine q_iand eX10_between_75 ?_
      exact q_ret rfl eX10_between_76 ⟨_, rfl, hw⟩
    · have hw := hw6 (x_toInt (by decide) hk)
      refine q_tabIn (off := 76) (tgt := 77) eX10_between_1 (by omega) (by omega) (by rw [hk]; rfl) (by decide) ?_
      refine q_iload_n eX10_between_77 rfl ?_
      refine q_iload_n eX10_between_78 rfl ?_
      refine q_ior eX10_between_79 ?_
      exact q_ret rfl eX10_between_80 ⟨_, rfl, hw⟩
def wX10_reckons_4 (Q : Int32 → MH → Prop) : Nat → Nat → Int32 → Int32 → Int32 → MH → Prop
  | 0, _, _, _, _, _ => False
  | n + 1, x0, x1, x2, x3, h => hS h x0 = (1, 10) ∧ ∃ a2, hR h x0 1 = some a2 ∧ ∃ n5, hS h a2 = (2, n5) ∧ vp_in ((nI 7 + x1)) n5 ∧ (hI h a2 ((nI 7 + x1)).toNatClampNeg ≤ x3 → ∃ a7, hR h x0 16 = some a7 ∧ ∃ n10, hS h a7 = (2, n10) ∧ vp_in (nI 0) n10 ∧ Q (hI h a7 (nI 0).toNatClampNeg) h) ∧ (¬ (hI h a2 ((nI 7 + x1)).toNatClampNeg ≤ x3) → vp_in ((nI 5 + x1)) n5 ∧ vp_in (((nI 1437 + hI h a2 ((nI 5 + x1)).toNatClampNeg) + x3)) n5 ∧ ∀ v14, v14 = hI h a2 (((nI 1437 + hI h a2 ((nI 5 + x1)).toNatClampNeg) + x3)).toNatClampNeg → (nI 3000 ≤ v14 → (¬ (v14 = nI 3006) → (¬ (v14 = nI 3009) → ∃ a15, hR h x0 16 = some a15 ∧ ∃ n18, hS h a15 = (2, n18) ∧ vp_in (((x2 + (-1 : Int32)) - nI 1)) n18 ∧ vp_in ((x2 + (-1 : Int32))) n18 ∧ wX10_between v14 (hI h a15 (((x2 + (-1 : Int32)) - nI 1)).toNatClampNeg) (hI h a15 ((x2 + (-1 : Int32))).toNatClampNeg) h (fun r21 h22 => ∃ n24, hS h22 a15 = (2, n24) ∧ vp_in (((x2 + (-1 : Int32)) - nI 1)) n24 ∧ ∀ h26, h26 = sI h22 a15 (((x2 + (-1 : Int32)) - nI 1)).toNatClampNeg (r21) → wX10_reckons_4 Q n x0 x1 (x2 + (-1 : Int32)) (x3 + nI 1) h26)) ∧ (v14 = nI 3009 → ∃ a27, hR h x0 16 = some a27 ∧ ∃ n30, hS h a27 = (2, n30) ∧ vp_in (((x2 + (-2 : Int32)) - nI 1)) n30 ∧ (¬ (hI h a27 (((x2 + (-2 : Int32)) - nI 1)).toNatClampNeg = nI 1) → vp_in (((x2 + (-2 : Int32)) + nI 1)) n30 ∧ vp_in (((x2 + (-2 : Int32)) - nI 1)) n30 ∧ ∀ h34, h34 = sI h a27 (((x2 + (-2 : Int32)) - nI 1)).toNatClampNeg (hI h a27 (((x2 + (-2 : Int32)) + nI 1)).toNatClampNeg) → wX10_reckons_4 Q n x0 x1 (x2 + (-2 : Int32)) (x3 + nI 1) h34) ∧ (hI h a27 (((x2 + (-2 : Int32)) - nI 1)).toNatClampNeg = nI 1 → vp_in ((x2 + (-2 : Int32))) n30 ∧ vp_in (((x2 + (-2 : Int32)) - nI 1)) n30 ∧ ∀ h37, h37 = sI h a27 (((x2 + (-2 : Int32)) - nI 1)).toNatClampNeg (hI h a27 ((x2 + (-2 : Int32))).toNatClampNeg) → wX10_reckons_4 Q n x0 x1 (x2 + (-2 : Int32)) (x3 + nI 1) h37))) ∧ (v14 = nI 3006 → ∃ a38, hR h x0 16 = some a38 ∧ ∃ n41, hS h a38 = (2, n41) ∧ vp_in ((x2 - nI 1)) n41 ∧ vp_in ((x2 - nI 1)) n41 ∧ ∀ h44, h44 = sI h a38 ((x2 - nI 1)).toNatClampNeg ((nI 1 - hI h a38 ((x2 - nI 1)).toNatClampNeg)) → wX10_reckons_4 Q n x0 x1 x2 (x3 + nI 1) h44)) ∧ (¬ (nI 3000 ≤ v14) → ∃ a45, hR h x0 16 = some a45 ∧ (nI 1000 ≤ v14 → ∃ a47, hR h x0 17 = some a47 ∧ ∃ n50, hS h a47 = (2, n50) ∧ vp_in ((v14 - nI 1000)) n50 ∧ ∃ n53, hS h a45 = (2, n53) ∧ vp_in (x2) n53 ∧ ∀ h55, h55 = sI h a45 (x2).toNatClampNeg (hI h a47 ((v14 - nI 1000)).toNatClampNeg) → wX10_reckons_4 Q n x0 x1 (x2 + nI 1) (x3 + nI 1) h55) ∧ (¬ (nI 1000 ≤ v14) → ∃ n57, hS h a45 = (2, n57) ∧ vp_in (x2) n57 ∧ ∀ h59, h59 = sI h a45 (x2).toNatClampNeg (v14) → wX10_reckons_4 Q n x0 x1 (x2 + nI 1) (x3 + nI 1) h59)))
set_option maxHeartbeats 4000000 in
set_option maxRecDepth 100000 in
theorem tX10_reckons_4 {Q : Int32 → MH → Prop} : ∀ (n : Nat) (h : MH) (x0 : Nat) (x1 : Int32) (x2 : Int32) (x3 : Int32), wX10_reckons_4 Q n x0 x1 x2 x3 h → Wm MX10_reckons 1 0 0 4 [some (.ref (x0)), some (.int (x1)), some (.int (x2)), some (.int (x3)), none] [] h (pI Q) := by
  intro n
  induction n with
  | zero => intro h x0 x1 x2 x3 hw; exact hw.elim
  | succ n ih =>
    intro h x0 x1 x2 x3 hw
    unfold wX10_reckons_4 at hw
    refine q_iload_n eX10_reckons_4 rfl ?_
    refine q_aload_nr eX10_reckons_5 rfl ?_
    obtain ⟨hs1, hw⟩ := hw
    obtain ⟨a2, hr3, hw⟩ := hw
    refine q_getR flX10_13 rfl hs1 hr3 eX10_reckons_6 ?_
    refine q_bipush (v := nI 7) eX10_reckons_9 (by decide) ?_
    refine q_iload_n eX10_reckons_11 rfl ?_
    refine q_iadd eX10_reckons_12 ?_
    obtain ⟨n5, hs4, hw⟩ := hw
    obtain ⟨hi6, hw⟩ := hw
    refine q_iald hs4 hi6 eX10_reckons_13 ?_
    obtain ⟨hw1, hw2⟩ := hw
    refine q_icmp_ge (tgt := 198) eX10_reckons_14 (by decide) (fun c => ?_) (fun c => ?_)
    · have hw := hw1 c
      refine q_aload_nr eX10_reckons_198 rfl ?_
      obtain ⟨a7, hr8, hw⟩ := hw
      refine q_getR flX10_30 rfl hs1 hr8 eX10_reckons_199 ?_
      refine q_iconst (v := nI 0) eX10_reckons_202 (by decide) ?_
      obtain ⟨n10, hs9, hw⟩ := hw
      obtain ⟨hi11, hw⟩ := hw
      refine q_iald hs9 hi11 eX10_reckons_203 ?_
      exact q_ret rfl eX10_reckons_204 ⟨_, rfl, hw⟩
    · have hw := hw2 c
      refine q_aload_nr eX10_reckons_17 rfl ?_
      refine q_getR flX10_13 rfl hs1 hr3 eX10_reckons_18 ?_
      refine q_sipush (v := nI 1437) eX10_reckons_21 (by decide) ?_
      refine q_aload_nr eX10_reckons_24 rfl ?_
      refine q_getR flX10_13 rfl hs1 hr3 eX10_reckons_25 ?_
      refine q_iconst (v := nI 5) eX10_reckons_28 (by decide) ?_
      refine q_iload_n eX10_reckons_29 rfl ?_
      refine q_iadd eX10_reckons_30 ?_
      obtain ⟨hi12, hw⟩ := hw
      refine q_iald hs4 hi12 eX10_reckons_31 ?_
      refine q_iadd eX10_reckons_32 ?_
      refine q_iload_n eX10_reckons_33 rfl ?_
      refine q_iadd eX10_reckons_34 ?_
      obtain ⟨hi13, hw⟩ := hw
      refine q_iald hs4 hi13 eX10_reckons_35 ?_
      have hw := hw _ rfl
      refine x_istore (ls' := [_, _, _, _, _]) eX10_reckons_36 (by decide) rfl rfl ?_
      refine q_iload eX10_reckons_38 rfl ?_
      refine q_sipush (v := nI 3000) eX10_reckons_40 (by decide) ?_
      obtain ⟨hw1, hw2⟩ := hw
      refine q_icmp_ge (tgt := 82) eX10_reckons_43 (by decide) (fun c => ?_) (fun c => ?_)
      · have hw := hw1 c
        refine q_iload eX10_reckons_82 rfl ?_
        refine q_sipush (v := nI 3006) eX10_reckons_84 (by decide) ?_
        obtain ⟨hw1, hw2⟩ := hw
        refine q_icmp_ne (tgt := 111) eX10_reckons_87 (by decide) (fun c => ?_) (fun c => ?_)
        · have hw := hw1 c
          refine q_iload eX10_reckons_111 rfl ?_
          refine q_sipush (v := nI 3009) eX10_reckons_113 (by decide) ?_
          obtain ⟨hw1, hw2⟩ := hw
          refine q_icmp_ne (tgt := 162) eX10_reckons_116 (by decide) (fun c => ?_) (fun c => ?_)
          · have hw := hw1 c
            refine x_iinc (v := (x2 + (-1 : Int32))) (ls' := [_, _, _, _, _]) eX10_reckons_162 rfl rfl rfl rfl ?_
            refine q_aload_nr eX10_reckons_165 rfl ?_
            obtain ⟨a15, hr16, hw⟩ := hw
            refine q_getR flX10_30 rfl hs1 hr16 eX10_reckons_166 ?_
            refine q_iload_n eX10_reckons_169 rfl ?_
            refine q_iconst (v := nI 1) eX10_reckons_170 (by decide) ?_
            refine q_isub eX10_reckons_171 ?_
            refine q_iload eX10_reckons_172 rfl ?_
            refine q_aload_nr eX10_reckons_174 rfl ?_
            refine q_getR flX10_30 rfl hs1 hr16 eX10_reckons_175 ?_
            refine q_iload_n eX10_reckons_178 rfl ?_
            refine q_iconst (v := nI 1) eX10_reckons_179 (by decide) ?_
            refine q_isub eX10_reckons_180 ?_
            obtain ⟨n18, hs17, hw⟩ := hw
            obtain ⟨hi19, hw⟩ := hw
            refine q_iald hs17 hi19 eX10_reckons_181 ?_
            refine q_aload_nr eX10_reckons_182 rfl ?_
            refine q_getR flX10_30 rfl hs1 hr16 eX10_reckons_183 ?_
            refine q_iload_n eX10_reckons_186 rfl ?_
            obtain ⟨hi20, hw⟩ := hw
            refine q_iald hs17 hi20 eX10_reckons_187 ?_
            refine q_callS (b := 0) (t := 0) (gX10_between _ _ _ _ _ hw) mlX10_226 kX10_between sX10_between rfl (by decide) rfl (Nat.le_of_ble_eq_true rfl) eX10_reckons_188 (kI fun r21 h22 hw => ?_)
            obtain ⟨n24, hs23, hw⟩ := hw
            obtain ⟨hi25, hw⟩ := hw
            have hw := hw _ rfl
            refine q_iast hs23 hi25 eX10_reckons_191 ?_
            refine x_iinc (v := (x3 + nI 1)) (ls' := [_, _, _, _, _]) eX10_reckons_192 rfl rfl rfl rfl ?_
            refine q_goto (tgt := 4) eX10_reckons_195 (by decide) ?_
            refine q_le (ls' := [some _, some _, some _, some _, none]) ⟨rfl, rfl, rfl, rfl, trivial⟩ ?_
            exact ih _ _ _ _ _ hw
          · have hw := hw2 c
            refine x_iinc (v := (x2 + (-2 : Int32))) (ls' := [_, _, _, _, _]) eX10_reckons_119 rfl rfl rfl rfl ?_
            refine q_aload_nr eX10_reckons_122 rfl ?_
            obtain ⟨a27, hr28, hw⟩ := hw
            refine q_getR flX10_30 rfl hs1 hr28 eX10_reckons_123 ?_
            refine q_iload_n eX10_reckons_126 rfl ?_
            refine q_iconst (v := nI 1) eX10_reckons_127 (by decide) ?_
            refine q_isub eX10_reckons_128 ?_
            refine q_aload_nr eX10_reckons_129 rfl ?_
            refine q_getR flX10_30 rfl hs1 hr28 eX10_reckons_130 ?_
            refine q_iload_n eX10_reckons_133 rfl ?_
            refine q_iconst (v := nI 1) eX10_reckons_134 (by decide) ?_
            refine q_isub eX10_reckons_135 ?_
            obtain ⟨n30, hs29, hw⟩ := hw
            obtain ⟨hi31, hw⟩ := hw
            refine q_iald hs29 hi31 eX10_reckons_136 ?_
            refine q_iconst (v := nI 1) eX10_reckons_137 (by decide) ?_
            obtain ⟨hw1, hw2⟩ := hw
            refine q_icmp_ne (tgt := 150) eX10_reckons_138 (by decide) (fun c => ?_) (fun c => ?_)
            · have hw := hw1 c
              refine q_aload_nr eX10_reckons_150 rfl ?_
              refine q_getR flX10_30 rfl hs1 hr28 eX10_reckons_151 ?_
              refine q_iload_n eX10_reckons_154 rfl ?_
              refine q_iconst (v := nI 1) eX10_reckons_155 (by decide) ?_
              refine q_iadd eX10_reckons_156 ?_
              obtain ⟨hi32, hw⟩ := hw
              refine q_iald hs29 hi32 eX10_reckons_157 ?_
              obtain ⟨hi33, hw⟩ := hw
              have hw := hw _ rfl
              refine q_iast hs29 hi33 eX10_reckons_158 ?_
              refine q_goto (tgt := 192) eX10_reckons_159 (by decide) ?_
              refine x_iinc (v := (x3 + nI 1)) (ls' := [_, _, _, _, _]) eX10_reckons_192 rfl rfl rfl rfl ?_
              refine q_goto (tgt := 4) eX10_reckons_195 (by decide) ?_
              refine q_le (ls' := [some _, some _, some _, some _, none]) ⟨rfl, rfl, rfl, rfl, trivial⟩ ?_
              exact ih _ _ _ _ _ hw
            · have hw := hw2 c
              refine q_aload_nr eX10_reckons_141 rfl ?_
              refine q_getR flX10_30 rfl hs1 hr28 eX10_reckons_142 ?_
              refine q_iload_n eX10_reckons_145 rfl ?_
              obtain ⟨hi35, hw⟩ := hw
              refine q_iald hs29 hi35 eX10_reckons_146 ?_
              refine q_goto (tgt := 158) eX10_reckons_147 (by decide) ?_
              obtain ⟨hi36, hw⟩ := hw
              have hw := hw _ rfl
              refine q_iast hs29 hi36 eX10_reckons_158 ?_
              refine q_goto (tgt := 192) eX10_reckons_159 (by decide) ?_
              refine x_iinc (v := (x3 + nI 1)) (ls' := [_, _, _, _, _]) eX10_reckons_192 rfl rfl rfl rfl ?_
              refine q_goto (tgt := 4) eX10_reckons_195 (by decide) ?_
              refine q_le (ls' := [some _, some _, some _, some _, none]) ⟨rfl, rfl, rfl, rfl, trivial⟩ ?_
              exact ih _ _ _ _ _ hw
        · have hw := hw2 c
          refine q_aload_nr eX10_reckons_90 rfl ?_
          obtain ⟨a38, hr39, hw⟩ := hw
          refine q_getR flX10_30 rfl hs1 hr39 eX10_reckons_91 ?_
          refine q_iload_n eX10_reckons_94 rfl ?_
          refine q_iconst (v := nI 1) eX10_reckons_95 (by decide) ?_
          refine q_isub eX10_reckons_96 ?_
          refine q_iconst (v := nI 1) eX10_reckons_97 (by decide) ?_
          refine q_aload_nr eX10_reckons_98 rfl ?_
          refine q_getR flX10_30 rfl hs1 hr39 eX10_reckons_99 ?_
          refine q_iload_n eX10_reckons_102 rfl ?_
          refine q_iconst (v := nI 1) eX10_reckons_103 (by decide) ?_
          refine q_isub eX10_reckons_104 ?_
          obtain ⟨n41, hs40, hw⟩ := hw
          obtain ⟨hi42, hw⟩ := hw
          refine q_iald hs40 hi42 eX10_reckons_105 ?_
          refine q_isub eX10_reckons_106 ?_
          obtain ⟨hi43, hw⟩ := hw
          have hw := hw _ rfl
          refine q_iast hs40 hi43 eX10_reckons_107 ?_
          refine q_goto (tgt := 192) eX10_reckons_108 (by decide) ?_
          refine x_iinc (v := (x3 + nI 1)) (ls' := [_, _, _, _, _]) eX10_reckons_192 rfl rfl rfl rfl ?_
          refine q_goto (tgt := 4) eX10_reckons_195 (by decide) ?_
          refine q_le (ls' := [some _, some _, some _, some _, none]) ⟨rfl, rfl, rfl, rfl, trivial⟩ ?_
          exact ih _ _ _ _ _ hw
      · have hw := hw2 c
        refine q_aload_nr eX10_reckons_46 rfl ?_
        obtain ⟨a45, hr46, hw⟩ := hw
        refine q_getR flX10_30 rfl hs1 hr46 eX10_reckons_47 ?_
        refine q_iload_n eX10_reckons_50 rfl ?_
        refine q_iload eX10_reckons_51 rfl ?_
        refine q_sipush (v := nI 1000) eX10_reckons_53 (by decide) ?_
        obtain ⟨hw1, hw2⟩ := hw
        refine q_icmp_ge (tgt := 64) eX10_reckons_56 (by decide) (fun c => ?_) (fun c => ?_)
        · have hw := hw1 c
          refine q_aload_nr eX10_reckons_64 rfl ?_
          obtain ⟨a47, hr48, hw⟩ := hw
          refine q_getR flX10_33 rfl hs1 hr48 eX10_reckons_65 ?_
          refine q_iload eX10_reckons_68 rfl ?_
          refine q_sipush (v := nI 1000) eX10_reckons_70 (by decide) ?_
          refine q_isub eX10_reckons_73 ?_
          obtain ⟨n50, hs49, hw⟩ := hw
          obtain ⟨hi51, hw⟩ := hw
          refine q_iald hs49 hi51 eX10_reckons_74 ?_
          obtain ⟨n53, hs52, hw⟩ := hw
          obtain ⟨hi54, hw⟩ := hw
          have hw := hw _ rfl
          refine q_iast hs52 hi54 eX10_reckons_75 ?_
          refine x_iinc (v := (x2 + nI 1)) (ls' := [_, _, _, _, _]) eX10_reckons_76 rfl rfl rfl rfl ?_
          refine q_goto (tgt := 192) eX10_reckons_79 (by decide) ?_
          refine x_iinc (v := (x3 + nI 1)) (ls' := [_, _, _, _, _]) eX10_reckons_192 rfl rfl rfl rfl ?_
          refine q_goto (tgt := 4) eX10_reckons_195 (by decide) ?_
          refine q_le (ls' := [some _, some _, some _, some _, none]) ⟨rfl, rfl, rfl, rfl, trivial⟩ ?_
          exact ih _ _ _ _ _ hw
        · have hw := hw2 c
          refine q_iload eX10_reckons_59 rfl ?_
          refine q_goto (tgt := 75) eX10_reckons_61 (by decide) ?_
          obtain ⟨n57, hs56, hw⟩ := hw
          obtain ⟨hi58, hw⟩ := hw
          have hw := hw _ rfl
          refine q_iast hs56 hi58 eX10_reckons_75 ?_
          refine x_iinc (v := (x2 + nI 1)) (ls' := [_, _, _, _, _]) eX10_reckons_76 rfl rfl rfl rfl ?_
          refine q_goto (tgt := 192) eX10_reckons_79 (by decide) ?_
          refine x_iinc (v := (x3 + nI 1)) (ls' := [_, _, _, _, _]) eX10_reckons_192 rfl rfl rfl rfl ?_
          refine q_goto (tgt := 4) eX10_reckons_195 (by decide) ?_
          refine q_le (ls' := [some _, some _, some _, some _, none]) ⟨rfl, rfl, rfl, rfl, trivial⟩ ?_
          exact ih _ _ _ _ _ hw
def wX10_reckons (x0 : Nat) (x1 : Int32) (h : MH) (Q : Int32 → MH → Prop) : Prop := ∃ m60, wX10_reckons_4 Q m60 x0 x1 (nI 0) (nI 0) h
set_option maxHeartbeats 4000000 in
set_option maxRecDepth 100000 in
theorem gX10_reckons (x0 : Nat) (x1 : Int32) (h : MH) (Q : Int32 → MH → Prop) (hw : wX10_reckons x0 x1 h Q) : Cm MX10_reckons 1 0 0 [.ref (x0), .int (x1)] h (pI Q) := by
  refine cm_of [some (.ref (x0)), some (.int (x1)), none, none, none] rfl pnX10 (Nat.le_of_ble_eq_true rfl) rfl ?_
  unfold wX10_reckons at hw
  refine q_iconst (v := nI 0) eX10_reckons_0 (by decide) ?_
  refine x_istore_n (ls' := [_, _, _, _, _]) eX10_reckons_1 (by decide) rfl rfl ?_
  refine q_iconst (v := nI 0) eX10_reckons_2 (by decide) ?_
  refine x_istore_n (ls' := [_, _, _, _, _]) eX10_reckons_3 (by decide) rfl rfl ?_
  refine q_le (ls' := [some _, some _, some _, some _, none]) ⟨rfl, rfl, rfl, rfl, trivial⟩ ?_
  obtain ⟨m60, hw⟩ := hw
  exact tX10_reckons_4 m60 _ _ _ _ _ hw
def wX10_costOf_122 (Q : Int32 → MH → Prop) (K5 : Nat → Int32 → Int32 → Int32 → Int32 → MH → Prop) (x0 : Nat) (x1 : Int32) (x2 : Int32) (x3 : Int32) (x4 : Int32) (s0 : Int32) (h : MH) : Prop := ∀ v49, v49 = (x3 + (if nI 1 ≤ s0 then (if s0 ≤ nI 99 then s0 else nI 99) else nI 1)) → K5 x0 x1 x2 v49 (x4 + nI 1) h
set_option maxHeartbeats 4000000 in
set_option maxRecDepth 100000 in
theorem tX10_costOf_122 {Q : Int32 → MH → Prop} {K5 : Nat → Int32 → Int32 → Int32 → Int32 → MH → Prop} (hK5 : ∀ (h : MH) (x0 : Nat) (x1 : Int32) (x2 : Int32) (x3 : Int32) (x4 : Int32), K5 x0 x1 x2 x3 x4 h → Wm MX10_costOf 2 0 0 5 [some (.ref (x0)), some (.int (x1)), some (.int (x2)), some (.int (x3)), some (.int (x4)), none] [] h (pI Q)) (h : MH) (x0 : Nat) (x1 : Int32) (x2 : Int32) (x3 : Int32) (x4 : Int32) (s0 : Int32) (hw : wX10_costOf_122 Q K5 x0 x1 x2 x3 x4 s0 h) : Wm MX10_costOf 2 0 0 122 [some (.ref (x0)), some (.int (x1)), some (.int (x2)), some (.int (x3)), some (.int (x4)), none] [.int (s0)] h (pI Q) := by
  unfold wX10_costOf_122 at hw
  refine x_istore (ls' := [_, _, _, _, _, _]) eX10_costOf_122 (by decide) rfl rfl ?_
  refine q_iload_n eX10_costOf_124 rfl ?_
  refine q_iload eX10_costOf_125 rfl ?_
  refine q_iconst (v := nI 1) eX10_costOf_127 (by decide) ?_
  have hj50 : Wm MX10_costOf 2 0 0 149 [some (.ref (x0)), some (.int (x1)), some (.int (x2)), some (.int (x3)), some (.int (x4)), some (.int (s0))] [.int ((if nI 1 ≤ s0 then (if s0 ≤ nI 99 then s0 else nI 99) else nI 1)), .int (x3)] h (pI Q) := by
    refine q_iadd eX10_costOf_149 ?_
    have hw := hw _ rfl
    refine x_istore_n (ls' := [_, _, _, _, _, _]) eX10_costOf_150 (by decide) rfl rfl ?_
    refine x_iinc (v := (x4 + nI 1)) (ls' := [_, _, _, _, _, _]) eX10_costOf_151 rfl rfl rfl rfl ?_
    refine q_goto (tgt := 5) eX10_costOf_154 (by decide) ?_
    refine q_le (ls' := [some _, some _, some _, some _, some _, none]) ⟨rfl, rfl, rfl, rfl, rfl, trivial⟩ ?_
    exact hK5 _ _ _ _ _ _ hw
  refine q_icmp_ge (tgt := 135) eX10_costOf_128 (by decide) (fun c => ?_) (fun c => ?_)
  · refine q_iload eX10_costOf_135 rfl ?_
    refine q_bipush (v := nI 99) eX10_costOf_137 (by decide) ?_
    have hj51 : Wm MX10_costOf 2 0 0 149 [some (.ref (x0)), some (.int (x1)), some (.int (x2)), some (.int (x3)), some (.int (x4)), some (.int (s0))] [.int ((if s0 ≤ nI 99 then s0 else nI 99)), .int (x3)] h (pI Q) := by
      rw [if_pos c] at hj50
      exact hj50
    refine q_icmp_le (tgt := 147) eX10_costOf_139 (by decide) (fun c => ?_) (fun c => ?_)
    · refine q_iload eX10_costOf_147 rfl ?_
      rw [if_pos c] at hj51
      exact hj51
    · refine q_bipush (v := nI 99) eX10_costOf_142 (by decide) ?_
      refine q_goto (tgt := 149) eX10_costOf_144 (by decide) ?_
      rw [if_neg c] at hj51
      exact hj51
  · refine q_iconst (v := nI 1) eX10_costOf_131 (by decide) ?_
    refine q_goto (tgt := 149) eX10_costOf_132 (by decide) ?_
    rw [if_neg c] at hj50
    exact hj50
def wX10_costOf_5 (Q : Int32 → MH → Prop) : Nat → Nat → Int32 → Int32 → Int32 → Int32 → MH → Prop
  | 0, _, _, _, _, _, _ => False
  | n + 1, x0, x1, x2, x3, x4, h => hS h x0 = (1, 10) ∧ ∃ a2, hR h x0 1 = some a2 ∧ ∃ n5, hS h a2 = (2, n5) ∧ vp_in (nI 2) n5 ∧ (hI h a2 (nI 2).toNatClampNeg ≤ x4 → Q (x3) h) ∧ (¬ (hI h a2 (nI 2).toNatClampNeg ≤ x4) → wX10_isIn ((x1).toInt64) x4 h (fun r7 h8 => (¬ (r7 = 0) → hS h8 x0 = (1, 10) ∧ ∃ a10, hR h8 x0 17 = some a10 ∧ ∃ n13, hS h8 a10 = (2, n13) ∧ vp_in (nI 0) n13 ∧ ∀ h15, h15 = sI h8 a10 (nI 0).toNatClampNeg (x2) → ∃ a16, hR h15 x0 1 = some a16 ∧ ∃ n19, hS h15 a16 = (2, n19) ∧ vp_in ((nI 29 + x4)) n19 ∧ vp_in (nI 1) n13 ∧ ∀ h22, h22 = sI h15 a10 (nI 1).toNatClampNeg (hI h15 a16 ((nI 29 + x4)).toNatClampNeg) → vp_in ((nI 39 + x4)) n19 ∧ vp_in (nI 2) n13 ∧ ∀ h25, h25 = sI h22 a10 (nI 2).toNatClampNeg (hI h22 a16 ((nI 39 + x4)).toNatClampNeg) → wX10_endOf x0 x4 (nI 0) h25 (fun r26 h27 => ∃ n29, hS h27 a10 = (2, n29) ∧ vp_in (nI 3) n29 ∧ ∀ h31, h31 = sI h27 a10 (nI 3).toNatClampNeg (r26) → hS h31 x0 = (1, 10) ∧ ∃ a33, hR h31 x0 17 = some a33 ∧ wX10_endOf x0 x4 (nI 1) h31 (fun r35 h36 => ∃ n38, hS h36 a33 = (2, n38) ∧ vp_in (nI 4) n38 ∧ ∀ h40, h40 = sI h36 a33 (nI 4).toNatClampNeg (r35) → hS h40 x0 = (1, 10) ∧ ∃ a42, hR h40 x0 1 = some a42 ∧ ∃ n45, hS h40 a42 = (2, n45) ∧ vp_in (nI 3) n45 ∧ (¬ (hI h40 a42 (nI 3).toNatClampNeg = nI 1) → vp_in ((nI 29 + x4)) n45 ∧ wX10_costOf_122 Q (wX10_costOf_5 Q n) x0 x1 x2 x3 x4 (hI h40 a42 ((nI 29 + x4)).toNatClampNeg) h40) ∧ (hI h40 a42 (nI 3).toNatClampNeg = nI 1 → wX10_reckons x0 (nI 0) h40 (fun r52 h53 => wX10_costOf_122 Q (wX10_costOf_5 Q n) x0 x1 x2 x3 x4 r52 h53))))) ∧ (r7 = 0 → wX10_costOf_5 Q n x0 x1 x2 x3 (x4 + nI 1) h8)))
set_option maxHeartbeats 4000000 in
set_option maxRecDepth 100000 in
theorem tX10_costOf_5 {Q : Int32 → MH → Prop} : ∀ (n : Nat) (h : MH) (x0 : Nat) (x1 : Int32) (x2 : Int32) (x3 : Int32) (x4 : Int32), wX10_costOf_5 Q n x0 x1 x2 x3 x4 h → Wm MX10_costOf 2 0 0 5 [some (.ref (x0)), some (.int (x1)), some (.int (x2)), some (.int (x3)), some (.int (x4)), none] [] h (pI Q) := by
  intro n
  induction n with
  | zero => intro h x0 x1 x2 x3 x4 hw; exact hw.elim
  | succ n ih =>
    intro h x0 x1 x2 x3 x4 hw
    unfold wX10_costOf_5 at hw
    refine q_iload eX10_costOf_5 rfl ?_
    refine q_aload_nr eX10_costOf_7 rfl ?_
    obtain ⟨hs1, hw⟩ := hw
    obtain ⟨a2, hr3, hw⟩ := hw
    refine q_getR flX10_13 rfl hs1 hr3 eX10_costOf_8 ?_
    refine q_iconst (v := nI 2) eX10_costOf_11 (by decide) ?_
    obtain ⟨n5, hs4, hw⟩ := hw
    obtain ⟨hi6, hw⟩ := hw
    refine q_iald hs4 hi6 eX10_costOf_12 ?_
    obtain ⟨hw1, hw2⟩ := hw
    refine q_icmp_ge (tgt := 157) eX10_costOf_13 (by decide) (fun c => ?_) (fun c => ?_)
    · have hw := hw1 c
      refine q_iload_n eX10_costOf_157 rfl ?_
      exact q_ret rfl eX10_costOf_158 ⟨_, rfl, hw⟩
    · have hw := hw2 c
      refine q_iload_n eX10_costOf_16 rfl ?_
      refine q_i2l eX10_costOf_17 ?_
      refine q_iload eX10_costOf_18 rfl ?_
      refine q_callS (b := 0) (t := 0) (gX10_isIn _ _ _ _ hw) mlX10_232 kX10_isIn sX10_isIn rfl (by decide) rfl (Nat.le_of_ble_eq_true rfl) eX10_costOf_20 (kI fun r7 h8 hw => ?_)
      obtain ⟨hw1, hw2⟩ := hw
      refine q_if_ne (tgt := 29) eX10_costOf_23 (by decide) (fun c => ?_) (fun c => ?_)
      · have hw := hw1 c
        refine q_aload_nr eX10_costOf_29 rfl ?_
        obtain ⟨hs9, hw⟩ := hw
        obtain ⟨a10, hr11, hw⟩ := hw
        refine q_getR flX10_33 rfl hs9 hr11 eX10_costOf_30 ?_
        refine q_iconst (v := nI 0) eX10_costOf_33 (by decide) ?_
        refine q_iload_n eX10_costOf_34 rfl ?_
        obtain ⟨n13, hs12, hw⟩ := hw
        obtain ⟨hi14, hw⟩ := hw
        have hw := hw _ rfl
        refine q_iast hs12 hi14 eX10_costOf_35 ?_
        refine q_aload_nr eX10_costOf_36 rfl ?_
        refine q_getR flX10_33 rfl hs9 hr11 eX10_costOf_37 ?_
        refine q_iconst (v := nI 1) eX10_costOf_40 (by decide) ?_
        refine q_aload_nr eX10_costOf_41 rfl ?_
        obtain ⟨a16, hr17, hw⟩ := hw
        refine q_getR flX10_13 rfl hs9 hr17 eX10_costOf_42 ?_
        refine q_bipush (v := nI 29) eX10_costOf_45 (by decide) ?_
        refine q_iload eX10_costOf_47 rfl ?_
        refine q_iadd eX10_costOf_49 ?_
        obtain ⟨n19, hs18, hw⟩ := hw
        obtain ⟨hi20, hw⟩ := hw
        refine q_iald hs18 hi20 eX10_costOf_50 ?_
        obtain ⟨hi21, hw⟩ := hw
        have hw := hw _ rfl
        refine q_iast hs12 hi21 eX10_costOf_51 ?_
        refine q_aload_nr eX10_costOf_52 rfl ?_
        refine q_getR flX10_33 rfl hs9 hr11 eX10_costOf_53 ?_
        refine q_iconst (v := nI 2) eX10_costOf_56 (by decide) ?_
        refine q_aload_nr eX10_costOf_57 rfl ?_
        refine q_getR flX10_13 rfl hs9 hr17 eX10_costOf_58 ?_
        refine q_bipush (v := nI 39) eX10_costOf_61 (by decide) ?_
        refine q_iload eX10_costOf_63 rfl ?_
        refine q_iadd eX10_costOf_65 ?_
        obtain ⟨hi23, hw⟩ := hw
        refine q_iald hs18 hi23 eX10_costOf_66 ?_
        obtain ⟨hi24, hw⟩ := hw
        have hw := hw _ rfl
        refine q_iast hs12 hi24 eX10_costOf_67 ?_
        refine q_aload_nr eX10_costOf_68 rfl ?_
        refine q_getR flX10_33 rfl hs9 hr11 eX10_costOf_69 ?_
        refine q_iconst (v := nI 3) eX10_costOf_72 (by decide) ?_
        refine q_aload_nr eX10_costOf_73 rfl ?_
        refine q_iload eX10_costOf_74 rfl ?_
        refine q_iconst (v := nI 0) eX10_costOf_76 (by decide) ?_
        refine q_callV (b := 0) (t := 0) (gX10_endOf _ _ _ _ _ hw) mlX10_219 kX10_endOf vX10_endOf rfl hs9 ⟨rfl, rfl⟩ (by decide) rfl (Nat.le_of_ble_eq_true rfl) eX10_costOf_77 (kI fun r26 h27 hw => ?_)
        obtain ⟨n29, hs28, hw⟩ := hw
        obtain ⟨hi30, hw⟩ := hw
        have hw := hw _ rfl
        refine q_iast hs28 hi30 eX10_costOf_80 ?_
        refine q_aload_nr eX10_costOf_81 rfl ?_
        obtain ⟨hs32, hw⟩ := hw
        obtain ⟨a33, hr34, hw⟩ := hw
        refine q_getR flX10_33 rfl hs32 hr34 eX10_costOf_82 ?_
        refine q_iconst (v := nI 4) eX10_costOf_85 (by decide) ?_
        refine q_aload_nr eX10_costOf_86 rfl ?_
        refine q_iload eX10_costOf_87 rfl ?_
        refine q_iconst (v := nI 1) eX10_costOf_89 (by decide) ?_
        refine q_callV (b := 0) (t := 0) (gX10_endOf _ _ _ _ _ hw) mlX10_219 kX10_endOf vX10_endOf rfl hs32 ⟨rfl, rfl⟩ (by decide) rfl (Nat.le_of_ble_eq_true rfl) eX10_costOf_90 (kI fun r35 h36 hw => ?_)
        obtain ⟨n38, hs37, hw⟩ := hw
        obtain ⟨hi39, hw⟩ := hw
        have hw := hw _ rfl
        refine q_iast hs37 hi39 eX10_costOf_93 ?_
        refine q_aload_nr eX10_costOf_94 rfl ?_
        obtain ⟨hs41, hw⟩ := hw
        obtain ⟨a42, hr43, hw⟩ := hw
        refine q_getR flX10_13 rfl hs41 hr43 eX10_costOf_95 ?_
        refine q_iconst (v := nI 3) eX10_costOf_98 (by decide) ?_
        obtain ⟨n45, hs44, hw⟩ := hw
        obtain ⟨hi46, hw⟩ := hw
        refine q_iald hs44 hi46 eX10_costOf_99 ?_
        refine q_iconst (v := nI 1) eX10_costOf_100 (by decide) ?_
        obtain ⟨hw1, hw2⟩ := hw
        refine q_icmp_ne (tgt := 112) eX10_costOf_101 (by decide) (fun c => ?_) (fun c => ?_)
        · have hw := hw1 c
          refine q_aload_nr eX10_costOf_112 rfl ?_
          refine q_getR flX10_13 rfl hs41 hr43 eX10_costOf_113 ?_
          refine q_bipush (v := nI 29) eX10_costOf_116 (by decide) ?_
          refine q_iload eX10_costOf_118 rfl ?_
          refine q_iadd eX10_costOf_120 ?_
          obtain ⟨hi47, hw⟩ := hw
          refine q_iald hs44 hi47 eX10_costOf_121 ?_
          refine q_le (ls' := [some _, some _, some _, some _, some _, none]) ⟨rfl, rfl, rfl, rfl, rfl, trivial⟩ ?_
          exact tX10_costOf_122 ih _ _ _ _ _ _ _ hw
        · have hw := hw2 c
          refine q_aload_nr eX10_costOf_104 rfl ?_
          refine q_iconst (v := nI 0) eX10_costOf_105 (by decide) ?_
          refine q_callV (b := 0) (t := 0) (gX10_reckons _ _ _ _ hw) mlX10_239 kX10_reckons vX10_reckons rfl hs41 ⟨rfl, rfl⟩ (by decide) rfl (Nat.le_of_ble_eq_true rfl) eX10_costOf_106 (kI fun r52 h53 hw => ?_)
          refine q_goto (tgt := 122) eX10_costOf_109 (by decide) ?_
          refine q_le (ls' := [some _, some _, some _, some _, some _, none]) ⟨rfl, rfl, rfl, rfl, rfl, trivial⟩ ?_
          exact tX10_costOf_122 ih _ _ _ _ _ _ _ hw
      · have hw := hw2 c
        refine q_goto (tgt := 151) eX10_costOf_26 (by decide) ?_
        refine x_iinc (v := (x4 + nI 1)) (ls' := [_, _, _, _, _, _]) eX10_costOf_151 rfl rfl rfl rfl ?_
        refine q_goto (tgt := 5) eX10_costOf_154 (by decide) ?_
        refine q_le (ls' := [some _, some _, some _, some _, some _, none]) ⟨rfl, rfl, rfl, rfl, rfl, trivial⟩ ?_
        exact ih _ _ _ _ _ _ hw
def wX10_costOf (x0 : Nat) (x1 : Int32) (x2 : Int32) (h : MH) (Q : Int32 → MH → Prop) : Prop := ∃ m54, wX10_costOf_5 Q m54 x0 x1 x2 (nI 0) (nI 0) h
set_option maxHeartbeats 4000000 in
set_option maxRecDepth 100000 in
theorem gX10_costOf (x0 : Nat) (x1 : Int32) (x2 : Int32) (h : MH) (Q : Int32 → MH → Prop) (hw : wX10_costOf x0 x1 x2 h Q) : Cm MX10_costOf 2 0 0 [.ref (x0), .int (x1), .int (x2)] h (pI Q) := by
  refine cm_of [some (.ref (x0)), some (.int (x1)), some (.int (x2)), none, none, none] rfl pnX10 (Nat.le_of_ble_eq_true rfl) rfl ?_
  unfold wX10_costOf at hw
  refine q_iconst (v := nI 0) eX10_costOf_0 (by decide) ?_
  refine x_istore_n (ls' := [_, _, _, _, _, _]) eX10_costOf_1 (by decide) rfl rfl ?_
  refine q_iconst (v := nI 0) eX10_costOf_2 (by decide) ?_
  refine x_istore (ls' := [_, _, _, _, _, _]) eX10_costOf_3 (by decide) rfl rfl ?_
  refine q_le (ls' := [some _, some _, some _, some _, some _, none]) ⟨rfl, rfl, rfl, rfl, rfl, trivial⟩ ?_
  obtain ⟨m54, hw⟩ := hw
  exact tX10_costOf_5 m54 _ _ _ _ _ _ hw
def wX10_bitsOf_4 (Q : Int32 → MH → Prop) : Nat → Int32 → Int32 → Int32 → MH → Prop
  | 0, _, _, _, _ => False
  | n + 1, x0, x1, x2, h => (nI 10 ≤ x2 → Q (x1) h) ∧ (¬ (nI 10 ≤ x2) → wX10_bitsOf_4 Q n x0 (x1 + ((x0 >>> (x2 &&& 31)) &&& nI 1)) (x2 + nI 1) h)
set_option maxHeartbeats 4000000 in
set_option maxRecDepth 100000 in
theorem tX10_bitsOf_4 {Q : Int32 → MH → Prop} : ∀ (n : Nat) (h : MH) (x0 : Int32) (x1 : Int32) (x2 : Int32), wX10_bitsOf_4 Q n x0 x1 x2 h → Wm MX10_bitsOf 0 0 0 4 [some (.int (x0)), some (.int (x1)), some (.int (x2))] [] h (pI Q) := by
  intro n
  induction n with
  | zero => intro h x0 x1 x2 hw; exact hw.elim
  | succ n ih =>
    intro h x0 x1 x2 hw
    unfold wX10_bitsOf_4 at hw
    refine q_iload_n eX10_bitsOf_4 rfl ?_
    refine q_bipush (v := nI 10) eX10_bitsOf_5 (by decide) ?_
    obtain ⟨hw1, hw2⟩ := hw
    refine q_icmp_ge (tgt := 24) eX10_bitsOf_7 (by decide) (fun c => ?_) (fun c => ?_)
    · have hw := hw1 c
      refine q_iload_n eX10_bitsOf_24 rfl ?_
      exact q_ret rfl eX10_bitsOf_25 ⟨_, rfl, hw⟩
    · have hw := hw2 c
      refine q_iload_n eX10_bitsOf_10 rfl ?_
      refine q_iload_n eX10_bitsOf_11 rfl ?_
      refine q_iload_n eX10_bitsOf_12 rfl ?_
      refine q_ishr eX10_bitsOf_13 ?_
      refine q_iconst (v := nI 1) eX10_bitsOf_14 (by decide) ?_
      refine q_iand eX10_bitsOf_15 ?_
      refine q_iadd eX10_bitsOf_16 ?_
      refine x_istore_n (ls' := [_, _, _]) eX10_bitsOf_17 (by decide) rfl rfl ?_
      refine x_iinc (v := (x2 + nI 1)) (ls' := [_, _, _]) eX10_bitsOf_18 rfl rfl rfl rfl ?_
      refine q_goto (tgt := 4) eX10_bitsOf_21 (by decide) ?_
      refine q_le (ls' := [some _, some _, some _]) ⟨rfl, rfl, rfl, trivial⟩ ?_
      exact ih _ _ _ _ hw
def wX10_bitsOf (x0 : Int32) (h : MH) (Q : Int32 → MH → Prop) : Prop := ∃ m1, wX10_bitsOf_4 Q m1 x0 (nI 0) (nI 0) h
set_option maxHeartbeats 4000000 in
set_option maxRecDepth 100000 in
theorem gX10_bitsOf (x0 : Int32) (h : MH) (Q : Int32 → MH → Prop) (hw : wX10_bitsOf x0 h Q) : Cm MX10_bitsOf 0 0 0 [.int (x0)] h (pI Q) := by
  refine cm_of [some (.int (x0)), none, none] rfl pnX10 (Nat.le_of_ble_eq_true rfl) rfl ?_
  unfold wX10_bitsOf at hw
  refine q_iconst (v := nI 0) eX10_bitsOf_0 (by decide) ?_
  refine x_istore_n (ls' := [_, _, _]) eX10_bitsOf_1 (by decide) rfl rfl ?_
  refine q_iconst (v := nI 0) eX10_bitsOf_2 (by decide) ?_
  refine x_istore_n (ls' := [_, _, _]) eX10_bitsOf_3 (by decide) rfl rfl ?_
  refine q_le (ls' := [some _, some _, some _]) ⟨rfl, rfl, rfl, trivial⟩ ?_
  obtain ⟨m1, hw⟩ := hw
  exact tX10_bitsOf_4 m1 _ _ _ _ hw
def wX10_mayBe_79 (Q : Int32 → MH → Prop) (K40 : Nat → Int32 → Int32 → Int32 → MH → Prop) (x0 : Nat) (x1 : Int32) (x2 : Int32) (x3 : Int32) (s0 : Int32) (s1 : Int32) (s2 : Int32) (s3 : Nat) (h : MH) : Prop := ∃ n55, hS h s3 = (2, n55) ∧ vp_in (s2) n55 ∧ ∀ h57, h57 = sI h s3 (s2).toNatClampNeg ((s1 + s0)) → hS h57 x0 = (1, 10) ∧ ∃ a59, hR h57 x0 17 = some a59 ∧ ∃ n62, hS h57 a59 = (2, n62) ∧ vp_in (nI 2) n62 ∧ wX10_isIn ((x1).toInt64) x3 h57 (fun r64 h65 => (r64 = 0 → ∃ n67, hS h65 a59 = (2, n67) ∧ vp_in (nI 2) n67 ∧ ∀ h69, h69 = sI h65 a59 (nI 2).toNatClampNeg ((hI h57 a59 (nI 2).toNatClampNeg + nI 0)) → K40 x0 x1 x2 (x3 + nI 1) h69) ∧ (¬ (r64 = 0) → hS h65 x0 = (1, 10) ∧ ∃ a71, hR h65 x0 1 = some a71 ∧ ∃ n74, hS h65 a71 = (2, n74) ∧ vp_in ((nI 39 + x3)) n74 ∧ ∃ n77, hS h65 a59 = (2, n77) ∧ vp_in (nI 2) n77 ∧ ∀ h79, h79 = sI h65 a59 (nI 2).toNatClampNeg ((hI h57 a59 (nI 2).toNatClampNeg + hI h65 a71 ((nI 39 + x3)).toNatClampNeg)) → K40 x0 x1 x2 (x3 + nI 1) h79))
set_option maxHeartbeats 4000000 in
set_option maxRecDepth 100000 in
theorem tX10_mayBe_79 {Q : Int32 → MH → Prop} {K40 : Nat → Int32 → Int32 → Int32 → MH → Prop} (hK40 : ∀ (h : MH) (x0 : Nat) (x1 : Int32) (x2 : Int32) (x3 : Int32), K40 x0 x1 x2 x3 h → Wm MX10_mayBe 2 0 0 40 [some (.ref (x0)), some (.int (x1)), some (.int (x2)), some (.int (x3))] [] h (pI Q)) (h : MH) (x0 : Nat) (x1 : Int32) (x2 : Int32) (x3 : Int32) (s0 : Int32) (s1 : Int32) (s2 : Int32) (s3 : Nat) (hw : wX10_mayBe_79 Q K40 x0 x1 x2 x3 s0 s1 s2 s3 h) : Wm MX10_mayBe 2 0 0 79 [some (.ref (x0)), some (.int (x1)), some (.int (x2)), some (.int (x3))] [.int (s0), .int (s1), .int (s2), .ref (s3)] h (pI Q) := by
  unfold wX10_mayBe_79 at hw
  refine q_iadd eX10_mayBe_79 ?_
  obtain ⟨n55, hs54, hw⟩ := hw
  obtain ⟨hi56, hw⟩ := hw
  have hw := hw _ rfl
  refine q_iast hs54 hi56 eX10_mayBe_80 ?_
  refine q_aload_nr eX10_mayBe_81 rfl ?_
  obtain ⟨hs58, hw⟩ := hw
  obtain ⟨a59, hr60, hw⟩ := hw
  refine q_getR flX10_33 rfl hs58 hr60 eX10_mayBe_82 ?_
  refine q_iconst (v := nI 2) eX10_mayBe_85 (by decide) ?_
  refine q_dup2 eX10_mayBe_86 rfl rfl ?_
  obtain ⟨n62, hs61, hw⟩ := hw
  obtain ⟨hi63, hw⟩ := hw
  refine q_iald hs61 hi63 eX10_mayBe_87 ?_
  refine q_iload_n eX10_mayBe_88 rfl ?_
  refine q_i2l eX10_mayBe_89 ?_
  refine q_iload_n eX10_mayBe_90 rfl ?_
  refine q_callS (b := 0) (t := 0) (gX10_isIn _ _ _ _ hw) mlX10_232 kX10_isIn sX10_isIn rfl (by decide) rfl (Nat.le_of_ble_eq_true rfl) eX10_mayBe_91 (kI fun r64 h65 hw => ?_)
  obtain ⟨hw1, hw2⟩ := hw
  refine q_if_eq (tgt := 109) eX10_mayBe_94 (by decide) (fun c => ?_) (fun c => ?_)
  · have hw := hw1 c
    refine q_iconst (v := nI 0) eX10_mayBe_109 (by decide) ?_
    refine q_iadd eX10_mayBe_110 ?_
    obtain ⟨n67, hs66, hw⟩ := hw
    obtain ⟨hi68, hw⟩ := hw
    have hw := hw _ rfl
    refine q_iast hs66 hi68 eX10_mayBe_111 ?_
    refine x_iinc (v := (x3 + nI 1)) (ls' := [_, _, _, _]) eX10_mayBe_112 rfl rfl rfl rfl ?_
    refine q_goto (tgt := 40) eX10_mayBe_115 (by decide) ?_
    refine q_le (ls' := [some _, some _, some _, some _]) ⟨rfl, rfl, rfl, rfl, trivial⟩ ?_
    exact hK40 _ _ _ _ _ hw
  · have hw := hw2 c
    refine q_aload_nr eX10_mayBe_97 rfl ?_
    obtain ⟨hs70, hw⟩ := hw
    obtain ⟨a71, hr72, hw⟩ := hw
    refine q_getR flX10_13 rfl hs70 hr72 eX10_mayBe_98 ?_
    refine q_bipush (v := nI 39) eX10_mayBe_101 (by decide) ?_
    refine q_iload_n eX10_mayBe_103 rfl ?_
    refine q_iadd eX10_mayBe_104 ?_
    obtain ⟨n74, hs73, hw⟩ := hw
    obtain ⟨hi75, hw⟩ := hw
    refine q_iald hs73 hi75 eX10_mayBe_105 ?_
    refine q_goto (tgt := 110) eX10_mayBe_106 (by decide) ?_
    refine q_iadd eX10_mayBe_110 ?_
    obtain ⟨n77, hs76, hw⟩ := hw
    obtain ⟨hi78, hw⟩ := hw
    have hw := hw _ rfl
    refine q_iast hs76 hi78 eX10_mayBe_111 ?_
    refine x_iinc (v := (x3 + nI 1)) (ls' := [_, _, _, _]) eX10_mayBe_112 rfl rfl rfl rfl ?_
    refine q_goto (tgt := 40) eX10_mayBe_115 (by decide) ?_
    refine q_le (ls' := [some _, some _, some _, some _]) ⟨rfl, rfl, rfl, rfl, trivial⟩ ?_
    exact hK40 _ _ _ _ _ hw
def wX10_mayBe_40 (Q : Int32 → MH → Prop) : Nat → Nat → Int32 → Int32 → Int32 → MH → Prop
  | 0, _, _, _, _, _ => False
  | n + 1, x0, x1, x2, x3, h => hS h x0 = (1, 10) ∧ ∃ a19, hR h x0 1 = some a19 ∧ ∃ n22, hS h a19 = (2, n22) ∧ vp_in (nI 2) n22 ∧ (hI h a19 (nI 2).toNatClampNeg ≤ x3 → ∃ a24, hR h x0 17 = some a24 ∧ wX10_bitsOf x1 h (fun r26 h27 => ∃ n29, hS h27 a24 = (2, n29) ∧ vp_in (nI 5) n29 ∧ ∀ h31, h31 = sI h27 a24 (nI 5).toNatClampNeg (r26) → hS h31 x0 = (1, 10) ∧ ∃ a33, hR h31 x0 17 = some a33 ∧ wX10_bitsOf x2 h31 (fun r35 h36 => ∃ n38, hS h36 a33 = (2, n38) ∧ vp_in (nI 6) n38 ∧ ∀ h40, h40 = sI h36 a33 (nI 6).toNatClampNeg (r35) → hS h40 x0 = (1, 10) ∧ wX10_reckons x0 (nI 1) h40 (fun r42 h43 => ((if r42 = nI 1 then nI 1 else nI 0) = 0 ∨ (if r42 = nI 1 then nI 1 else nI 0) = 1) ∧ Q ((if r42 = nI 1 then nI 1 else nI 0)) h43)))) ∧ (¬ (hI h a19 (nI 2).toNatClampNeg ≤ x3) → ∃ a47, hR h x0 17 = some a47 ∧ ∃ n50, hS h a47 = (2, n50) ∧ vp_in (nI 1) n50 ∧ wX10_isIn ((x1).toInt64) x3 h (fun r52 h53 => (r52 = 0 → wX10_mayBe_79 Q (wX10_mayBe_40 Q n) x0 x1 x2 x3 (nI 0) (hI h a47 (nI 1).toNatClampNeg) (nI 1) a47 h53) ∧ (¬ (r52 = 0) → hS h53 x0 = (1, 10) ∧ ∃ a81, hR h53 x0 1 = some a81 ∧ ∃ n84, hS h53 a81 = (2, n84) ∧ vp_in ((nI 29 + x3)) n84 ∧ wX10_mayBe_79 Q (wX10_mayBe_40 Q n) x0 x1 x2 x3 (hI h53 a81 ((nI 29 + x3)).toNatClampNeg) (hI h a47 (nI 1).toNatClampNeg) (nI 1) a47 h53)))
set_option maxHeartbeats 4000000 in
set_option maxRecDepth 100000 in
theorem tX10_mayBe_40 {Q : Int32 → MH → Prop} : ∀ (n : Nat) (h : MH) (x0 : Nat) (x1 : Int32) (x2 : Int32) (x3 : Int32), wX10_mayBe_40 Q n x0 x1 x2 x3 h → Wm MX10_mayBe 2 0 0 40 [some (.ref (x0)), some (.int (x1)), some (.int (x2)), some (.int (x3))] [] h (pI Q) := by
  intro n
  induction n with
  | zero => intro h x0 x1 x2 x3 hw; exact hw.elim
  | succ n ih =>
    intro h x0 x1 x2 x3 hw
    unfold wX10_mayBe_40 at hw
    refine q_iload_n eX10_mayBe_40 rfl ?_
    refine q_aload_nr eX10_mayBe_41 rfl ?_
    obtain ⟨hs18, hw⟩ := hw
    obtain ⟨a19, hr20, hw⟩ := hw
    refine q_getR flX10_13 rfl hs18 hr20 eX10_mayBe_42 ?_
    refine q_iconst (v := nI 2) eX10_mayBe_45 (by decide) ?_
    obtain ⟨n22, hs21, hw⟩ := hw
    obtain ⟨hi23, hw⟩ := hw
    refine q_iald hs21 hi23 eX10_mayBe_46 ?_
    obtain ⟨hw1, hw2⟩ := hw
    refine q_icmp_ge (tgt := 118) eX10_mayBe_47 (by decide) (fun c => ?_) (fun c => ?_)
    · have hw := hw1 c
      refine q_aload_nr eX10_mayBe_118 rfl ?_
      obtain ⟨a24, hr25, hw⟩ := hw
      refine q_getR flX10_33 rfl hs18 hr25 eX10_mayBe_119 ?_
      refine q_iconst (v := nI 5) eX10_mayBe_122 (by decide) ?_
      refine q_iload_n eX10_mayBe_123 rfl ?_
      refine q_callS (b := 0) (t := 0) (gX10_bitsOf _ _ _ hw) mlX10_229 kX10_bitsOf sX10_bitsOf rfl (by decide) rfl (Nat.le_of_ble_eq_true rfl) eX10_mayBe_124 (kI fun r26 h27 hw => ?_)
      obtain ⟨n29, hs28, hw⟩ := hw
      obtain ⟨hi30, hw⟩ := hw
      have hw := hw _ rfl
      refine q_iast hs28 hi30 eX10_mayBe_127 ?_
      refine q_aload_nr eX10_mayBe_128 rfl ?_
      obtain ⟨hs32, hw⟩ := hw
      obtain ⟨a33, hr34, hw⟩ := hw
      refine q_getR flX10_33 rfl hs32 hr34 eX10_mayBe_129 ?_
      refine q_bipush (v := nI 6) eX10_mayBe_132 (by decide) ?_
      refine q_iload_n eX10_mayBe_134 rfl ?_
      refine q_callS (b := 0) (t := 0) (gX10_bitsOf _ _ _ hw) mlX10_229 kX10_bitsOf sX10_bitsOf rfl (by decide) rfl (Nat.le_of_ble_eq_true rfl) eX10_mayBe_135 (kI fun r35 h36 hw => ?_)
      obtain ⟨n38, hs37, hw⟩ := hw
      obtain ⟨hi39, hw⟩ := hw
      have hw := hw _ rfl
      refine q_iast hs37 hi39 eX10_mayBe_138 ?_
      refine q_aload_nr eX10_mayBe_139 rfl ?_
      refine q_iconst (v := nI 1) eX10_mayBe_140 (by decide) ?_
      obtain ⟨hs41, hw⟩ := hw
      refine q_callV (b := 0) (t := 0) (gX10_reckons _ _ _ _ hw) mlX10_239 kX10_reckons vX10_reckons rfl hs41 ⟨rfl, rfl⟩ (by decide) rfl (Nat.le_of_ble_eq_true rfl) eX10_mayBe_141 (kI fun r42 h43 hw => ?_)
      refine q_iconst (v := nI 1) eX10_mayBe_144 (by decide) ?_
      have hj46 : Wm MX10_mayBe 2 0 0 153 [some (.ref (x0)), some (.int (x1)), some (.int (x2)), some (.int (x3))] [.int ((if r42 = nI 1 then nI 1 else nI 0))] h43 (pI Q) := by
        obtain ⟨hz45, hw⟩ := hw
        exact q_retZ rfl hz45 eX10_mayBe_153 ⟨_, rfl, hw⟩
      refine q_icmp_ne (tgt := 152) eX10_mayBe_145 (by decide) (fun c => ?_) (fun c => ?_)
      · refine q_iconst (v := nI 0) eX10_mayBe_152 (by decide) ?_
        rw [if_neg c] at hj46
        exact hj46
      · refine q_iconst (v := nI 1) eX10_mayBe_148 (by decide) ?_
        refine q_goto (tgt := 153) eX10_mayBe_149 (by decide) ?_
        rw [if_pos c] at hj46
        exact hj46
    · have hw := hw2 c
      refine q_aload_nr eX10_mayBe_50 rfl ?_
      obtain ⟨a47, hr48, hw⟩ := hw
      refine q_getR flX10_33 rfl hs18 hr48 eX10_mayBe_51 ?_
      refine q_iconst (v := nI 1) eX10_mayBe_54 (by decide) ?_
      refine q_dup2 eX10_mayBe_55 rfl rfl ?_
      obtain ⟨n50, hs49, hw⟩ := hw
      obtain ⟨hi51, hw⟩ := hw
      refine q_iald hs49 hi51 eX10_mayBe_56 ?_
      refine q_iload_n eX10_mayBe_57 rfl ?_
      refine q_i2l eX10_mayBe_58 ?_
      refine q_iload_n eX10_mayBe_59 rfl ?_
      refine q_callS (b := 0) (t := 0) (gX10_isIn _ _ _ _ hw) mlX10_232 kX10_isIn sX10_isIn rfl (by decide) rfl (Nat.le_of_ble_eq_true rfl) eX10_mayBe_60 (kI fun r52 h53 hw => ?_)
      obtain ⟨hw1, hw2⟩ := hw
      refine q_if_eq (tgt := 78) eX10_mayBe_63 (by decide) (fun c => ?_) (fun c => ?_)
      · have hw := hw1 c
        refine q_iconst (v := nI 0) eX10_mayBe_78 (by decide) ?_
        refine q_le (ls' := [some _, some _, some _, some _]) ⟨rfl, rfl, rfl, rfl, trivial⟩ ?_
        exact tX10_mayBe_79 ih _ _ _ _ _ _ _ _ _ hw
      · have hw := hw2 c
        refine q_aload_nr eX10_mayBe_66 rfl ?_
        obtain ⟨hs80, hw⟩ := hw
        obtain ⟨a81, hr82, hw⟩ := hw
        refine q_getR flX10_13 rfl hs80 hr82 eX10_mayBe_67 ?_
        refine q_bipush (v := nI 29) eX10_mayBe_70 (by decide) ?_
        refine q_iload_n eX10_mayBe_72 rfl ?_
        refine q_iadd eX10_mayBe_73 ?_
        obtain ⟨n84, hs83, hw⟩ := hw
        obtain ⟨hi85, hw⟩ := hw
        refine q_iald hs83 hi85 eX10_mayBe_74 ?_
        refine q_goto (tgt := 79) eX10_mayBe_75 (by decide) ?_
        refine q_le (ls' := [some _, some _, some _, some _]) ⟨rfl, rfl, rfl, rfl, trivial⟩ ?_
        exact tX10_mayBe_79 ih _ _ _ _ _ _ _ _ _ hw
def wX10_mayBe (x0 : Nat) (x1 : Int32) (x2 : Int32) (h : MH) (Q : Int32 → MH → Prop) : Prop := hS h x0 = (1, 10) ∧ ∃ a2, hR h x0 1 = some a2 ∧ ∃ n5, hS h a2 = (2, n5) ∧ vp_in (nI 4) n5 ∧ (¬ (hI h a2 (nI 4).toNatClampNeg = 0) → ∃ a7, hR h x0 17 = some a7 ∧ vp_in (nI 114) n5 ∧ ∃ n11, hS h a7 = (2, n11) ∧ vp_in (nI 0) n11 ∧ ∀ h13, h13 = sI h a7 (nI 0).toNatClampNeg (hI h a2 (nI 114).toNatClampNeg) → vp_in (nI 1) n11 ∧ ∀ h15, h15 = sI h13 a7 (nI 1).toNatClampNeg (nI 0) → vp_in (nI 2) n11 ∧ ∀ h17, h17 = sI h15 a7 (nI 2).toNatClampNeg (nI 0) → ∃ m86, wX10_mayBe_40 Q m86 x0 x1 x2 (nI 0) h17) ∧ (hI h a2 (nI 4).toNatClampNeg = 0 → Q (nI 1) h)
set_option maxHeartbeats 4000000 in
set_option maxRecDepth 100000 in
theorem gX10_mayBe (x0 : Nat) (x1 : Int32) (x2 : Int32) (h : MH) (Q : Int32 → MH → Prop) (hw : wX10_mayBe x0 x1 x2 h Q) : Cm MX10_mayBe 2 0 0 [.ref (x0), .int (x1), .int (x2)] h (pI Q) := by
  refine cm_of [some (.ref (x0)), some (.int (x1)), some (.int (x2)), none] rfl pnX10 (Nat.le_of_ble_eq_true rfl) rfl ?_
  unfold wX10_mayBe at hw
  refine q_aload_nr eX10_mayBe_0 rfl ?_
  obtain ⟨hs1, hw⟩ := hw
  obtain ⟨a2, hr3, hw⟩ := hw
  refine q_getR flX10_13 rfl hs1 hr3 eX10_mayBe_1 ?_
  refine q_iconst (v := nI 4) eX10_mayBe_4 (by decide) ?_
  obtain ⟨n5, hs4, hw⟩ := hw
  obtain ⟨hi6, hw⟩ := hw
  refine q_iald hs4 hi6 eX10_mayBe_5 ?_
  obtain ⟨hw1, hw2⟩ := hw
  refine q_if_ne (tgt := 11) eX10_mayBe_6 (by decide) (fun c => ?_) (fun c => ?_)
  · have hw := hw1 c
    refine q_aload_nr eX10_mayBe_11 rfl ?_
    obtain ⟨a7, hr8, hw⟩ := hw
    refine q_getR flX10_33 rfl hs1 hr8 eX10_mayBe_12 ?_
    refine q_iconst (v := nI 0) eX10_mayBe_15 (by decide) ?_
    refine q_aload_nr eX10_mayBe_16 rfl ?_
    refine q_getR flX10_13 rfl hs1 hr3 eX10_mayBe_17 ?_
    refine q_bipush (v := nI 114) eX10_mayBe_20 (by decide) ?_
    obtain ⟨hi9, hw⟩ := hw
    refine q_iald hs4 hi9 eX10_mayBe_22 ?_
    obtain ⟨n11, hs10, hw⟩ := hw
    obtain ⟨hi12, hw⟩ := hw
    have hw := hw _ rfl
    refine q_iast hs10 hi12 eX10_mayBe_23 ?_
    refine q_aload_nr eX10_mayBe_24 rfl ?_
    refine q_getR flX10_33 rfl hs1 hr8 eX10_mayBe_25 ?_
    refine q_iconst (v := nI 1) eX10_mayBe_28 (by decide) ?_
    refine q_iconst (v := nI 0) eX10_mayBe_29 (by decide) ?_
    obtain ⟨hi14, hw⟩ := hw
    have hw := hw _ rfl
    refine q_iast hs10 hi14 eX10_mayBe_30 ?_
    refine q_aload_nr eX10_mayBe_31 rfl ?_
    refine q_getR flX10_33 rfl hs1 hr8 eX10_mayBe_32 ?_
    refine q_iconst (v := nI 2) eX10_mayBe_35 (by decide) ?_
    refine q_iconst (v := nI 0) eX10_mayBe_36 (by decide) ?_
    obtain ⟨hi16, hw⟩ := hw
    have hw := hw _ rfl
    refine q_iast hs10 hi16 eX10_mayBe_37 ?_
    refine q_iconst (v := nI 0) eX10_mayBe_38 (by decide) ?_
    refine x_istore_n (ls' := [_, _, _, _]) eX10_mayBe_39 (by decide) rfl rfl ?_
    refine q_le (ls' := [some _, some _, some _, some _]) ⟨rfl, rfl, rfl, rfl, trivial⟩ ?_
    obtain ⟨m86, hw⟩ := hw
    exact tX10_mayBe_40 m86 _ _ _ _ _ hw
  · have hw := hw2 c
    refine q_iconst (v := nI 1) eX10_mayBe_9 (by decide) ?_
    exact q_retZ rfl (by decide) eX10_mayBe_10 ⟨_, rfl, hw⟩
def wX10_roundOf_115 (Q : Int32 → MH → Prop) (K105 : Nat → Int32 → Int32 → Int32 → Int32 → MH → Prop) : Nat → Nat → Int32 → Int32 → Int32 → Int32 → Int32 → MH → Prop
  | 0, _, _, _, _, _, _, _ => False
  | n + 1, x0, x1, x2, x5, x6, x7, h => hS h x0 = (1, 10) ∧ ∃ a14, hR h x0 1 = some a14 ∧ ∃ n17, hS h a14 = (2, n17) ∧ vp_in (nI 2) n17 ∧ (hI h a14 (nI 2).toNatClampNeg ≤ x7 → K105 x0 x1 x2 x5 (x6 + nI 1) h) ∧ (¬ (hI h a14 (nI 2).toNatClampNeg ≤ x7) → wX10_isIn ((x1).toInt64) x7 h (fun r19 h20 => (r19 = 0 → wX10_roundOf_115 Q K105 n x0 x1 x2 x5 x6 (x7 + nI 1) h20) ∧ (¬ (r19 = 0) → hS h20 x0 = (1, 10) ∧ wX10_endsOf x0 x7 h20 (fun r22 h23 => ((x5 &&& r22) = 0 → wX10_roundOf_115 Q K105 n x0 x1 x2 x5 x6 (x7 + nI 1) h23) ∧ (¬ ((x5 &&& r22) = 0) → hS h23 x0 = (1, 10) ∧ wX10_endsOf x0 x7 h23 (fun r25 h26 => wX10_roundOf_115 Q K105 n x0 x1 x2 (x5 ||| r25) x6 (x7 + nI 1) h26))))))
set_option maxHeartbeats 4000000 in
set_option maxRecDepth 100000 in
theorem tX10_roundOf_115 {Q : Int32 → MH → Prop} {K105 : Nat → Int32 → Int32 → Int32 → Int32 → MH → Prop} (hK105 : ∀ (h : MH) (x0 : Nat) (x1 : Int32) (x2 : Int32) (x5 : Int32) (x6 : Int32), K105 x0 x1 x2 x5 x6 h → Wm MX10_roundOf 2 0 0 105 [some (.ref (x0)), some (.int (x1)), some (.int (x2)), none, none, some (.int (x5)), some (.int (x6)), none] [] h (pI Q)) : ∀ (n : Nat) (h : MH) (x0 : Nat) (x1 : Int32) (x2 : Int32) (x5 : Int32) (x6 : Int32) (x7 : Int32), wX10_roundOf_115 Q K105 n x0 x1 x2 x5 x6 x7 h → Wm MX10_roundOf 2 0 0 115 [some (.ref (x0)), some (.int (x1)), some (.int (x2)), none, none, some (.int (x5)), some (.int (x6)), some (.int (x7))] [] h (pI Q) := by
  intro n
  induction n with
  | zero => intro h x0 x1 x2 x5 x6 x7 hw; exact hw.elim
  | succ n ih =>
    intro h x0 x1 x2 x5 x6 x7 hw
    unfold wX10_roundOf_115 at hw
    refine q_iload eX10_roundOf_115 rfl ?_
    refine q_aload_nr eX10_roundOf_117 rfl ?_
    obtain ⟨hs13, hw⟩ := hw
    obtain ⟨a14, hr15, hw⟩ := hw
    refine q_getR flX10_13 rfl hs13 hr15 eX10_roundOf_118 ?_
    refine q_iconst (v := nI 2) eX10_roundOf_121 (by decide) ?_
    obtain ⟨n17, hs16, hw⟩ := hw
    obtain ⟨hi18, hw⟩ := hw
    refine q_iald hs16 hi18 eX10_roundOf_122 ?_
    obtain ⟨hw1, hw2⟩ := hw
    refine q_icmp_ge (tgt := 165) eX10_roundOf_123 (by decide) (fun c => ?_) (fun c => ?_)
    · have hw := hw1 c
      refine x_iinc (v := (x6 + nI 1)) (ls' := [_, _, _, _, _, _, _, _]) eX10_roundOf_165 rfl rfl rfl rfl ?_
      refine q_goto (tgt := 105) eX10_roundOf_168 (by decide) ?_
      refine q_le (ls' := [some _, some _, some _, none, none, some _, some _, none]) ⟨rfl, rfl, rfl, rfl, rfl, trivial⟩ ?_
      exact hK105 _ _ _ _ _ _ hw
    · have hw := hw2 c
      refine q_iload_n eX10_roundOf_126 rfl ?_
      refine q_i2l eX10_roundOf_127 ?_
      refine q_iload eX10_roundOf_128 rfl ?_
      refine q_callS (b := 0) (t := 0) (gX10_isIn _ _ _ _ hw) mlX10_232 kX10_isIn sX10_isIn rfl (by decide) rfl (Nat.le_of_ble_eq_true rfl) eX10_roundOf_130 (kI fun r19 h20 hw => ?_)
      obtain ⟨hw1, hw2⟩ := hw
      refine q_if_eq (tgt := 159) eX10_roundOf_133 (by decide) (fun c => ?_) (fun c => ?_)
      · have hw := hw1 c
        refine x_iinc (v := (x7 + nI 1)) (ls' := [_, _, _, _, _, _, _, _]) eX10_roundOf_159 rfl rfl rfl rfl ?_
        refine q_goto (tgt := 115) eX10_roundOf_162 (by decide) ?_
        refine q_le (ls' := [some _, some _, some _, none, none, some _, some _, some _]) ⟨rfl, rfl, rfl, rfl, rfl, rfl, trivial⟩ ?_
        exact ih _ _ _ _ _ _ _ hw
      · have hw := hw2 c
        refine q_iload eX10_roundOf_136 rfl ?_
        refine q_aload_nr eX10_roundOf_138 rfl ?_
        refine q_iload eX10_roundOf_139 rfl ?_
        obtain ⟨hs21, hw⟩ := hw
        refine q_callV (b := 0) (t := 0) (gX10_endsOf _ _ _ _ hw) mlX10_236 kX10_endsOf vX10_endsOf rfl hs21 ⟨rfl, rfl⟩ (by decide) rfl (Nat.le_of_ble_eq_true rfl) eX10_roundOf_141 (kI fun r22 h23 hw => ?_)
        refine q_iand eX10_roundOf_144 ?_
        obtain ⟨hw1, hw2⟩ := hw
        refine q_if_eq (tgt := 159) eX10_roundOf_145 (by decide) (fun c => ?_) (fun c => ?_)
        · have hw := hw1 c
          refine x_iinc (v := (x7 + nI 1)) (ls' := [_, _, _, _, _, _, _, _]) eX10_roundOf_159 rfl rfl rfl rfl ?_
          refine q_goto (tgt := 115) eX10_roundOf_162 (by decide) ?_
          refine q_le (ls' := [some _, some _, some _, none, none, some _, some _, some _]) ⟨rfl, rfl, rfl, rfl, rfl, rfl, trivial⟩ ?_
          exact ih _ _ _ _ _ _ _ hw
        · have hw := hw2 c
          refine q_iload eX10_roundOf_148 rfl ?_
          refine q_aload_nr eX10_roundOf_150 rfl ?_
          refine q_iload eX10_roundOf_151 rfl ?_
          obtain ⟨hs24, hw⟩ := hw
          refine q_callV (b := 0) (t := 0) (gX10_endsOf _ _ _ _ hw) mlX10_236 kX10_endsOf vX10_endsOf rfl hs24 ⟨rfl, rfl⟩ (by decide) rfl (Nat.le_of_ble_eq_true rfl) eX10_roundOf_153 (kI fun r25 h26 hw => ?_)
          refine q_ior eX10_roundOf_156 ?_
          refine x_istore (ls' := [_, _, _, _, _, _, _, _]) eX10_roundOf_157 (by decide) rfl rfl ?_
          refine x_iinc (v := (x7 + nI 1)) (ls' := [_, _, _, _, _, _, _, _]) eX10_roundOf_159 rfl rfl rfl rfl ?_
          refine q_goto (tgt := 115) eX10_roundOf_162 (by decide) ?_
          refine q_le (ls' := [some _, some _, some _, none, none, some _, some _, some _]) ⟨rfl, rfl, rfl, rfl, rfl, rfl, trivial⟩ ?_
          exact ih _ _ _ _ _ _ _ hw
def wX10_roundOf_105 (Q : Int32 → MH → Prop) : Nat → Nat → Int32 → Int32 → Int32 → Int32 → MH → Prop
  | 0, _, _, _, _, _, _ => False
  | n + 1, x0, x1, x2, x5, x6, h => (nI 10 ≤ x6 → Q ((if x5 = x2 then x2 else nI 0)) h) ∧ (¬ (nI 10 ≤ x6) → ∃ m27, wX10_roundOf_115 Q (wX10_roundOf_105 Q n) m27 x0 x1 x2 x5 x6 (nI 0) h)
set_option maxHeartbeats 4000000 in
set_option maxRecDepth 100000 in
theorem tX10_roundOf_105 {Q : Int32 → MH → Prop} : ∀ (n : Nat) (h : MH) (x0 : Nat) (x1 : Int32) (x2 : Int32) (x5 : Int32) (x6 : Int32), wX10_roundOf_105 Q n x0 x1 x2 x5 x6 h → Wm MX10_roundOf 2 0 0 105 [some (.ref (x0)), some (.int (x1)), some (.int (x2)), none, none, some (.int (x5)), some (.int (x6)), none] [] h (pI Q) := by
  intro n
  induction n with
  | zero => intro h x0 x1 x2 x5 x6 hw; exact hw.elim
  | succ n ih =>
    intro h x0 x1 x2 x5 x6 hw
    unfold wX10_roundOf_105 at hw
    refine q_iload eX10_roundOf_105 rfl ?_
    refine q_bipush (v := nI 10) eX10_roundOf_107 (by decide) ?_
    obtain ⟨hw1, hw2⟩ := hw
    refine q_icmp_ge (tgt := 171) eX10_roundOf_109 (by decide) (fun c => ?_) (fun c => ?_)
    · have hw := hw1 c
      refine q_iload eX10_roundOf_171 rfl ?_
      refine q_iload_n eX10_roundOf_173 rfl ?_
      have hj12 : Wm MX10_roundOf 2 0 0 182 [some (.ref (x0)), some (.int (x1)), some (.int (x2)), none, none, some (.int (x5)), some (.int (x6)), none] [.int ((if x5 = x2 then x2 else nI 0))] h (pI Q) := by
        exact q_ret rfl eX10_roundOf_182 ⟨_, rfl, hw⟩
      refine q_icmp_ne (tgt := 181) eX10_roundOf_174 (by decide) (fun c => ?_) (fun c => ?_)
      · refine q_iconst (v := nI 0) eX10_roundOf_181 (by decide) ?_
        rw [if_neg c] at hj12
        exact hj12
      · refine q_iload_n eX10_roundOf_177 rfl ?_
        refine q_goto (tgt := 182) eX10_roundOf_178 (by decide) ?_
        rw [if_pos c] at hj12
        exact hj12
    · have hw := hw2 c
      refine q_iconst (v := nI 0) eX10_roundOf_112 (by decide) ?_
      refine x_istore (ls' := [_, _, _, _, _, _, _, _]) eX10_roundOf_113 (by decide) rfl rfl ?_
      refine q_le (ls' := [some _, some _, some _, none, none, some _, some _, some _]) ⟨rfl, rfl, rfl, rfl, rfl, rfl, trivial⟩ ?_
      obtain ⟨m27, hw⟩ := hw
      exact tX10_roundOf_115 ih m27 _ _ _ _ _ _ _ hw
def wX10_roundOf_20 (Q : Int32 → MH → Prop) : Nat → Nat → Int32 → Int32 → Int32 → Int32 → Int32 → MH → Prop
  | 0, _, _, _, _, _, _, _ => False
  | n + 1, x0, x1, x2, x3, x4, x5, h => hS h x0 = (1, 10) ∧ ∃ a4, hR h x0 1 = some a4 ∧ ∃ n7, hS h a4 = (2, n7) ∧ vp_in (nI 2) n7 ∧ (hI h a4 (nI 2).toNatClampNeg ≤ x5 → (x2 = x3 → wX10_endsOf x0 x4 h (fun r9 h10 => ∃ m28, wX10_roundOf_105 Q m28 x0 x1 x2 r9 (nI 0) h10)) ∧ (¬ (x2 = x3) → Q (nI 0) h)) ∧ (¬ (hI h a4 (nI 2).toNatClampNeg ≤ x5) → wX10_isIn ((x1).toInt64) x5 h (fun r29 h30 => (¬ (r29 = 0) → hS h30 x0 = (1, 10) ∧ wX10_endsOf x0 x5 h30 (fun r32 h33 => ((x3 &&& r32) = 0 → hS h33 x0 = (1, 10) ∧ wX10_endsOf x0 x5 h33 (fun r35 h36 => hS h36 x0 = (1, 10) ∧ wX10_endsOf x0 x5 h36 (fun r38 h39 => wX10_roundOf_20 Q n x0 x1 (x2 ||| r38) (x3 ||| (x2 &&& r35)) x5 (x5 + nI 1) h39))) ∧ (¬ ((x3 &&& r32) = 0) → Q (nI 0) h33))) ∧ (r29 = 0 → wX10_roundOf_20 Q n x0 x1 x2 x3 x4 (x5 + nI 1) h30)))
set_option maxHeartbeats 4000000 in
set_option maxRecDepth 100000 in
theorem tX10_roundOf_20 {Q : Int32 → MH → Prop} : ∀ (n : Nat) (h : MH) (x0 : Nat) (x1 : Int32) (x2 : Int32) (x3 : Int32) (x4 : Int32) (x5 : Int32), wX10_roundOf_20 Q n x0 x1 x2 x3 x4 x5 h → Wm MX10_roundOf 2 0 0 20 [some (.ref (x0)), some (.int (x1)), some (.int (x2)), some (.int (x3)), some (.int (x4)), some (.int (x5)), none, none] [] h (pI Q) := by
  intro n
  induction n with
  | zero => intro h x0 x1 x2 x3 x4 x5 hw; exact hw.elim
  | succ n ih =>
    intro h x0 x1 x2 x3 x4 x5 hw
    unfold wX10_roundOf_20 at hw
    refine q_iload eX10_roundOf_20 rfl ?_
    refine q_aload_nr eX10_roundOf_22 rfl ?_
    obtain ⟨hs3, hw⟩ := hw
    obtain ⟨a4, hr5, hw⟩ := hw
    refine q_getR flX10_13 rfl hs3 hr5 eX10_roundOf_23 ?_
    refine q_iconst (v := nI 2) eX10_roundOf_26 (by decide) ?_
    obtain ⟨n7, hs6, hw⟩ := hw
    obtain ⟨hi8, hw⟩ := hw
    refine q_iald hs6 hi8 eX10_roundOf_27 ?_
    obtain ⟨hw1, hw2⟩ := hw
    refine q_icmp_ge (tgt := 87) eX10_roundOf_28 (by decide) (fun c => ?_) (fun c => ?_)
    · have hw := hw1 c
      refine q_iload_n eX10_roundOf_87 rfl ?_
      refine q_iload_n eX10_roundOf_88 rfl ?_
      obtain ⟨hw1, hw2⟩ := hw
      refine q_icmp_eq (tgt := 94) eX10_roundOf_89 (by decide) (fun c => ?_) (fun c => ?_)
      · have hw := hw1 c
        refine q_aload_nr eX10_roundOf_94 rfl ?_
        refine q_iload eX10_roundOf_95 rfl ?_
        refine q_callV (b := 0) (t := 0) (gX10_endsOf _ _ _ _ hw) mlX10_236 kX10_endsOf vX10_endsOf rfl hs3 ⟨rfl, rfl⟩ (by decide) rfl (Nat.le_of_ble_eq_true rfl) eX10_roundOf_97 (kI fun r9 h10 hw => ?_)
        refine x_istore (ls' := [_, _, _, _, _, _, _, _]) eX10_roundOf_100 (by decide) rfl rfl ?_
        refine q_iconst (v := nI 0) eX10_roundOf_102 (by decide) ?_
        refine x_istore (ls' := [_, _, _, _, _, _, _, _]) eX10_roundOf_103 (by decide) rfl rfl ?_
        refine q_le (ls' := [some _, some _, some _, none, none, some _, some _, none]) ⟨rfl, rfl, rfl, rfl, rfl, trivial⟩ ?_
        obtain ⟨m28, hw⟩ := hw
        exact tX10_roundOf_105 m28 _ _ _ _ _ _ hw
      · have hw := hw2 c
        refine q_iconst (v := nI 0) eX10_roundOf_92 (by decide) ?_
        exact q_ret rfl eX10_roundOf_93 ⟨_, rfl, hw⟩
    · have hw := hw2 c
      refine q_iload_n eX10_roundOf_31 rfl ?_
      refine q_i2l eX10_roundOf_32 ?_
      refine q_iload eX10_roundOf_33 rfl ?_
      refine q_callS (b := 0) (t := 0) (gX10_isIn _ _ _ _ hw) mlX10_232 kX10_isIn sX10_isIn rfl (by decide) rfl (Nat.le_of_ble_eq_true rfl) eX10_roundOf_35 (kI fun r29 h30 hw => ?_)
      obtain ⟨hw1, hw2⟩ := hw
      refine q_if_ne (tgt := 44) eX10_roundOf_38 (by decide) (fun c => ?_) (fun c => ?_)
      · have hw := hw1 c
        refine q_iload_n eX10_roundOf_44 rfl ?_
        refine q_aload_nr eX10_roundOf_45 rfl ?_
        refine q_iload eX10_roundOf_46 rfl ?_
        obtain ⟨hs31, hw⟩ := hw
        refine q_callV (b := 0) (t := 0) (gX10_endsOf _ _ _ _ hw) mlX10_236 kX10_endsOf vX10_endsOf rfl hs31 ⟨rfl, rfl⟩ (by decide) rfl (Nat.le_of_ble_eq_true rfl) eX10_roundOf_48 (kI fun r32 h33 hw => ?_)
        refine q_iand eX10_roundOf_51 ?_
        obtain ⟨hw1, hw2⟩ := hw
        refine q_if_eq (tgt := 57) eX10_roundOf_52 (by decide) (fun c => ?_) (fun c => ?_)
        · have hw := hw1 c
          refine q_iload_n eX10_roundOf_57 rfl ?_
          refine q_iload_n eX10_roundOf_58 rfl ?_
          refine q_aload_nr eX10_roundOf_59 rfl ?_
          refine q_iload eX10_roundOf_60 rfl ?_
          obtain ⟨hs34, hw⟩ := hw
          refine q_callV (b := 0) (t := 0) (gX10_endsOf _ _ _ _ hw) mlX10_236 kX10_endsOf vX10_endsOf rfl hs34 ⟨rfl, rfl⟩ (by decide) rfl (Nat.le_of_ble_eq_true rfl) eX10_roundOf_62 (kI fun r35 h36 hw => ?_)
          refine q_iand eX10_roundOf_65 ?_
          refine q_ior eX10_roundOf_66 ?_
          refine x_istore_n (ls' := [_, _, _, _, _, _, _, _]) eX10_roundOf_67 (by decide) rfl rfl ?_
          refine q_iload_n eX10_roundOf_68 rfl ?_
          refine q_aload_nr eX10_roundOf_69 rfl ?_
          refine q_iload eX10_roundOf_70 rfl ?_
          obtain ⟨hs37, hw⟩ := hw
          refine q_callV (b := 0) (t := 0) (gX10_endsOf _ _ _ _ hw) mlX10_236 kX10_endsOf vX10_endsOf rfl hs37 ⟨rfl, rfl⟩ (by decide) rfl (Nat.le_of_ble_eq_true rfl) eX10_roundOf_72 (kI fun r38 h39 hw => ?_)
          refine q_ior eX10_roundOf_75 ?_
          refine x_istore_n (ls' := [_, _, _, _, _, _, _, _]) eX10_roundOf_76 (by decide) rfl rfl ?_
          refine q_iload eX10_roundOf_77 rfl ?_
          refine x_istore (ls' := [_, _, _, _, _, _, _, _]) eX10_roundOf_79 (by decide) rfl rfl ?_
          refine x_iinc (v := (x5 + nI 1)) (ls' := [_, _, _, _, _, _, _, _]) eX10_roundOf_81 rfl rfl rfl rfl ?_
          refine q_goto (tgt := 20) eX10_roundOf_84 (by decide) ?_
          refine q_le (ls' := [some _, some _, some _, some _, some _, some _, none, none]) ⟨rfl, rfl, rfl, rfl, rfl, rfl, trivial⟩ ?_
          exact ih _ _ _ _ _ _ _ hw
        · have hw := hw2 c
          refine q_iconst (v := nI 0) eX10_roundOf_55 (by decide) ?_
          exact q_ret rfl eX10_roundOf_56 ⟨_, rfl, hw⟩
      · have hw := hw2 c
        refine q_goto (tgt := 81) eX10_roundOf_41 (by decide) ?_
        refine x_iinc (v := (x5 + nI 1)) (ls' := [_, _, _, _, _, _, _, _]) eX10_roundOf_81 rfl rfl rfl rfl ?_
        refine q_goto (tgt := 20) eX10_roundOf_84 (by decide) ?_
        refine q_le (ls' := [some _, some _, some _, some _, some _, some _, none, none]) ⟨rfl, rfl, rfl, rfl, rfl, rfl, trivial⟩ ?_
        exact ih _ _ _ _ _ _ _ hw
def wX10_roundOf (x0 : Nat) (x1 : Int32) (h : MH) (Q : Int32 → MH → Prop) : Prop := wX10_bitsOf x1 h (fun r1 h2 => (nI 3 ≤ r1 → ∃ m40, wX10_roundOf_20 Q m40 x0 x1 (nI 0) (nI 0) (-1 : Int32) (nI 0) h2) ∧ (¬ (nI 3 ≤ r1) → Q (nI 0) h2))
set_option maxHeartbeats 4000000 in
set_option maxRecDepth 100000 in
theorem gX10_roundOf (x0 : Nat) (x1 : Int32) (h : MH) (Q : Int32 → MH → Prop) (hw : wX10_roundOf x0 x1 h Q) : Cm MX10_roundOf 2 0 0 [.ref (x0), .int (x1)] h (pI Q) := by
  refine cm_of [some (.ref (x0)), some (.int (x1)), none, none, none, none, none, none] rfl pnX10 (Nat.le_of_ble_eq_true rfl) rfl ?_
  unfold wX10_roundOf at hw
  refine q_iload_n eX10_roundOf_0 rfl ?_
  refine q_callS (b := 0) (t := 0) (gX10_bitsOf _ _ _ hw) mlX10_229 kX10_bitsOf sX10_bitsOf rfl (by decide) rfl (Nat.le_of_ble_eq_true rfl) eX10_roundOf_1 (kI fun r1 h2 hw => ?_)
  refine q_iconst (v := nI 3) eX10_roundOf_4 (by decide) ?_
  obtain ⟨hw1, hw2⟩ := hw
  refine q_icmp_ge (tgt := 10) eX10_roundOf_5 (by decide) (fun c => ?_) (fun c => ?_)
  · have hw := hw1 c
    refine q_iconst (v := nI 0) eX10_roundOf_10 (by decide) ?_
    refine x_istore_n (ls' := [_, _, _, _, _, _, _, _]) eX10_roundOf_11 (by decide) rfl rfl ?_
    refine q_iconst (v := nI 0) eX10_roundOf_12 (by decide) ?_
    refine x_istore_n (ls' := [_, _, _, _, _, _, _, _]) eX10_roundOf_13 (by decide) rfl rfl ?_
    refine q_iconst (v := (-1 : Int32)) eX10_roundOf_14 (by decide) ?_
    refine x_istore (ls' := [_, _, _, _, _, _, _, _]) eX10_roundOf_15 (by decide) rfl rfl ?_
    refine q_iconst (v := nI 0) eX10_roundOf_17 (by decide) ?_
    refine x_istore (ls' := [_, _, _, _, _, _, _, _]) eX10_roundOf_18 (by decide) rfl rfl ?_
    refine q_le (ls' := [some _, some _, some _, some _, some _, some _, none, none]) ⟨rfl, rfl, rfl, rfl, rfl, rfl, trivial⟩ ?_
    obtain ⟨m40, hw⟩ := hw
    exact tX10_roundOf_20 m40 _ _ _ _ _ _ _ hw
  · have hw := hw2 c
    refine q_iconst (v := nI 0) eX10_roundOf_8 (by decide) ?_
    exact q_ret rfl eX10_roundOf_9 ⟨_, rfl, hw⟩
def wX10_laysRings_7 (Q : MH → Prop) : Nat → Nat → Int32 → MH → Prop
  | 0, _, _, _ => False
  | n + 1, x0, x1, h => hS h x0 = (1, 10) ∧ ∃ a4, hR h x0 1 = some a4 ∧ ∃ n7, hS h a4 = (2, n7) ∧ vp_in (nI 2) n7 ∧ ((nI 1 <<< (hI h a4 (nI 2).toNatClampNeg &&& 31)) ≤ x1 → Q h) ∧ (¬ ((nI 1 <<< (hI h a4 (nI 2).toNatClampNeg &&& 31)) ≤ x1) → wX10_roundOf x0 x1 h (fun r9 h10 => (¬ (r9 = 0) → hS h10 x0 = (1, 10) ∧ wX10_chordsOf x0 x1 r9 h10 (fun r12 h13 => hS h13 x0 = (1, 10) ∧ wX10_mayBe x0 x1 r12 h13 (fun r15 h16 => (¬ (r15 = 0) → hS h16 x0 = (1, 10) ∧ ∃ a18, hR h16 x0 18 = some a18 ∧ ∃ n21, hS h16 a18 = (2, n21) ∧ vp_in (hI h16 x0 23) n21 ∧ ∀ h23, h23 = sI h16 a18 (hI h16 x0 23).toNatClampNeg (x1) → ∃ a24, hR h23 x0 19 = some a24 ∧ ∃ n27, hS h23 a24 = (2, n27) ∧ vp_in (hI h23 x0 23) n27 ∧ ∀ h29, h29 = sI h23 a24 (hI h23 x0 23).toNatClampNeg (r12) → ∃ a30, hR h29 x0 20 = some a30 ∧ ∃ n33, hS h29 a30 = (2, n33) ∧ vp_in (hI h29 x0 23) n33 ∧ ∀ h35, h35 = sI h29 a30 (hI h29 x0 23).toNatClampNeg (r9) → ∃ a36, hR h35 x0 21 = some a36 ∧ ∃ a38, hR h35 x0 1 = some a38 ∧ ∃ n41, hS h35 a38 = (2, n41) ∧ vp_in (nI 114) n41 ∧ wX10_costOf x0 x1 (hI h35 a38 (nI 114).toNatClampNeg) h35 (fun r43 h44 => ∃ n46, hS h44 a36 = (2, n46) ∧ vp_in (hI h35 x0 23) n46 ∧ ∀ h48, h48 = sI h44 a36 (hI h35 x0 23).toNatClampNeg (r43) → hS h48 x0 = (1, 10) ∧ ∀ h50, h50 = sI h48 x0 23 ((hI h48 x0 23 + nI 1)) → wX10_laysRings_7 Q n x0 (x1 + nI 1) h50)) ∧ (r15 = 0 → wX10_laysRings_7 Q n x0 (x1 + nI 1) h16)))) ∧ (r9 = 0 → wX10_laysRings_7 Q n x0 (x1 + nI 1) h10)))
set_option maxHeartbeats 4000000 in
set_option maxRecDepth 100000 in
theorem tX10_laysRings_7 {Q : MH → Prop} : ∀ (n : Nat) (h : MH) (x0 : Nat) (x1 : Int32), wX10_laysRings_7 Q n x0 x1 h → Wm MX10_laysRings 3 0 0 7 [some (.ref (x0)), some (.int (x1)), none, none] [] h (pV Q) := by
  intro n
  induction n with
  | zero => intro h x0 x1 hw; exact hw.elim
  | succ n ih =>
    intro h x0 x1 hw
    unfold wX10_laysRings_7 at hw
    refine q_iload_n eX10_laysRings_7 rfl ?_
    refine q_iconst (v := nI 1) eX10_laysRings_8 (by decide) ?_
    refine q_aload_nr eX10_laysRings_9 rfl ?_
    obtain ⟨hs3, hw⟩ := hw
    obtain ⟨a4, hr5, hw⟩ := hw
    refine q_getR flX10_13 rfl hs3 hr5 eX10_laysRings_10 ?_
    refine q_iconst (v := nI 2) eX10_laysRings_13 (by decide) ?_
    obtain ⟨n7, hs6, hw⟩ := hw
    obtain ⟨hi8, hw⟩ := hw
    refine q_iald hs6 hi8 eX10_laysRings_14 ?_
    refine q_ishl eX10_laysRings_15 ?_
    obtain ⟨hw1, hw2⟩ := hw
    refine q_icmp_ge (tgt := 118) eX10_laysRings_16 (by decide) (fun c => ?_) (fun c => ?_)
    · have hw := hw1 c
      exact q_retV rfl eX10_laysRings_118 ⟨rfl, hw⟩
    · have hw := hw2 c
      refine q_aload_nr eX10_laysRings_19 rfl ?_
      refine q_iload_n eX10_laysRings_20 rfl ?_
      refine q_callV (b := 0) (t := 0) (gX10_roundOf _ _ _ _ hw) mlX10_242 kX10_roundOf vX10_roundOf rfl hs3 ⟨rfl, rfl⟩ (by decide) rfl (Nat.le_of_ble_eq_true rfl) eX10_laysRings_21 (kI fun r9 h10 hw => ?_)
      refine x_istore_n (ls' := [_, _, _, _]) eX10_laysRings_24 (by decide) rfl rfl ?_
      refine q_iload_n eX10_laysRings_25 rfl ?_
      obtain ⟨hw1, hw2⟩ := hw
      refine q_if_ne (tgt := 32) eX10_laysRings_26 (by decide) (fun c => ?_) (fun c => ?_)
      · have hw := hw1 c
        refine q_aload_nr eX10_laysRings_32 rfl ?_
        refine q_iload_n eX10_laysRings_33 rfl ?_
        refine q_iload_n eX10_laysRings_34 rfl ?_
        obtain ⟨hs11, hw⟩ := hw
        refine q_callV (b := 0) (t := 0) (gX10_chordsOf _ _ _ _ _ hw) mlX10_245 kX10_chordsOf vX10_chordsOf rfl hs11 ⟨rfl, rfl⟩ (by decide) rfl (Nat.le_of_ble_eq_true rfl) eX10_laysRings_35 (kI fun r12 h13 hw => ?_)
        refine x_istore_n (ls' := [_, _, _, _]) eX10_laysRings_38 (by decide) rfl rfl ?_
        refine q_aload_nr eX10_laysRings_39 rfl ?_
        refine q_iload_n eX10_laysRings_40 rfl ?_
        refine q_iload_n eX10_laysRings_41 rfl ?_
        obtain ⟨hs14, hw⟩ := hw
        refine q_callV (b := 0) (t := 0) (gX10_mayBe _ _ _ _ _ hw) mlX10_248 kX10_mayBe vX10_mayBe rfl hs14 ⟨rfl, rfl⟩ (by decide) rfl (Nat.le_of_ble_eq_true rfl) eX10_laysRings_42 (kI fun r15 h16 hw => ?_)
        obtain ⟨hw1, hw2⟩ := hw
        refine q_if_ne (tgt := 51) eX10_laysRings_45 (by decide) (fun c => ?_) (fun c => ?_)
        · have hw := hw1 c
          refine q_aload_nr eX10_laysRings_51 rfl ?_
          obtain ⟨hs17, hw⟩ := hw
          obtain ⟨a18, hr19, hw⟩ := hw
          refine q_getR flX10_36 rfl hs17 hr19 eX10_laysRings_52 ?_
          refine q_aload_nr eX10_laysRings_55 rfl ?_
          refine q_getI flX10_216 rfl hs17 eX10_laysRings_56 ?_
          refine q_iload_n eX10_laysRings_59 rfl ?_
          obtain ⟨n21, hs20, hw⟩ := hw
          obtain ⟨hi22, hw⟩ := hw
          have hw := hw _ rfl
          refine q_iast hs20 hi22 eX10_laysRings_60 ?_
          refine q_aload_nr eX10_laysRings_61 rfl ?_
          obtain ⟨a24, hr25, hw⟩ := hw
          refine q_getR flX10_39 rfl hs17 hr25 eX10_laysRings_62 ?_
          refine q_aload_nr eX10_laysRings_65 rfl ?_
          refine q_getI flX10_216 rfl hs17 eX10_laysRings_66 ?_
          refine q_iload_n eX10_laysRings_69 rfl ?_
          obtain ⟨n27, hs26, hw⟩ := hw
          obtain ⟨hi28, hw⟩ := hw
          have hw := hw _ rfl
          refine q_iast hs26 hi28 eX10_laysRings_70 ?_
          refine q_aload_nr eX10_laysRings_71 rfl ?_
          obtain ⟨a30, hr31, hw⟩ := hw
          refine q_getR flX10_42 rfl hs17 hr31 eX10_laysRings_72 ?_
          refine q_aload_nr eX10_laysRings_75 rfl ?_
          refine q_getI flX10_216 rfl hs17 eX10_laysRings_76 ?_
          refine q_iload_n eX10_laysRings_79 rfl ?_
          obtain ⟨n33, hs32, hw⟩ := hw
          obtain ⟨hi34, hw⟩ := hw
          have hw := hw _ rfl
          refine q_iast hs32 hi34 eX10_laysRings_80 ?_
          refine q_aload_nr eX10_laysRings_81 rfl ?_
          obtain ⟨a36, hr37, hw⟩ := hw
          refine q_getR flX10_45 rfl hs17 hr37 eX10_laysRings_82 ?_
          refine q_aload_nr eX10_laysRings_85 rfl ?_
          refine q_getI flX10_216 rfl hs17 eX10_laysRings_86 ?_
          refine q_aload_nr eX10_laysRings_89 rfl ?_
          refine q_iload_n eX10_laysRings_90 rfl ?_
          refine q_aload_nr eX10_laysRings_91 rfl ?_
          obtain ⟨a38, hr39, hw⟩ := hw
          refine q_getR flX10_13 rfl hs17 hr39 eX10_laysRings_92 ?_
          refine q_bipush (v := nI 114) eX10_laysRings_95 (by decide) ?_
          obtain ⟨n41, hs40, hw⟩ := hw
          obtain ⟨hi42, hw⟩ := hw
          refine q_iald hs40 hi42 eX10_laysRings_97 ?_
          refine q_callV (b := 0) (t := 0) (gX10_costOf _ _ _ _ _ hw) mlX10_251 kX10_costOf vX10_costOf rfl hs17 ⟨rfl, rfl⟩ (by decide) rfl (Nat.le_of_ble_eq_true rfl) eX10_laysRings_98 (kI fun r43 h44 hw => ?_)
          obtain ⟨n46, hs45, hw⟩ := hw
          obtain ⟨hi47, hw⟩ := hw
          have hw := hw _ rfl
          refine q_iast hs45 hi47 eX10_laysRings_101 ?_
          refine q_aload_nr eX10_laysRings_102 rfl ?_
          refine q_dup eX10_laysRings_103 rfl ?_
          obtain ⟨hs49, hw⟩ := hw
          refine q_getI flX10_216 rfl hs49 eX10_laysRings_104 ?_
          refine q_iconst (v := nI 1) eX10_laysRings_107 (by decide) ?_
          refine q_iadd eX10_laysRings_108 ?_
          have hw := hw _ rfl
          refine q_putI (fwX10_216 _) rfl hs49 eX10_laysRings_109 ?_
          refine x_iinc (v := (x1 + nI 1)) (ls' := [_, _, _, _]) eX10_laysRings_112 rfl rfl rfl rfl ?_
          refine q_goto (tgt := 7) eX10_laysRings_115 (by decide) ?_
          refine q_le (ls' := [some _, some _, none, none]) ⟨rfl, rfl, trivial⟩ ?_
          exact ih _ _ _ hw
        · have hw := hw2 c
          refine q_goto (tgt := 112) eX10_laysRings_48 (by decide) ?_
          refine x_iinc (v := (x1 + nI 1)) (ls' := [_, _, _, _]) eX10_laysRings_112 rfl rfl rfl rfl ?_
          refine q_goto (tgt := 7) eX10_laysRings_115 (by decide) ?_
          refine q_le (ls' := [some _, some _, none, none]) ⟨rfl, rfl, trivial⟩ ?_
          exact ih _ _ _ hw
      · have hw := hw2 c
        refine q_goto (tgt := 112) eX10_laysRings_29 (by decide) ?_
        refine x_iinc (v := (x1 + nI 1)) (ls' := [_, _, _, _]) eX10_laysRings_112 rfl rfl rfl rfl ?_
        refine q_goto (tgt := 7) eX10_laysRings_115 (by decide) ?_
        refine q_le (ls' := [some _, some _, none, none]) ⟨rfl, rfl, trivial⟩ ?_
        exact ih _ _ _ hw
def wX10_laysRings (x0 : Nat) (h : MH) (Q : MH → Prop) : Prop := hS h x0 = (1, 10) ∧ ∀ h2, h2 = sI h x0 23 (nI 0) → ∃ m51, wX10_laysRings_7 Q m51 x0 (nI 1) h2
set_option maxHeartbeats 4000000 in
set_option maxRecDepth 100000 in
theorem gX10_laysRings (x0 : Nat) (h : MH) (Q : MH → Prop) (hw : wX10_laysRings x0 h Q) : Cm MX10_laysRings 3 0 0 [.ref (x0)] h (pV Q) := by
  refine cm_of [some (.ref (x0)), none, none, none] rfl pnX10 (Nat.le_of_ble_eq_true rfl) rfl ?_
  unfold wX10_laysRings at hw
  refine q_aload_nr eX10_laysRings_0 rfl ?_
  refine q_iconst (v := nI 0) eX10_laysRings_1 (by decide) ?_
  obtain ⟨hs1, hw⟩ := hw
  have hw := hw _ rfl
  refine q_putI (fwX10_216 _) rfl hs1 eX10_laysRings_2 ?_
  refine q_iconst (v := nI 1) eX10_laysRings_5 (by decide) ?_
  refine x_istore_n (ls' := [_, _, _, _]) eX10_laysRings_6 (by decide) rfl rfl ?_
  refine q_le (ls' := [some _, some _, none, none]) ⟨rfl, rfl, trivial⟩ ?_
  obtain ⟨m51, hw⟩ := hw
  exact tX10_laysRings_7 m51 _ _ _ hw
def wX10_plain_2 (Q : MH → Prop) : Nat → Nat → Int32 → MH → Prop
  | 0, _, _, _ => False
  | n + 1, x0, x1, h => (nI 2337 ≤ x1 → Q h) ∧ (¬ (nI 2337 ≤ x1) → ∃ n2, hS h x0 = (2, n2) ∧ vp_in (x1) n2 ∧ ∀ h4, h4 = sI h x0 (x1).toNatClampNeg (nI 0) → wX10_plain_2 Q n x0 (x1 + nI 1) h4)
set_option maxHeartbeats 4000000 in
set_option maxRecDepth 100000 in
theorem tX10_plain_2 {Q : MH → Prop} : ∀ (n : Nat) (h : MH) (x0 : Nat) (x1 : Int32), wX10_plain_2 Q n x0 x1 h → Wm MX10_plain 0 0 0 2 [some (.ref (x0)), some (.int (x1))] [] h (pV Q) := by
  intro n
  induction n with
  | zero => intro h x0 x1 hw; exact hw.elim
  | succ n ih =>
    intro h x0 x1 hw
    unfold wX10_plain_2 at hw
    refine q_iload_n eX10_plain_2 rfl ?_
    refine q_sipush (v := nI 2337) eX10_plain_3 (by decide) ?_
    obtain ⟨hw1, hw2⟩ := hw
    refine q_icmp_ge (tgt := 19) eX10_plain_6 (by decide) (fun c => ?_) (fun c => ?_)
    · have hw := hw1 c
      exact q_retV rfl eX10_plain_19 ⟨rfl, hw⟩
    · have hw := hw2 c
      refine q_aload_nr eX10_plain_9 rfl ?_
      refine q_iload_n eX10_plain_10 rfl ?_
      refine q_iconst (v := nI 0) eX10_plain_11 (by decide) ?_
      obtain ⟨n2, hs1, hw⟩ := hw
      obtain ⟨hi3, hw⟩ := hw
      have hw := hw _ rfl
      refine q_iast hs1 hi3 eX10_plain_12 ?_
      refine x_iinc (v := (x1 + nI 1)) (ls' := [_, _]) eX10_plain_13 rfl rfl rfl rfl ?_
      refine q_goto (tgt := 2) eX10_plain_16 (by decide) ?_
      refine q_le (ls' := [some _, some _]) ⟨rfl, rfl, trivial⟩ ?_
      exact ih _ _ _ hw
def wX10_plain (x0 : Nat) (h : MH) (Q : MH → Prop) : Prop := ∃ m5, wX10_plain_2 Q m5 x0 (nI 0) h
set_option maxHeartbeats 4000000 in
set_option maxRecDepth 100000 in
theorem gX10_plain (x0 : Nat) (h : MH) (Q : MH → Prop) (hw : wX10_plain x0 h Q) : Cm MX10_plain 0 0 0 [.ref (x0)] h (pV Q) := by
  refine cm_of [some (.ref (x0)), none] rfl pnX10 (Nat.le_of_ble_eq_true rfl) rfl ?_
  unfold wX10_plain at hw
  refine q_iconst (v := nI 0) eX10_plain_0 (by decide) ?_
  refine x_istore_n (ls' := [_, _]) eX10_plain_1 (by decide) rfl rfl ?_
  refine q_le (ls' := [some _, some _]) ⟨rfl, rfl, trivial⟩ ?_
  obtain ⟨m5, hw⟩ := hw
  exact tX10_plain_2 m5 _ _ _ hw
def wX10_init (b t : Nat) (x0 : Nat) (h : MH) (Q : MH → Prop) : Prop := 1 ≤ b ∧ 7011 ≤ t ∧ ∀ a1, a1 = hN h → ∀ h2, h2 = al h (2, 7011) → hS h2 x0 = (1, 10) ∧ ∀ h6, h6 = sR h2 x0 1 (some a1) → 1 ≤ (b - 1) ∧ 2 ≤ (t - 7011) ∧ ∀ a7, a7 = hN h6 → ∀ h8, h8 = al h6 (5, 2) → hS h8 x0 = (1, 10) ∧ ∀ h12, h12 = sR h8 x0 2 (some a7) → 1 ≤ (b - 2) ∧ 900 ≤ (t - 7013) ∧ ∀ a13, a13 = hN h12 → ∀ h14, h14 = al h12 (2, 900) → hS h14 x0 = (1, 10) ∧ ∀ h18, h18 = sR h14 x0 3 (some a13) → 1 ≤ (b - 3) ∧ 2337 ≤ (t - 7913) ∧ ∀ a19, a19 = hN h18 → ∀ h20, h20 = al h18 (2, 2337) → hS h20 x0 = (1, 10) ∧ ∀ h24, h24 = sR h20 x0 4 (some a19) → hS h24 x0 = (1, 10) ∧ ∀ h26, h26 = sI h24 x0 14 ((-1 : Int32)) → 1 ≤ (b - 4) ∧ 900 ≤ (t - 10250) ∧ ∀ a27, a27 = hN h26 → ∀ h28, h28 = al h26 (2, 900) → hS h28 x0 = (1, 10) ∧ ∀ h32, h32 = sR h28 x0 16 (some a27) → 1 ≤ (b - 5) ∧ 7 ≤ (t - 11150) ∧ ∀ a33, a33 = hN h32 → ∀ h34, h34 = al h32 (2, 7) → hS h34 x0 = (1, 10) ∧ ∀ h38, h38 = sR h34 x0 17 (some a33) → 1 ≤ (b - 6) ∧ 64 ≤ (t - 11157) ∧ ∀ a39, a39 = hN h38 → ∀ h40, h40 = al h38 (2, 64) → hS h40 x0 = (1, 10) ∧ ∀ h44, h44 = sR h40 x0 18 (some a39) → 1 ≤ (b - 7) ∧ 64 ≤ (t - 11221) ∧ ∀ a45, a45 = hN h44 → ∀ h46, h46 = al h44 (2, 64) → hS h46 x0 = (1, 10) ∧ ∀ h50, h50 = sR h46 x0 19 (some a45) → 1 ≤ (b - 8) ∧ 64 ≤ (t - 11285) ∧ ∀ a51, a51 = hN h50 → ∀ h52, h52 = al h50 (2, 64) → hS h52 x0 = (1, 10) ∧ ∀ h56, h56 = sR h52 x0 20 (some a51) → 1 ≤ (b - 9) ∧ 64 ≤ (t - 11349) ∧ ∀ a57, a57 = hN h56 → ∀ h58, h58 = al h56 (2, 64) → hS h58 x0 = (1, 10) ∧ ∀ h62, h62 = sR h58 x0 21 (some a57) → 1 ≤ (b - 10) ∧ 64 ≤ (t - 11413) ∧ ∀ a63, a63 = hN h62 → ∀ h64, h64 = al h62 (2, 64) → hS h64 x0 = (1, 10) ∧ ∀ h68, h68 = sR h64 x0 22 (some a63) → 1 ≤ (b - 11) ∧ 126 ≤ (t - 11477) ∧ ∀ a69, a69 = hN h68 → ∀ h70, h70 = al h68 (2, 126) → hS h70 x0 = (1, 10) ∧ ∀ h74, h74 = sR h70 x0 24 (some a69) → 1 ≤ (b - 12) ∧ 59049 ≤ (t - 11603) ∧ ∀ a75, a75 = hN h74 → ∀ h76, h76 = al h74 (2, 59049) → hS h76 x0 = (1, 10) ∧ ∀ h80, h80 = sR h76 x0 27 (some a75) → 1 ≤ (b - 13) ∧ 64 ≤ (t - 70652) ∧ ∀ a81, a81 = hN h80 → ∀ h82, h82 = al h80 (2, 64) → hS h82 x0 = (1, 10) ∧ ∀ h86, h86 = sR h82 x0 28 (some a81) → 1 ≤ (b - 14) ∧ 10 ≤ (t - 70716) ∧ ∀ a87, a87 = hN h86 → ∀ h88, h88 = al h86 (2, 10) → hS h88 x0 = (1, 10) ∧ ∀ h92, h92 = sR h88 x0 29 (some a87) → 1 ≤ (b - 15) ∧ 10 ≤ (t - 70726) ∧ ∀ a93, a93 = hN h92 → ∀ h94, h94 = al h92 (2, 10) → hS h94 x0 = (1, 10) ∧ ∀ h98, h98 = sR h94 x0 30 (some a93) → 1 ≤ (b - 16) ∧ 378 ≤ (t - 70736) ∧ ∀ a99, a99 = hN h98 → ∀ h100, h100 = al h98 (2, 378) → hS h100 x0 = (1, 10) ∧ ∀ h104, h104 = sR h100 x0 31 (some a99) → 1 ≤ (b - 17) ∧ 4 ≤ (t - 71114) ∧ ∀ a105, a105 = hN h104 → ∀ h106, h106 = al h104 (2, 4) → ∃ n110, hS h106 a105 = (2, n110) ∧ vp_in (nI 0) n110 ∧ ∀ h112, h112 = sI h106 a105 (nI 0).toNatClampNeg ((-1 : Int32)) → ∃ n114, hS h112 a105 = (2, n114) ∧ vp_in (nI 1) n114 ∧ ∀ h116, h116 = sI h112 a105 (nI 1).toNatClampNeg ((-1 : Int32)) → ∃ n118, hS h116 a105 = (2, n118) ∧ vp_in (nI 2) n118 ∧ ∀ h120, h120 = sI h116 a105 (nI 2).toNatClampNeg ((-1 : Int32)) → ∃ n122, hS h120 a105 = (2, n122) ∧ vp_in (nI 3) n122 ∧ ∀ h124, h124 = sI h120 a105 (nI 3).toNatClampNeg ((-1 : Int32)) → hS h124 x0 = (1, 10) ∧ ∀ h126, h126 = sR h124 x0 34 (some a105) → 1 ≤ (b - 18) ∧ 4 ≤ (t - 71118) ∧ ∀ a127, a127 = hN h126 → ∀ h128, h128 = al h126 (2, 4) → hS h128 x0 = (1, 10) ∧ ∀ h132, h132 = sR h128 x0 35 (some a127) → 1 ≤ (b - 19) ∧ 160 ≤ (t - 71122) ∧ ∀ a133, a133 = hN h132 → ∀ h134, h134 = al h132 (3, 160) → hS h134 x0 = (1, 10) ∧ ∀ h138, h138 = sR h134 x0 36 (some a133) → hS h138 x0 = (1, 10) ∧ ∃ a140, hR h138 x0 1 = some a140 ∧ wX10_plain a140 h138 (fun h143 => hS h143 x0 = (1, 10) ∧ ∃ a145, hR h143 x0 1 = some a145 ∧ ∃ n148, hS h143 a145 = (2, n148) ∧ vp_in (nI 1) n148 ∧ ∀ h150, h150 = sI h143 a145 (nI 1).toNatClampNeg (nI 1) → hS h150 x0 = (1, 10) ∧ wX10_laysRings x0 h150 (fun h153 => Q h153))
set_option maxHeartbeats 4000000 in
set_option maxRecDepth 100000 in
theorem gX10_init (b t : Nat) (x0 : Nat) (h : MH) (Q : MH → Prop) (hw : wX10_init b t x0 h Q) : Cm MX10_init 4 b t [.ref (x0)] h (pV Q) := by
  refine cm_of [some (.ref (x0))] rfl pnX10 (Nat.le_of_ble_eq_true rfl) rfl ?_
  unfold wX10_init at hw
  refine q_aload_nr eX10_init_0 rfl ?_
  refine q_objI mlX10_7 iOi cOi (by decide) (Nat.le_of_ble_eq_true rfl) eX10_init_1 ?_
  refine q_aload_nr eX10_init_4 rfl ?_
  refine q_sipush (v := nI 7011) eX10_init_5 (by decide) ?_
  obtain ⟨hc3, hc4, hw⟩ := hw
  refine q_bud (b' := (b - 1) + 1) (t' := (t - 7011) + 7011) (by omega) (by omega) ?_
  refine q_newa (k := 2) (Or.inl rfl) rfl aC_int (by decide) (by decide) (by decide) eX10_init_8 ?_
  generalize hEa1 : hN h = a1
  generalize hEh2 : al h (2, 7011) = h2
  have hw := hw a1 hEa1.symm h2 hEh2.symm
  obtain ⟨hs5, hw⟩ := hw
  refine q_putR fwX10_13 rfl hs5 eX10_init_10 ?_
  generalize hEh6 : sR h2 x0 1 (some a1) = h6
  have hw := hw h6 hEh6.symm
  refine q_aload_nr eX10_init_13 rfl ?_
  refine q_iconst (v := nI 2) eX10_init_14 (by decide) ?_
  obtain ⟨hc9, hc10, hw⟩ := hw
  refine q_bud (b' := (b - 2) + 1) (t' := (t - 7013) + 2) (by omega) (by omega) ?_
  refine q_newa (k := 5) (Or.inr (Or.inr (Or.inr rfl))) rfl aC_boolean (by decide) (by decide) (by decide) eX10_init_15 ?_
  generalize hEa7 : hN h6 = a7
  generalize hEh8 : al h6 (5, 2) = h8
  have hw := hw a7 hEa7.symm h8 hEh8.symm
  obtain ⟨hs11, hw⟩ := hw
  refine q_putR fwX10_17 rfl hs11 eX10_init_17 ?_
  generalize hEh12 : sR h8 x0 2 (some a7) = h12
  have hw := hw h12 hEh12.symm
  refine q_aload_nr eX10_init_20 rfl ?_
  refine q_sipush (v := nI 900) eX10_init_21 (by decide) ?_
  obtain ⟨hc15, hc16, hw⟩ := hw
  refine q_bud (b' := (b - 3) + 1) (t' := (t - 7913) + 900) (by omega) (by omega) ?_
  refine q_newa (k := 2) (Or.inl rfl) rfl aC_int (by decide) (by decide) (by decide) eX10_init_24 ?_
  generalize hEa13 : hN h12 = a13
  generalize hEh14 : al h12 (2, 900) = h14
  have hw := hw a13 hEa13.symm h14 hEh14.symm
  obtain ⟨hs17, hw⟩ := hw
  refine q_putR fwX10_21 rfl hs17 eX10_init_26 ?_
  generalize hEh18 : sR h14 x0 3 (some a13) = h18
  have hw := hw h18 hEh18.symm
  refine q_aload_nr eX10_init_29 rfl ?_
  refine q_sipush (v := nI 2337) eX10_init_30 (by decide) ?_
  obtain ⟨hc21, hc22, hw⟩ := hw
  refine q_bud (b' := (b - 4) + 1) (t' := (t - 10250) + 2337) (by omega) (by omega) ?_
  refine q_newa (k := 2) (Or.inl rfl) rfl aC_int (by decide) (by decide) (by decide) eX10_init_33 ?_
  generalize hEa19 : hN h18 = a19
  generalize hEh20 : al h18 (2, 2337) = h20
  have hw := hw a19 hEa19.symm h20 hEh20.symm
  obtain ⟨hs23, hw⟩ := hw
  refine q_putR fwX10_24 rfl hs23 eX10_init_35 ?_
  generalize hEh24 : sR h20 x0 4 (some a19) = h24
  have hw := hw h24 hEh24.symm
  refine q_aload_nr eX10_init_38 rfl ?_
  refine q_iconst (v := (-1 : Int32)) eX10_init_39 (by decide) ?_
  obtain ⟨hs25, hw⟩ := hw
  refine q_putI (fwX10_27 _) rfl hs25 eX10_init_40 ?_
  generalize hEh26 : sI h24 x0 14 ((-1 : Int32)) = h26
  have hw := hw h26 hEh26.symm
  refine q_aload_nr eX10_init_43 rfl ?_
  refine q_sipush (v := nI 900) eX10_init_44 (by decide) ?_
  obtain ⟨hc29, hc30, hw⟩ := hw
  refine q_bud (b' := (b - 5) + 1) (t' := (t - 11150) + 900) (by omega) (by omega) ?_
  refine q_newa (k := 2) (Or.inl rfl) rfl aC_int (by decide) (by decide) (by decide) eX10_init_47 ?_
  generalize hEa27 : hN h26 = a27
  generalize hEh28 : al h26 (2, 900) = h28
  have hw := hw a27 hEa27.symm h28 hEh28.symm
  obtain ⟨hs31, hw⟩ := hw
  refine q_putR fwX10_30 rfl hs31 eX10_init_49 ?_
  generalize hEh32 : sR h28 x0 16 (some a27) = h32
  have hw := hw h32 hEh32.symm
  refine q_aload_nr eX10_init_52 rfl ?_
  refine q_bipush (v := nI 7) eX10_init_53 (by decide) ?_
  obtain ⟨hc35, hc36, hw⟩ := hw
  refine q_bud (b' := (b - 6) + 1) (t' := (t - 11157) + 7) (by omega) (by omega) ?_
  refine q_newa (k := 2) (Or.inl rfl) rfl aC_int (by decide) (by decide) (by decide) eX10_init_55 ?_
  generalize hEa33 : hN h32 = a33
  generalize hEh34 : al h32 (2, 7) = h34
  have hw := hw a33 hEa33.symm h34 hEh34.symm
  obtain ⟨hs37, hw⟩ := hw
  refine q_putR fwX10_33 rfl hs37 eX10_init_57 ?_
  generalize hEh38 : sR h34 x0 17 (some a33) = h38
  have hw := hw h38 hEh38.symm
  refine q_aload_nr eX10_init_60 rfl ?_
  refine q_bipush (v := nI 64) eX10_init_61 (by decide) ?_
  obtain ⟨hc41, hc42, hw⟩ := hw
  refine q_bud (b' := (b - 7) + 1) (t' := (t - 11221) + 64) (by omega) (by omega) ?_
  refine q_newa (k := 2) (Or.inl rfl) rfl aC_int (by decide) (by decide) (by decide) eX10_init_63 ?_
  generalize hEa39 : hN h38 = a39
  generalize hEh40 : al h38 (2, 64) = h40
  have hw := hw a39 hEa39.symm h40 hEh40.symm
  obtain ⟨hs43, hw⟩ := hw
  refine q_putR fwX10_36 rfl hs43 eX10_init_65 ?_
  generalize hEh44 : sR h40 x0 18 (some a39) = h44
  have hw := hw h44 hEh44.symm
  refine q_aload_nr eX10_init_68 rfl ?_
  refine q_bipush (v := nI 64) eX10_init_69 (by decide) ?_
  obtain ⟨hc47, hc48, hw⟩ := hw
  refine q_bud (b' := (b - 8) + 1) (t' := (t - 11285) + 64) (by omega) (by omega) ?_
  refine q_newa (k := 2) (Or.inl rfl) rfl aC_int (by decide) (by decide) (by decide) eX10_init_71 ?_
  generalize hEa45 : hN h44 = a45
  generalize hEh46 : al h44 (2, 64) = h46
  have hw := hw a45 hEa45.symm h46 hEh46.symm
  obtain ⟨hs49, hw⟩ := hw
  refine q_putR fwX10_39 rfl hs49 eX10_init_73 ?_
  generalize hEh50 : sR h46 x0 19 (some a45) = h50
  have hw := hw h50 hEh50.symm
  refine q_aload_nr eX10_init_76 rfl ?_
  refine q_bipush (v := nI 64) eX10_init_77 (by decide) ?_
  obtain ⟨hc53, hc54, hw⟩ := hw
  refine q_bud (b' := (b - 9) + 1) (t' := (t - 11349) + 64) (by omega) (by omega) ?_
  refine q_newa (k := 2) (Or.inl rfl) rfl aC_int (by decide) (by decide) (by decide) eX10_init_79 ?_
  generalize hEa51 : hN h50 = a51
  generalize hEh52 : al h50 (2, 64) = h52
  have hw := hw a51 hEa51.symm h52 hEh52.symm
  obtain ⟨hs55, hw⟩ := hw
  refine q_putR fwX10_42 rfl hs55 eX10_init_81 ?_
  generalize hEh56 : sR h52 x0 20 (some a51) = h56
  have hw := hw h56 hEh56.symm
  refine q_aload_nr eX10_init_84 rfl ?_
  refine q_bipush (v := nI 64) eX10_init_85 (by decide) ?_
  obtain ⟨hc59, hc60, hw⟩ := hw
  refine q_bud (b' := (b - 10) + 1) (t' := (t - 11413) + 64) (by omega) (by omega) ?_
  refine q_newa (k := 2) (Or.inl rfl) rfl aC_int (by decide) (by decide) (by decide) eX10_init_87 ?_
  generalize hEa57 : hN h56 = a57
  generalize hEh58 : al h56 (2, 64) = h58
  have hw := hw a57 hEa57.symm h58 hEh58.symm
  obtain ⟨hs61, hw⟩ := hw
  refine q_putR fwX10_45 rfl hs61 eX10_init_89 ?_
  generalize hEh62 : sR h58 x0 21 (some a57) = h62
  have hw := hw h62 hEh62.symm
  refine q_aload_nr eX10_init_92 rfl ?_
  refine q_bipush (v := nI 64) eX10_init_93 (by decide) ?_
  obtain ⟨hc65, hc66, hw⟩ := hw
  refine q_bud (b' := (b - 11) + 1) (t' := (t - 11477) + 64) (by omega) (by omega) ?_
  refine q_newa (k := 2) (Or.inl rfl) rfl aC_int (by decide) (by decide) (by decide) eX10_init_95 ?_
  generalize hEa63 : hN h62 = a63
  generalize hEh64 : al h62 (2, 64) = h64
  have hw := hw a63 hEa63.symm h64 hEh64.symm
  obtain ⟨hs67, hw⟩ := hw
  refine q_putR fwX10_48 rfl hs67 eX10_init_97 ?_
  generalize hEh68 : sR h64 x0 22 (some a63) = h68
  have hw := hw h68 hEh68.symm
  refine q_aload_nr eX10_init_100 rfl ?_
  refine q_bipush (v := nI 126) eX10_init_101 (by decide) ?_
  obtain ⟨hc71, hc72, hw⟩ := hw
  refine q_bud (b' := (b - 12) + 1) (t' := (t - 11603) + 126) (by omega) (by omega) ?_
  refine q_newa (k := 2) (Or.inl rfl) rfl aC_int (by decide) (by decide) (by decide) eX10_init_103 ?_
  generalize hEa69 : hN h68 = a69
  generalize hEh70 : al h68 (2, 126) = h70
  have hw := hw a69 hEa69.symm h70 hEh70.symm
  obtain ⟨hs73, hw⟩ := hw
  refine q_putR fwX10_51 rfl hs73 eX10_init_105 ?_
  generalize hEh74 : sR h70 x0 24 (some a69) = h74
  have hw := hw h74 hEh74.symm
  refine q_aload_nr eX10_init_108 rfl ?_
  refine q_ldc coX10_54 eX10_init_109 ?_
  obtain ⟨hc77, hc78, hw⟩ := hw
  refine q_bud (b' := (b - 13) + 1) (t' := (t - 70652) + 59049) (by omega) (by omega) ?_
  refine q_newa (k := 2) (Or.inl rfl) rfl aC_int (by decide) (by decide) (by decide) eX10_init_111 ?_
  generalize hEa75 : hN h74 = a75
  generalize hEh76 : al h74 (2, 59049) = h76
  have hw := hw a75 hEa75.symm h76 hEh76.symm
  obtain ⟨hs79, hw⟩ := hw
  refine q_putR fwX10_55 rfl hs79 eX10_init_113 ?_
  generalize hEh80 : sR h76 x0 27 (some a75) = h80
  have hw := hw h80 hEh80.symm
  refine q_aload_nr eX10_init_116 rfl ?_
  refine q_bipush (v := nI 64) eX10_init_117 (by decide) ?_
  obtain ⟨hc83, hc84, hw⟩ := hw
  refine q_bud (b' := (b - 14) + 1) (t' := (t - 70716) + 64) (by omega) (by omega) ?_
  refine q_newa (k := 2) (Or.inl rfl) rfl aC_int (by decide) (by decide) (by decide) eX10_init_119 ?_
  generalize hEa81 : hN h80 = a81
  generalize hEh82 : al h80 (2, 64) = h82
  have hw := hw a81 hEa81.symm h82 hEh82.symm
  obtain ⟨hs85, hw⟩ := hw
  refine q_putR fwX10_58 rfl hs85 eX10_init_121 ?_
  generalize hEh86 : sR h82 x0 28 (some a81) = h86
  have hw := hw h86 hEh86.symm
  refine q_aload_nr eX10_init_124 rfl ?_
  refine q_bipush (v := nI 10) eX10_init_125 (by decide) ?_
  obtain ⟨hc89, hc90, hw⟩ := hw
  refine q_bud (b' := (b - 15) + 1) (t' := (t - 70726) + 10) (by omega) (by omega) ?_
  refine q_newa (k := 2) (Or.inl rfl) rfl aC_int (by decide) (by decide) (by decide) eX10_init_127 ?_
  generalize hEa87 : hN h86 = a87
  generalize hEh88 : al h86 (2, 10) = h88
  have hw := hw a87 hEa87.symm h88 hEh88.symm
  obtain ⟨hs91, hw⟩ := hw
  refine q_putR fwX10_61 rfl hs91 eX10_init_129 ?_
  generalize hEh92 : sR h88 x0 29 (some a87) = h92
  have hw := hw h92 hEh92.symm
  refine q_aload_nr eX10_init_132 rfl ?_
  refine q_bipush (v := nI 10) eX10_init_133 (by decide) ?_
  obtain ⟨hc95, hc96, hw⟩ := hw
  refine q_bud (b' := (b - 16) + 1) (t' := (t - 70736) + 10) (by omega) (by omega) ?_
  refine q_newa (k := 2) (Or.inl rfl) rfl aC_int (by decide) (by decide) (by decide) eX10_init_135 ?_
  generalize hEa93 : hN h92 = a93
  generalize hEh94 : al h92 (2, 10) = h94
  have hw := hw a93 hEa93.symm h94 hEh94.symm
  obtain ⟨hs97, hw⟩ := hw
  refine q_putR fwX10_64 rfl hs97 eX10_init_137 ?_
  generalize hEh98 : sR h94 x0 30 (some a93) = h98
  have hw := hw h98 hEh98.symm
  refine q_aload_nr eX10_init_140 rfl ?_
  refine q_sipush (v := nI 378) eX10_init_141 (by decide) ?_
  obtain ⟨hc101, hc102, hw⟩ := hw
  refine q_bud (b' := (b - 17) + 1) (t' := (t - 71114) + 378) (by omega) (by omega) ?_
  refine q_newa (k := 2) (Or.inl rfl) rfl aC_int (by decide) (by decide) (by decide) eX10_init_144 ?_
  generalize hEa99 : hN h98 = a99
  generalize hEh100 : al h98 (2, 378) = h100
  have hw := hw a99 hEa99.symm h100 hEh100.symm
  obtain ⟨hs103, hw⟩ := hw
  refine q_putR fwX10_67 rfl hs103 eX10_init_146 ?_
  generalize hEh104 : sR h100 x0 31 (some a99) = h104
  have hw := hw h104 hEh104.symm
  refine q_aload_nr eX10_init_149 rfl ?_
  refine q_iconst (v := nI 4) eX10_init_150 (by decide) ?_
  obtain ⟨hc107, hc108, hw⟩ := hw
  refine q_bud (b' := (b - 18) + 1) (t' := (t - 71118) + 4) (by omega) (by omega) ?_
  refine q_newa (k := 2) (Or.inl rfl) rfl aC_int (by decide) (by decide) (by decide) eX10_init_151 ?_
  generalize hEa105 : hN h104 = a105
  generalize hEh106 : al h104 (2, 4) = h106
  have hw := hw a105 hEa105.symm h106 hEh106.symm
  refine q_dup eX10_init_153 rfl ?_
  refine q_iconst (v := nI 0) eX10_init_154 (by decide) ?_
  refine q_iconst (v := (-1 : Int32)) eX10_init_155 (by decide) ?_
  obtain ⟨n110, hs109, hw⟩ := hw
  obtain ⟨hi111, hw⟩ := hw
  refine q_iast hs109 hi111 eX10_init_156 ?_
  generalize hEh112 : sI h106 a105 (nI 0).toNatClampNeg ((-1 : Int32)) = h112
  have hw := hw h112 hEh112.symm
  refine q_dup eX10_init_157 rfl ?_
  refine q_iconst (v := nI 1) eX10_init_158 (by decide) ?_
  refine q_iconst (v := (-1 : Int32)) eX10_init_159 (by decide) ?_
  obtain ⟨n114, hs113, hw⟩ := hw
  obtain ⟨hi115, hw⟩ := hw
  refine q_iast hs113 hi115 eX10_init_160 ?_
  generalize hEh116 : sI h112 a105 (nI 1).toNatClampNeg ((-1 : Int32)) = h116
  have hw := hw h116 hEh116.symm
  refine q_dup eX10_init_161 rfl ?_
  refine q_iconst (v := nI 2) eX10_init_162 (by decide) ?_
  refine q_iconst (v := (-1 : Int32)) eX10_init_163 (by decide) ?_
  obtain ⟨n118, hs117, hw⟩ := hw
  obtain ⟨hi119, hw⟩ := hw
  refine q_iast hs117 hi119 eX10_init_164 ?_
  generalize hEh120 : sI h116 a105 (nI 2).toNatClampNeg ((-1 : Int32)) = h120
  have hw := hw h120 hEh120.symm
  refine q_dup eX10_init_165 rfl ?_
  refine q_iconst (v := nI 3) eX10_init_166 (by decide) ?_
  refine q_iconst (v := (-1 : Int32)) eX10_init_167 (by decide) ?_
  obtain ⟨n122, hs121, hw⟩ := hw
  obtain ⟨hi123, hw⟩ := hw
  refine q_iast hs121 hi123 eX10_init_168 ?_
  generalize hEh124 : sI h120 a105 (nI 3).toNatClampNeg ((-1 : Int32)) = h124
  have hw := hw h124 hEh124.symm
  obtain ⟨hs125, hw⟩ := hw
  refine q_putR fwX10_70 rfl hs125 eX10_init_169 ?_
  generalize hEh126 : sR h124 x0 34 (some a105) = h126
  have hw := hw h126 hEh126.symm
  refine q_aload_nr eX10_init_172 rfl ?_
  refine q_iconst (v := nI 4) eX10_init_173 (by decide) ?_
  obtain ⟨hc129, hc130, hw⟩ := hw
  refine q_bud (b' := (b - 19) + 1) (t' := (t - 71122) + 4) (by omega) (by omega) ?_
  refine q_newa (k := 2) (Or.inl rfl) rfl aC_int (by decide) (by decide) (by decide) eX10_init_174 ?_
  generalize hEa127 : hN h126 = a127
  generalize hEh128 : al h126 (2, 4) = h128
  have hw := hw a127 hEa127.symm h128 hEh128.symm
  obtain ⟨hs131, hw⟩ := hw
  refine q_putR fwX10_73 rfl hs131 eX10_init_176 ?_
  generalize hEh132 : sR h128 x0 35 (some a127) = h132
  have hw := hw h132 hEh132.symm
  refine q_aload_nr eX10_init_179 rfl ?_
  refine q_sipush (v := nI 160) eX10_init_180 (by decide) ?_
  obtain ⟨hc135, hc136, hw⟩ := hw
  refine q_bud (b' := (b - 20) + 1) (t' := (t - 71282) + 160) (by omega) (by omega) ?_
  refine q_newa (k := 3) (Or.inr (Or.inl rfl)) rfl aC_long (by decide) (by decide) (by decide) eX10_init_183 ?_
  generalize hEa133 : hN h132 = a133
  generalize hEh134 : al h132 (3, 160) = h134
  have hw := hw a133 hEa133.symm h134 hEh134.symm
  obtain ⟨hs137, hw⟩ := hw
  refine q_putR fwX10_76 rfl hs137 eX10_init_185 ?_
  generalize hEh138 : sR h134 x0 36 (some a133) = h138
  have hw := hw h138 hEh138.symm
  refine q_aload_nr eX10_init_188 rfl ?_
  obtain ⟨hs139, hw⟩ := hw
  obtain ⟨a140, hr141, hw⟩ := hw
  refine q_getR flX10_13 rfl hs139 hr141 eX10_init_189 ?_
  refine q_bud (b' := (b - 20) + 0) (t' := (t - 71282) + 0) (Nat.add_zero _) (Nat.add_zero _) ?_
  refine q_callS (b := (b - 20)) (t := (t - 71282)) (gX10_plain _ _ _ hw) mlX10_80 kX10_plain sX10_plain rfl (by decide) rfl (Nat.le_of_ble_eq_true rfl) eX10_init_192 (kV fun h143 hw => ?_)
  refine q_aload_nr eX10_init_195 rfl ?_
  obtain ⟨hs144, hw⟩ := hw
  obtain ⟨a145, hr146, hw⟩ := hw
  refine q_getR flX10_13 rfl hs144 hr146 eX10_init_196 ?_
  refine q_iconst (v := nI 1) eX10_init_199 (by decide) ?_
  refine q_iconst (v := nI 1) eX10_init_200 (by decide) ?_
  obtain ⟨n148, hs147, hw⟩ := hw
  obtain ⟨hi149, hw⟩ := hw
  refine q_iast hs147 hi149 eX10_init_201 ?_
  generalize hEh150 : sI h143 a145 (nI 1).toNatClampNeg (nI 1) = h150
  have hw := hw h150 hEh150.symm
  refine q_aload_nr eX10_init_202 rfl ?_
  obtain ⟨hs151, hw⟩ := hw
  refine q_bud (b' := (b - 20) + 0) (t' := (t - 71282) + 0) (Nat.add_zero _) (Nat.add_zero _) ?_
  refine q_callV (b := (b - 20)) (t := (t - 71282)) (gX10_laysRings _ _ _ hw) mlX10_84 kX10_laysRings vX10_laysRings rfl hs151 ⟨rfl, rfl⟩ (by decide) rfl (Nat.le_of_ble_eq_true rfl) eX10_init_203 (kV fun h153 hw => ?_)
  exact q_retV rfl eX10_init_206 ⟨rfl, hw⟩
def wX10_feed_77 (Q : Int32 → MH → Prop) (K24 : Nat → Int32 → Int32 → Int32 → Int32 → Int32 → Int32 → MH → Prop) (x0 : Nat) (x1 : Int32) (x2 : Int32) (x3 : Int32) (x4 : Int32) (x5 : Int32) (x6 : Int32) (s0 : Int32) (h : MH) : Prop := hS h x0 = (1, 10) ∧ ∃ a6, hR h x0 3 = some a6 ∧ ¬ nI 4 = 0 ∧ ∃ n10, hS h a6 = (2, n10) ∧ vp_in (hI h x0 5) n10 ∧ ∀ h12, h12 = sI h a6 (hI h x0 5).toNatClampNeg (((s0 >>> ((nI 24 - (nI 8 * (x6 - x6 / nI 4 * nI 4))) &&& 31)) &&& nI 255)) → ∀ h13, h13 = sI h12 x0 5 ((hI h12 x0 5 + nI 1)) → K24 x0 x1 x2 x3 x4 x5 (x6 + nI 1) h13
set_option maxHeartbeats 4000000 in
set_option maxRecDepth 100000 in
theorem tX10_feed_77 {Q : Int32 → MH → Prop} {K24 : Nat → Int32 → Int32 → Int32 → Int32 → Int32 → Int32 → MH → Prop} (hK24 : ∀ (h : MH) (x0 : Nat) (x1 : Int32) (x2 : Int32) (x3 : Int32) (x4 : Int32) (x5 : Int32) (x6 : Int32), K24 x0 x1 x2 x3 x4 x5 x6 h → Wm MX10_feed 0 0 0 24 [some (.ref (x0)), some (.int (x1)), some (.int (x2)), some (.int (x3)), some (.int (x4)), some (.int (x5)), some (.int (x6)), none] [] h (pI Q)) (h : MH) (x0 : Nat) (x1 : Int32) (x2 : Int32) (x3 : Int32) (x4 : Int32) (x5 : Int32) (x6 : Int32) (s0 : Int32) (hw : wX10_feed_77 Q K24 x0 x1 x2 x3 x4 x5 x6 s0 h) : Wm MX10_feed 0 0 0 77 [some (.ref (x0)), some (.int (x1)), some (.int (x2)), some (.int (x3)), some (.int (x4)), some (.int (x5)), some (.int (x6)), none] [.int (s0)] h (pI Q) := by
  unfold wX10_feed_77 at hw
  refine x_istore (ls' := [_, _, _, _, _, _, _, _]) eX10_feed_77 (by decide) rfl rfl ?_
  refine q_aload_nr eX10_feed_79 rfl ?_
  obtain ⟨hs5, hw⟩ := hw
  obtain ⟨a6, hr7, hw⟩ := hw
  refine q_getR flX10_21 rfl hs5 hr7 eX10_feed_80 ?_
  refine q_aload_nr eX10_feed_83 rfl ?_
  refine q_getI flX10_87 rfl hs5 eX10_feed_84 ?_
  refine q_iload eX10_feed_87 rfl ?_
  refine q_bipush (v := nI 24) eX10_feed_89 (by decide) ?_
  refine q_bipush (v := nI 8) eX10_feed_91 (by decide) ?_
  refine q_iload eX10_feed_93 rfl ?_
  refine q_iconst (v := nI 4) eX10_feed_95 (by decide) ?_
  obtain ⟨hz8, hw⟩ := hw
  refine q_irem eX10_feed_96 hz8 ?_
  refine q_imul eX10_feed_97 ?_
  refine q_isub eX10_feed_98 ?_
  refine q_ishr eX10_feed_99 ?_
  refine q_sipush (v := nI 255) eX10_feed_100 (by decide) ?_
  refine q_iand eX10_feed_103 ?_
  obtain ⟨n10, hs9, hw⟩ := hw
  obtain ⟨hi11, hw⟩ := hw
  have hw := hw _ rfl
  refine q_iast hs9 hi11 eX10_feed_104 ?_
  refine q_aload_nr eX10_feed_105 rfl ?_
  refine q_dup eX10_feed_106 rfl ?_
  refine q_getI flX10_87 rfl hs5 eX10_feed_107 ?_
  refine q_iconst (v := nI 1) eX10_feed_110 (by decide) ?_
  refine q_iadd eX10_feed_111 ?_
  have hw := hw _ rfl
  refine q_putI (fwX10_87 _) rfl hs5 eX10_feed_112 ?_
  refine x_iinc (v := (x6 + nI 1)) (ls' := [_, _, _, _, _, _, _, _]) eX10_feed_115 rfl rfl rfl rfl ?_
  refine q_goto (tgt := 24) eX10_feed_118 (by decide) ?_
  refine q_le (ls' := [some _, some _, some _, some _, some _, some _, some _, none]) ⟨rfl, rfl, rfl, rfl, rfl, rfl, rfl, trivial⟩ ?_
  exact hK24 _ _ _ _ _ _ _ _ hw
def wX10_feed_24 (Q : Int32 → MH → Prop) : Nat → Nat → Int32 → Int32 → Int32 → Int32 → Int32 → Int32 → MH → Prop
  | 0, _, _, _, _, _, _, _, _ => False
  | n + 1, x0, x1, x2, x3, x4, x5, x6, h => (nI 20 ≤ x6 → hS h x0 = (1, 10) ∧ Q (hI h x0 5) h) ∧ (¬ (nI 20 ≤ x6) → wX10_feed_77 Q (wX10_feed_24 Q n) x0 x1 x2 x3 x4 x5 x6 (if nI 4 ≤ x6 then (if nI 8 ≤ x6 then (if nI 12 ≤ x6 then (if nI 16 ≤ x6 then x5 else x4) else x3) else x2) else x1) h)
set_option maxHeartbeats 4000000 in
set_option maxRecDepth 100000 in
theorem tX10_feed_24 {Q : Int32 → MH → Prop} : ∀ (n : Nat) (h : MH) (x0 : Nat) (x1 : Int32) (x2 : Int32) (x3 : Int32) (x4 : Int32) (x5 : Int32) (x6 : Int32), wX10_feed_24 Q n x0 x1 x2 x3 x4 x5 x6 h → Wm MX10_feed 0 0 0 24 [some (.ref (x0)), some (.int (x1)), some (.int (x2)), some (.int (x3)), some (.int (x4)), some (.int (x5)), some (.int (x6)), none] [] h (pI Q) := by
  intro n
  induction n with
  | zero => intro h x0 x1 x2 x3 x4 x5 x6 hw; exact hw.elim
  | succ n ih =>
    intro h x0 x1 x2 x3 x4 x5 x6 hw
    unfold wX10_feed_24 at hw
    refine q_iload eX10_feed_24 rfl ?_
    refine q_bipush (v := nI 20) eX10_feed_26 (by decide) ?_
    obtain ⟨hw1, hw2⟩ := hw
    refine q_icmp_ge (tgt := 121) eX10_feed_28 (by decide) (fun c => ?_) (fun c => ?_)
    · have hw := hw1 c
      refine q_aload_nr eX10_feed_121 rfl ?_
      obtain ⟨hs3, hw⟩ := hw
      refine q_getI flX10_87 rfl hs3 eX10_feed_122 ?_
      exact q_ret rfl eX10_feed_125 ⟨_, rfl, hw⟩
    · have hw := hw2 c
      refine q_iload eX10_feed_31 rfl ?_
      refine q_iconst (v := nI 4) eX10_feed_33 (by decide) ?_
      have hj14 : Wm MX10_feed 0 0 0 77 [some (.ref (x0)), some (.int (x1)), some (.int (x2)), some (.int (x3)), some (.int (x4)), some (.int (x5)), some (.int (x6)), none] [.int ((if nI 4 ≤ x6 then (if nI 8 ≤ x6 then (if nI 12 ≤ x6 then (if nI 16 ≤ x6 then x5 else x4) else x3) else x2) else x1))] h (pI Q) := by
        refine q_le (ls' := [some _, some _, some _, some _, some _, some _, some _, none]) ⟨rfl, rfl, rfl, rfl, rfl, rfl, rfl, trivial⟩ ?_
        exact tX10_feed_77 ih _ _ _ _ _ _ _ _ _ hw
      refine q_icmp_ge (tgt := 41) eX10_feed_34 (by decide) (fun c => ?_) (fun c => ?_)
      · refine q_iload eX10_feed_41 rfl ?_
        refine q_bipush (v := nI 8) eX10_feed_43 (by decide) ?_
        have hj15 : Wm MX10_feed 0 0 0 77 [some (.ref (x0)), some (.int (x1)), some (.int (x2)), some (.int (x3)), some (.int (x4)), some (.int (x5)), some (.int (x6)), none] [.int ((if nI 8 ≤ x6 then (if nI 12 ≤ x6 then (if nI 16 ≤ x6 then x5 else x4) else x3) else x2))] h (pI Q) := by
          rw [if_pos c] at hj14
          exact hj14
        refine q_icmp_ge (tgt := 52) eX10_feed_45 (by decide) (fun c => ?_) (fun c => ?_)
        · refine q_iload eX10_feed_52 rfl ?_
          refine q_bipush (v := nI 12) eX10_feed_54 (by decide) ?_
          have hj16 : Wm MX10_feed 0 0 0 77 [some (.ref (x0)), some (.int (x1)), some (.int (x2)), some (.int (x3)), some (.int (x4)), some (.int (x5)), some (.int (x6)), none] [.int ((if nI 12 ≤ x6 then (if nI 16 ≤ x6 then x5 else x4) else x3))] h (pI Q) := by
            rw [if_pos c] at hj15
            exact hj15
          refine q_icmp_ge (tgt := 63) eX10_feed_56 (by decide) (fun c => ?_) (fun c => ?_)
          · refine q_iload eX10_feed_63 rfl ?_
            refine q_bipush (v := nI 16) eX10_feed_65 (by decide) ?_
            have hj17 : Wm MX10_feed 0 0 0 77 [some (.ref (x0)), some (.int (x1)), some (.int (x2)), some (.int (x3)), some (.int (x4)), some (.int (x5)), some (.int (x6)), none] [.int ((if nI 16 ≤ x6 then x5 else x4))] h (pI Q) := by
              rw [if_pos c] at hj16
              exact hj16
            refine q_icmp_ge (tgt := 75) eX10_feed_67 (by decide) (fun c => ?_) (fun c => ?_)
            · refine q_iload eX10_feed_75 rfl ?_
              rw [if_pos c] at hj17
              exact hj17
            · refine q_iload eX10_feed_70 rfl ?_
              refine q_goto (tgt := 77) eX10_feed_72 (by decide) ?_
              rw [if_neg c] at hj17
              exact hj17
          · refine q_iload_n eX10_feed_59 rfl ?_
            refine q_goto (tgt := 77) eX10_feed_60 (by decide) ?_
            rw [if_neg c] at hj16
            exact hj16
        · refine q_iload_n eX10_feed_48 rfl ?_
          refine q_goto (tgt := 77) eX10_feed_49 (by decide) ?_
          rw [if_neg c] at hj15
          exact hj15
      · refine q_iload_n eX10_feed_37 rfl ?_
        refine q_goto (tgt := 77) eX10_feed_38 (by decide) ?_
        rw [if_neg c] at hj14
        exact hj14
def wX10_feed (x0 : Nat) (x1 : Int32) (x2 : Int32) (x3 : Int32) (x4 : Int32) (x5 : Int32) (h : MH) (Q : Int32 → MH → Prop) : Prop := hS h x0 = (1, 10) ∧ ∀ h2, h2 = sI h x0 0 (nI 0) → ((hI h2 x0 5 + nI 20) ≤ nI 900 → ∃ m18, wX10_feed_24 Q m18 x0 x1 x2 x3 x4 x5 (nI 0) h2) ∧ (¬ ((hI h2 x0 5 + nI 20) ≤ nI 900) → Q ((-5 : Int32)) h2)
set_option maxHeartbeats 4000000 in
set_option maxRecDepth 100000 in
theorem gX10_feed (x0 : Nat) (x1 : Int32) (x2 : Int32) (x3 : Int32) (x4 : Int32) (x5 : Int32) (h : MH) (Q : Int32 → MH → Prop) (hw : wX10_feed x0 x1 x2 x3 x4 x5 h Q) : Cm MX10_feed 0 0 0 [.ref (x0), .int (x1), .int (x2), .int (x3), .int (x4), .int (x5)] h (pI Q) := by
  refine cm_of [some (.ref (x0)), some (.int (x1)), some (.int (x2)), some (.int (x3)), some (.int (x4)), some (.int (x5)), none, none] rfl pnX10 (Nat.le_of_ble_eq_true rfl) rfl ?_
  unfold wX10_feed at hw
  refine q_aload_nr eX10_feed_0 rfl ?_
  refine q_iconst (v := nI 0) eX10_feed_1 (by decide) ?_
  obtain ⟨hs1, hw⟩ := hw
  have hw := hw _ rfl
  refine q_putI (fwX10_1 _) rfl hs1 eX10_feed_2 ?_
  refine q_aload_nr eX10_feed_5 rfl ?_
  refine q_getI flX10_87 rfl hs1 eX10_feed_6 ?_
  refine q_bipush (v := nI 20) eX10_feed_9 (by decide) ?_
  refine q_iadd eX10_feed_11 ?_
  refine q_sipush (v := nI 900) eX10_feed_12 (by decide) ?_
  obtain ⟨hw1, hw2⟩ := hw
  refine q_icmp_le (tgt := 21) eX10_feed_15 (by decide) (fun c => ?_) (fun c => ?_)
  · have hw := hw1 c
    refine q_iconst (v := nI 0) eX10_feed_21 (by decide) ?_
    refine x_istore (ls' := [_, _, _, _, _, _, _, _]) eX10_feed_22 (by decide) rfl rfl ?_
    refine q_le (ls' := [some _, some _, some _, some _, some _, some _, some _, none]) ⟨rfl, rfl, rfl, rfl, rfl, rfl, rfl, trivial⟩ ?_
    obtain ⟨m18, hw⟩ := hw
    exact tX10_feed_24 m18 _ _ _ _ _ _ _ _ hw
  · have hw := hw2 c
    refine q_bipush (v := (-5 : Int32)) eX10_feed_18 (by decide) ?_
    exact q_ret rfl eX10_feed_20 ⟨_, rfl, hw⟩
def wX10_see (x0 : Nat) (x1 : Int32) (h : MH) (Q : Int32 → MH → Prop) : Prop := hS h x0 = (1, 10) ∧ (hI h x0 8 ≤ x1 → Q ((-1 : Int32)) h) ∧ (¬ (hI h x0 8 ≤ x1) → ∃ a2, hR h x0 3 = some a2 ∧ ∃ n5, hS h a2 = (2, n5) ∧ vp_in (x1) n5 ∧ Q (hI h a2 (x1).toNatClampNeg) h)
set_option maxHeartbeats 4000000 in
set_option maxRecDepth 100000 in
theorem gX10_see (x0 : Nat) (x1 : Int32) (h : MH) (Q : Int32 → MH → Prop) (hw : wX10_see x0 x1 h Q) : Cm MX10_see 0 0 0 [.ref (x0), .int (x1)] h (pI Q) := by
  refine cm_of [some (.ref (x0)), some (.int (x1))] rfl pnX10 (Nat.le_of_ble_eq_true rfl) rfl ?_
  unfold wX10_see at hw
  refine q_iload_n eX10_see_0 rfl ?_
  refine q_aload_nr eX10_see_1 rfl ?_
  obtain ⟨hs1, hw⟩ := hw
  refine q_getI flX10_90 rfl hs1 eX10_see_2 ?_
  obtain ⟨hw1, hw2⟩ := hw
  refine q_icmp_ge (tgt := 17) eX10_see_5 (by decide) (fun c => ?_) (fun c => ?_)
  · have hw := hw1 c
    refine q_iconst (v := (-1 : Int32)) eX10_see_17 (by decide) ?_
    exact q_ret rfl eX10_see_18 ⟨_, rfl, hw⟩
  · have hw := hw2 c
    refine q_aload_nr eX10_see_8 rfl ?_
    obtain ⟨a2, hr3, hw⟩ := hw
    refine q_getR flX10_21 rfl hs1 hr3 eX10_see_9 ?_
    refine q_iload_n eX10_see_12 rfl ?_
    obtain ⟨n5, hs4, hw⟩ := hw
    obtain ⟨hi6, hw⟩ := hw
    refine q_iald hs4 hi6 eX10_see_13 ?_
    refine q_goto (tgt := 18) eX10_see_14 (by decide) ?_
    exact q_ret rfl eX10_see_18 ⟨_, rfl, hw⟩
def wX10_isSmall (x0 : Int32) (h : MH) (Q : Int32 → MH → Prop) : Prop := ((if x0 < nI 97 then nI 0 else (if nI 122 < x0 then nI 0 else nI 1)) = 0 ∨ (if x0 < nI 97 then nI 0 else (if nI 122 < x0 then nI 0 else nI 1)) = 1) ∧ Q ((if x0 < nI 97 then nI 0 else (if nI 122 < x0 then nI 0 else nI 1))) h
set_option maxHeartbeats 4000000 in
set_option maxRecDepth 100000 in
theorem gX10_isSmall (x0 : Int32) (h : MH) (Q : Int32 → MH → Prop) (hw : wX10_isSmall x0 h Q) : Cm MX10_isSmall 0 0 0 [.int (x0)] h (pI Q) := by
  refine cm_of [some (.int (x0))] rfl pnX10 (Nat.le_of_ble_eq_true rfl) rfl ?_
  unfold wX10_isSmall at hw
  refine q_iload_n eX10_isSmall_0 rfl ?_
  refine q_bipush (v := nI 97) eX10_isSmall_1 (by decide) ?_
  have hj3 : Wm MX10_isSmall 0 0 0 17 [some (.int (x0))] [.int ((if x0 < nI 97 then nI 0 else (if nI 122 < x0 then nI 0 else nI 1)))] h (pI Q) := by
    obtain ⟨hz2, hw⟩ := hw
    exact q_retZ rfl hz2 eX10_isSmall_17 ⟨_, rfl, hw⟩
  refine q_icmp_lt (tgt := 16) eX10_isSmall_3 (by decide) (fun c => ?_) (fun c => ?_)
  · refine q_iconst (v := nI 0) eX10_isSmall_16 (by decide) ?_
    rw [if_pos c] at hj3
    exact hj3
  · refine q_iload_n eX10_isSmall_6 rfl ?_
    refine q_bipush (v := nI 122) eX10_isSmall_7 (by decide) ?_
    have hj4 : Wm MX10_isSmall 0 0 0 17 [some (.int (x0))] [.int ((if nI 122 < x0 then nI 0 else nI 1))] h (pI Q) := by
      rw [if_neg c] at hj3
      exact hj3
    refine q_icmp_gt (tgt := 16) eX10_isSmall_9 (by decide) (fun c => ?_) (fun c => ?_)
    · refine q_iconst (v := nI 0) eX10_isSmall_16 (by decide) ?_
      rw [if_pos c] at hj4
      exact hj4
    · refine q_iconst (v := nI 1) eX10_isSmall_12 (by decide) ?_
      refine q_goto (tgt := 17) eX10_isSmall_13 (by decide) ?_
      rw [if_neg c] at hj4
      exact hj4
def wX10_isDigit (x0 : Int32) (h : MH) (Q : Int32 → MH → Prop) : Prop := ((if x0 < nI 48 then nI 0 else (if nI 57 < x0 then nI 0 else nI 1)) = 0 ∨ (if x0 < nI 48 then nI 0 else (if nI 57 < x0 then nI 0 else nI 1)) = 1) ∧ Q ((if x0 < nI 48 then nI 0 else (if nI 57 < x0 then nI 0 else nI 1))) h
set_option maxHeartbeats 4000000 in
set_option maxRecDepth 100000 in
theorem gX10_isDigit (x0 : Int32) (h : MH) (Q : Int32 → MH → Prop) (hw : wX10_isDigit x0 h Q) : Cm MX10_isDigit 0 0 0 [.int (x0)] h (pI Q) := by
  refine cm_of [some (.int (x0))] rfl pnX10 (Nat.le_of_ble_eq_true rfl) rfl ?_
  unfold wX10_isDigit at hw
  refine q_iload_n eX10_isDigit_0 rfl ?_
  refine q_bipush (v := nI 48) eX10_isDigit_1 (by decide) ?_
  have hj3 : Wm MX10_isDigit 0 0 0 17 [some (.int (x0))] [.int ((if x0 < nI 48 then nI 0 else (if nI 57 < x0 then nI 0 else nI 1)))] h (pI Q) := by
    obtain ⟨hz2, hw⟩ := hw
    exact q_retZ rfl hz2 eX10_isDigit_17 ⟨_, rfl, hw⟩
  refine q_icmp_lt (tgt := 16) eX10_isDigit_3 (by decide) (fun c => ?_) (fun c => ?_)
  · refine q_iconst (v := nI 0) eX10_isDigit_16 (by decide) ?_
    rw [if_pos c] at hj3
    exact hj3
  · refine q_iload_n eX10_isDigit_6 rfl ?_
    refine q_bipush (v := nI 57) eX10_isDigit_7 (by decide) ?_
    have hj4 : Wm MX10_isDigit 0 0 0 17 [some (.int (x0))] [.int ((if nI 57 < x0 then nI 0 else nI 1))] h (pI Q) := by
      rw [if_neg c] at hj3
      exact hj3
    refine q_icmp_gt (tgt := 16) eX10_isDigit_9 (by decide) (fun c => ?_) (fun c => ?_)
    · refine q_iconst (v := nI 0) eX10_isDigit_16 (by decide) ?_
      rw [if_pos c] at hj4
      exact hj4
    · refine q_iconst (v := nI 1) eX10_isDigit_12 (by decide) ?_
      refine q_goto (tgt := 17) eX10_isDigit_13 (by decide) ?_
      rw [if_neg c] at hj4
      exact hj4
def wX10_keyAt_97 (Q : Int32 → MH → Prop) (K4 : Nat → Int32 → Int32 → MH → Prop) : Nat → Nat → Int32 → Int32 → MH → Prop
  | 0, _, _, _, _ => False
  | n + 1, x0, x1, x2, h => 32 < 33 ∧ vp_in (x2) (strLen.getD 32 0) ∧ (strCh 32 (x2).toNatClampNeg = nI 32 → K4 x0 (x1 + nI 1) (x2 + nI 1) h) ∧ (¬ (strCh 32 (x2).toNatClampNeg = nI 32) → wX10_keyAt_97 Q K4 n x0 x1 (x2 + nI 1) h)
set_option maxHeartbeats 4000000 in
set_option maxRecDepth 100000 in
theorem tX10_keyAt_97 {Q : Int32 → MH → Prop} {K4 : Nat → Int32 → Int32 → MH → Prop} (hK4 : ∀ (h : MH) (x0 : Nat) (x1 : Int32) (x2 : Int32), K4 x0 x1 x2 h → Wm MX10_keyAt 4 0 0 4 [some (.ref (x0)), some (.int (x1)), some (.int (x2)), none] [] h (pI Q)) : ∀ (n : Nat) (h : MH) (x0 : Nat) (x1 : Int32) (x2 : Int32), wX10_keyAt_97 Q K4 n x0 x1 x2 h → Wm MX10_keyAt 4 0 0 97 [some (.ref (x0)), some (.int (x1)), some (.int (x2)), none] [] h (pI Q) := by
  intro n
  induction n with
  | zero => intro h x0 x1 x2 hw; exact hw.elim
  | succ n ih =>
    intro h x0 x1 x2 hw
    unfold wX10_keyAt_97 at hw
    refine q_ldcS (x := 32) (tx := " net nodes rate link long work costs may if then else end from to links chords and or not ") (by decide +kernel) (by decide) eX10_keyAt_97 ?_
    refine q_iload_n eX10_keyAt_99 rfl ?_
    obtain ⟨hx6, hw⟩ := hw
    obtain ⟨hi7, hw⟩ := hw
    refine q_callVS (b := 0) (t := 0) hx6 (cS_charAt hx6 hi7) mlX10_101 kJ0_charAt_5068e vJ0_charAt_5068e rfl rfl (by decide) rfl (Nat.le_of_ble_eq_true rfl) eX10_keyAt_100 (kI fun r h2 hq => ?_)
    obtain ⟨rfl, rfl⟩ := hq
    refine q_bipush (v := nI 32) eX10_keyAt_103 (by decide) ?_
    obtain ⟨hw1, hw2⟩ := hw
    refine q_icmp_eq (tgt := 114) eX10_keyAt_105 (by decide) (fun c => ?_) (fun c => ?_)
    · have hw := hw1 c
      refine x_iinc (v := (x2 + nI 1)) (ls' := [_, _, _, _]) eX10_keyAt_114 rfl rfl rfl rfl ?_
      refine x_iinc (v := (x1 + nI 1)) (ls' := [_, _, _, _]) eX10_keyAt_117 rfl rfl rfl rfl ?_
      refine q_goto (tgt := 4) eX10_keyAt_120 (by decide) ?_
      refine q_le (ls' := [some _, some _, some _, none]) ⟨rfl, rfl, rfl, trivial⟩ ?_
      exact hK4 _ _ _ _ hw
    · have hw := hw2 c
      refine x_iinc (v := (x2 + nI 1)) (ls' := [_, _, _, _]) eX10_keyAt_108 rfl rfl rfl rfl ?_
      refine q_goto (tgt := 97) eX10_keyAt_111 (by decide) ?_
      refine q_le (ls' := [some _, some _, some _, none]) ⟨rfl, rfl, rfl, trivial⟩ ?_
      exact ih _ _ _ _ hw
def wX10_keyAt_69 (Q : Int32 → MH → Prop) (K4 : Nat → Int32 → Int32 → MH → Prop) (x0 : Nat) (x1 : Int32) (x2 : Int32) (x3 : Int32) (h : MH) : Prop := 32 < 33 ∧ vp_in ((x2 + x3)) (strLen.getD 32 0) ∧ (¬ (strCh 32 ((x2 + x3)).toNatClampNeg = nI 32) → ∃ m8, wX10_keyAt_97 Q K4 m8 x0 x1 x2 h) ∧ (strCh 32 ((x2 + x3)).toNatClampNeg = nI 32 → hS h x0 = (1, 10) ∧ (¬ ((hI h x0 6 + x3) = hI h x0 7) → ∃ m10, wX10_keyAt_97 Q K4 m10 x0 x1 x2 h) ∧ ((hI h x0 6 + x3) = hI h x0 7 → Q (x1) h))
set_option maxHeartbeats 4000000 in
set_option maxRecDepth 100000 in
theorem tX10_keyAt_69 {Q : Int32 → MH → Prop} {K4 : Nat → Int32 → Int32 → MH → Prop} (hK4 : ∀ (h : MH) (x0 : Nat) (x1 : Int32) (x2 : Int32), K4 x0 x1 x2 h → Wm MX10_keyAt 4 0 0 4 [some (.ref (x0)), some (.int (x1)), some (.int (x2)), none] [] h (pI Q)) (h : MH) (x0 : Nat) (x1 : Int32) (x2 : Int32) (x3 : Int32) (hw : wX10_keyAt_69 Q K4 x0 x1 x2 x3 h) : Wm MX10_keyAt 4 0 0 69 [some (.ref (x0)), some (.int (x1)), some (.int (x2)), some (.int (x3))] [] h (pI Q) := by
  unfold wX10_keyAt_69 at hw
  refine q_ldcS (x := 32) (tx := " net nodes rate link long work costs may if then else end from to links chords and or not ") (by decide +kernel) (by decide) eX10_keyAt_69 ?_
  refine q_iload_n eX10_keyAt_71 rfl ?_
  refine q_iload_n eX10_keyAt_72 rfl ?_
  refine q_iadd eX10_keyAt_73 ?_
  obtain ⟨hx4, hw⟩ := hw
  obtain ⟨hi5, hw⟩ := hw
  refine q_callVS (b := 0) (t := 0) hx4 (cS_charAt hx4 hi5) mlX10_101 kJ0_charAt_5068e vJ0_charAt_5068e rfl rfl (by decide) rfl (Nat.le_of_ble_eq_true rfl) eX10_keyAt_74 (kI fun r h2 hq => ?_)
  obtain ⟨rfl, rfl⟩ := hq
  refine q_bipush (v := nI 32) eX10_keyAt_77 (by decide) ?_
  obtain ⟨hw1, hw2⟩ := hw
  refine q_icmp_ne (tgt := 97) eX10_keyAt_79 (by decide) (fun c => ?_) (fun c => ?_)
  · have hw := hw1 c
    refine q_le (ls' := [some _, some _, some _, none]) ⟨rfl, rfl, rfl, trivial⟩ ?_
    obtain ⟨m8, hw⟩ := hw
    exact tX10_keyAt_97 hK4 m8 _ _ _ _ hw
  · have hw := hw2 c
    refine q_aload_nr eX10_keyAt_82 rfl ?_
    obtain ⟨hs9, hw⟩ := hw
    refine q_getI flX10_105 rfl hs9 eX10_keyAt_83 ?_
    refine q_iload_n eX10_keyAt_86 rfl ?_
    refine q_iadd eX10_keyAt_87 ?_
    refine q_aload_nr eX10_keyAt_88 rfl ?_
    refine q_getI flX10_108 rfl hs9 eX10_keyAt_89 ?_
    obtain ⟨hw1, hw2⟩ := hw
    refine q_icmp_ne (tgt := 97) eX10_keyAt_92 (by decide) (fun c => ?_) (fun c => ?_)
    · have hw := hw1 c
      refine q_le (ls' := [some _, some _, some _, none]) ⟨rfl, rfl, rfl, trivial⟩ ?_
      obtain ⟨m10, hw⟩ := hw
      exact tX10_keyAt_97 hK4 m10 _ _ _ _ hw
    · have hw := hw2 c
      refine q_iload_n eX10_keyAt_95 rfl ?_
      exact q_ret rfl eX10_keyAt_96 ⟨_, rfl, hw⟩
def wX10_keyAt_15 (Q : Int32 → MH → Prop) (K4 : Nat → Int32 → Int32 → MH → Prop) : Nat → Nat → Int32 → Int32 → Int32 → MH → Prop
  | 0, _, _, _, _, _ => False
  | n + 1, x0, x1, x2, x3, h => 32 < 33 ∧ vp_in ((x2 + x3)) (strLen.getD 32 0) ∧ (strCh 32 ((x2 + x3)).toNatClampNeg = nI 32 → wX10_keyAt_69 Q K4 x0 x1 x2 x3 h) ∧ (¬ (strCh 32 ((x2 + x3)).toNatClampNeg = nI 32) → hS h x0 = (1, 10) ∧ (hI h x0 7 ≤ (hI h x0 6 + x3) → wX10_keyAt_69 Q K4 x0 x1 x2 x3 h) ∧ (¬ (hI h x0 7 ≤ (hI h x0 6 + x3)) → ∃ a12, hR h x0 3 = some a12 ∧ ∃ n15, hS h a12 = (2, n15) ∧ vp_in ((hI h x0 6 + x3)) n15 ∧ 32 < 33 ∧ vp_in ((x2 + x3)) (strLen.getD 32 0) ∧ (¬ (hI h a12 ((hI h x0 6 + x3)).toNatClampNeg = strCh 32 ((x2 + x3)).toNatClampNeg) → wX10_keyAt_69 Q K4 x0 x1 x2 x3 h) ∧ (hI h a12 ((hI h x0 6 + x3)).toNatClampNeg = strCh 32 ((x2 + x3)).toNatClampNeg → wX10_keyAt_15 Q K4 n x0 x1 x2 (x3 + nI 1) h)))
set_option maxHeartbeats 4000000 in
set_option maxRecDepth 100000 in
theorem tX10_keyAt_15 {Q : Int32 → MH → Prop} {K4 : Nat → Int32 → Int32 → MH → Prop} (hK4 : ∀ (h : MH) (x0 : Nat) (x1 : Int32) (x2 : Int32), K4 x0 x1 x2 h → Wm MX10_keyAt 4 0 0 4 [some (.ref (x0)), some (.int (x1)), some (.int (x2)), none] [] h (pI Q)) : ∀ (n : Nat) (h : MH) (x0 : Nat) (x1 : Int32) (x2 : Int32) (x3 : Int32), wX10_keyAt_15 Q K4 n x0 x1 x2 x3 h → Wm MX10_keyAt 4 0 0 15 [some (.ref (x0)), some (.int (x1)), some (.int (x2)), some (.int (x3))] [] h (pI Q) := by
  intro n
  induction n with
  | zero => intro h x0 x1 x2 x3 hw; exact hw.elim
  | succ n ih =>
    intro h x0 x1 x2 x3 hw
    unfold wX10_keyAt_15 at hw
    refine q_ldcS (x := 32) (tx := " net nodes rate link long work costs may if then else end from to links chords and or not ") (by decide +kernel) (by decide) eX10_keyAt_15 ?_
    refine q_iload_n eX10_keyAt_17 rfl ?_
    refine q_iload_n eX10_keyAt_18 rfl ?_
    refine q_iadd eX10_keyAt_19 ?_
    obtain ⟨hx2, hw⟩ := hw
    obtain ⟨hi3, hw⟩ := hw
    refine q_callVS (b := 0) (t := 0) hx2 (cS_charAt hx2 hi3) mlX10_101 kJ0_charAt_5068e vJ0_charAt_5068e rfl rfl (by decide) rfl (Nat.le_of_ble_eq_true rfl) eX10_keyAt_20 (kI fun r h2 hq => ?_)
    obtain ⟨rfl, rfl⟩ := hq
    refine q_bipush (v := nI 32) eX10_keyAt_23 (by decide) ?_
    obtain ⟨hw1, hw2⟩ := hw
    refine q_icmp_eq (tgt := 69) eX10_keyAt_25 (by decide) (fun c => ?_) (fun c => ?_)
    · have hw := hw1 c
      refine q_le (ls' := [some _, some _, some _, some _]) ⟨rfl, rfl, rfl, rfl, trivial⟩ ?_
      exact tX10_keyAt_69 hK4 _ _ _ _ _ hw
    · have hw := hw2 c
      refine q_aload_nr eX10_keyAt_28 rfl ?_
      obtain ⟨hs11, hw⟩ := hw
      refine q_getI flX10_105 rfl hs11 eX10_keyAt_29 ?_
      refine q_iload_n eX10_keyAt_32 rfl ?_
      refine q_iadd eX10_keyAt_33 ?_
      refine q_aload_nr eX10_keyAt_34 rfl ?_
      refine q_getI flX10_108 rfl hs11 eX10_keyAt_35 ?_
      obtain ⟨hw1, hw2⟩ := hw
      refine q_icmp_ge (tgt := 69) eX10_keyAt_38 (by decide) (fun c => ?_) (fun c => ?_)
      · have hw := hw1 c
        refine q_le (ls' := [some _, some _, some _, some _]) ⟨rfl, rfl, rfl, rfl, trivial⟩ ?_
        exact tX10_keyAt_69 hK4 _ _ _ _ _ hw
      · have hw := hw2 c
        refine q_aload_nr eX10_keyAt_41 rfl ?_
        obtain ⟨a12, hr13, hw⟩ := hw
        refine q_getR flX10_21 rfl hs11 hr13 eX10_keyAt_42 ?_
        refine q_aload_nr eX10_keyAt_45 rfl ?_
        refine q_getI flX10_105 rfl hs11 eX10_keyAt_46 ?_
        refine q_iload_n eX10_keyAt_49 rfl ?_
        refine q_iadd eX10_keyAt_50 ?_
        obtain ⟨n15, hs14, hw⟩ := hw
        obtain ⟨hi16, hw⟩ := hw
        refine q_iald hs14 hi16 eX10_keyAt_51 ?_
        refine q_ldcS (x := 32) (tx := " net nodes rate link long work costs may if then else end from to links chords and or not ") (by decide +kernel) (by decide) eX10_keyAt_52 ?_
        refine q_iload_n eX10_keyAt_54 rfl ?_
        refine q_iload_n eX10_keyAt_55 rfl ?_
        refine q_iadd eX10_keyAt_56 ?_
        obtain ⟨hx17, hw⟩ := hw
        obtain ⟨hi18, hw⟩ := hw
        refine q_callVS (b := 0) (t := 0) hx17 (cS_charAt hx17 hi18) mlX10_101 kJ0_charAt_5068e vJ0_charAt_5068e rfl rfl (by decide) rfl (Nat.le_of_ble_eq_true rfl) eX10_keyAt_57 (kI fun r h2 hq => ?_)
        obtain ⟨rfl, rfl⟩ := hq
        obtain ⟨hw1, hw2⟩ := hw
        refine q_icmp_ne (tgt := 69) eX10_keyAt_60 (by decide) (fun c => ?_) (fun c => ?_)
        · have hw := hw1 c
          refine q_le (ls' := [some _, some _, some _, some _]) ⟨rfl, rfl, rfl, rfl, trivial⟩ ?_
          exact tX10_keyAt_69 hK4 _ _ _ _ _ hw
        · have hw := hw2 c
          refine x_iinc (v := (x3 + nI 1)) (ls' := [_, _, _, _]) eX10_keyAt_63 rfl rfl rfl rfl ?_
          refine q_goto (tgt := 15) eX10_keyAt_66 (by decide) ?_
          refine q_le (ls' := [some _, some _, some _, some _]) ⟨rfl, rfl, rfl, rfl, trivial⟩ ?_
          exact ih _ _ _ _ _ hw
def wX10_keyAt_4 (Q : Int32 → MH → Prop) : Nat → Nat → Int32 → Int32 → MH → Prop
  | 0, _, _, _, _ => False
  | n + 1, x0, x1, x2, h => 32 < 33 ∧ (nI (strLen.getD 32 0) ≤ x2 → Q (nI 22) h) ∧ (¬ (nI (strLen.getD 32 0) ≤ x2) → ∃ m19, wX10_keyAt_15 Q (wX10_keyAt_4 Q n) m19 x0 x1 x2 (nI 0) h)
set_option maxHeartbeats 4000000 in
set_option maxRecDepth 100000 in
theorem tX10_keyAt_4 {Q : Int32 → MH → Prop} : ∀ (n : Nat) (h : MH) (x0 : Nat) (x1 : Int32) (x2 : Int32), wX10_keyAt_4 Q n x0 x1 x2 h → Wm MX10_keyAt 4 0 0 4 [some (.ref (x0)), some (.int (x1)), some (.int (x2)), none] [] h (pI Q) := by
  intro n
  induction n with
  | zero => intro h x0 x1 x2 hw; exact hw.elim
  | succ n ih =>
    intro h x0 x1 x2 hw
    unfold wX10_keyAt_4 at hw
    refine q_iload_n eX10_keyAt_4 rfl ?_
    refine q_ldcS (x := 32) (tx := " net nodes rate link long work costs may if then else end from to links chords and or not ") (by decide +kernel) (by decide) eX10_keyAt_5 ?_
    obtain ⟨hx1, hw⟩ := hw
    refine q_callVS (b := 0) (t := 0) hx1 (cS_length hx1) mlX10_95 kJ0_length_8abf5 vJ0_length_8abf5 rfl rfl (by decide) rfl (Nat.le_of_ble_eq_true rfl) eX10_keyAt_7 (kI fun r h2 hq => ?_)
    obtain ⟨rfl, rfl⟩ := hq
    obtain ⟨hw1, hw2⟩ := hw
    refine q_icmp_ge (tgt := 123) eX10_keyAt_10 (by decide) (fun c => ?_) (fun c => ?_)
    · have hw := hw1 c
      refine q_bipush (v := nI 22) eX10_keyAt_123 (by decide) ?_
      exact q_ret rfl eX10_keyAt_125 ⟨_, rfl, hw⟩
    · have hw := hw2 c
      refine q_iconst (v := nI 0) eX10_keyAt_13 (by decide) ?_
      refine x_istore_n (ls' := [_, _, _, _]) eX10_keyAt_14 (by decide) rfl rfl ?_
      refine q_le (ls' := [some _, some _, some _, some _]) ⟨rfl, rfl, rfl, rfl, trivial⟩ ?_
      obtain ⟨m19, hw⟩ := hw
      exact tX10_keyAt_15 ih m19 _ _ _ _ _ hw
def wX10_keyAt (x0 : Nat) (h : MH) (Q : Int32 → MH → Prop) : Prop := ∃ m20, wX10_keyAt_4 Q m20 x0 (nI 0) (nI 1) h
set_option maxHeartbeats 4000000 in
set_option maxRecDepth 100000 in
theorem gX10_keyAt (x0 : Nat) (h : MH) (Q : Int32 → MH → Prop) (hw : wX10_keyAt x0 h Q) : Cm MX10_keyAt 4 0 0 [.ref (x0)] h (pI Q) := by
  refine cm_of [some (.ref (x0)), none, none, none] rfl pnX10 (Nat.le_of_ble_eq_true rfl) rfl ?_
  unfold wX10_keyAt at hw
  refine q_iconst (v := nI 0) eX10_keyAt_0 (by decide) ?_
  refine x_istore_n (ls' := [_, _, _, _]) eX10_keyAt_1 (by decide) rfl rfl ?_
  refine q_iconst (v := nI 1) eX10_keyAt_2 (by decide) ?_
  refine x_istore_n (ls' := [_, _, _, _]) eX10_keyAt_3 (by decide) rfl rfl ?_
  refine q_le (ls' := [some _, some _, some _, none]) ⟨rfl, rfl, rfl, trivial⟩ ?_
  obtain ⟨m20, hw⟩ := hw
  exact tX10_keyAt_4 m20 _ _ _ _ hw
