/-! ===== methods: what each needs and does (by program) ===== -/
def wX4_joinedWith_35 (Q : Int32 → MH → Prop) (K4 : Nat → Int32 → Int32 → Int32 → MH → Prop) (x0 : Nat) (x1 : Int32) (x3 : Int32) (s0 : Int32) (s1 : Int32) (h : MH) : Prop := hS h x0 = (1, 4) ∧ ∃ a8, hR h x0 5 = some a8 ∧ ∃ n11, hS h a8 = (2, n11) ∧ vp_in (x3) n11 ∧ (¬ (hI h a8 (x3).toNatClampNeg = x1) → K4 x0 x1 ((s1 ||| s0) ||| nI 0) (x3 + nI 1) h) ∧ (hI h a8 (x3).toNatClampNeg = x1 → ∃ a13, hR h x0 4 = some a13 ∧ ∃ n16, hS h a13 = (2, n16) ∧ vp_in (x3) n16 ∧ ∀ v18, v18 = ((s1 ||| s0) ||| (nI 1 <<< (hI h a13 (x3).toNatClampNeg &&& 31))) → K4 x0 x1 v18 (x3 + nI 1) h)
set_option maxHeartbeats 4000000 in
set_option maxRecDepth 100000 in
theorem tX4_joinedWith_35 {Q : Int32 → MH → Prop} {K4 : Nat → Int32 → Int32 → Int32 → MH → Prop} (hK4 : ∀ (h : MH) (x0 : Nat) (x1 : Int32) (x2 : Int32) (x3 : Int32), K4 x0 x1 x2 x3 h → Wm MX4_joinedWith 0 0 0 4 [some (.ref (x0)), some (.int (x1)), some (.int (x2)), some (.int (x3))] [] h (pI Q)) (h : MH) (x0 : Nat) (x1 : Int32) (x3 : Int32) (s0 : Int32) (s1 : Int32) (hw : wX4_joinedWith_35 Q K4 x0 x1 x3 s0 s1 h) : Wm MX4_joinedWith 0 0 0 35 [some (.ref (x0)), some (.int (x1)), none, some (.int (x3))] [.int (s0), .int (s1)] h (pI Q) := by
  unfold wX4_joinedWith_35 at hw
  refine q_ior eX4_joinedWith_35 ?_
  refine x_istore_n (ls' := [_, _, _, _]) eX4_joinedWith_36 (by decide) rfl rfl ?_
  refine q_iload_n eX4_joinedWith_37 rfl ?_
  refine q_aload_nr eX4_joinedWith_38 rfl ?_
  obtain ⟨hs7, hw⟩ := hw
  obtain ⟨a8, hr9, hw⟩ := hw
  refine q_getR flX4_28 rfl hs7 hr9 eX4_joinedWith_39 ?_
  refine q_iload_n eX4_joinedWith_42 rfl ?_
  obtain ⟨n11, hs10, hw⟩ := hw
  obtain ⟨hi12, hw⟩ := hw
  refine q_iald hs10 hi12 eX4_joinedWith_43 ?_
  refine q_iload_n eX4_joinedWith_44 rfl ?_
  obtain ⟨hw1, hw2⟩ := hw
  refine q_icmp_ne (tgt := 59) eX4_joinedWith_45 (by decide) (fun c => ?_) (fun c => ?_)
  · have hw := hw1 c
    refine q_iconst (v := nI 0) eX4_joinedWith_59 (by decide) ?_
    refine q_ior eX4_joinedWith_60 ?_
    refine x_istore_n (ls' := [_, _, _, _]) eX4_joinedWith_61 (by decide) rfl rfl ?_
    refine x_iinc (v := (x3 + nI 1)) (ls' := [_, _, _, _]) eX4_joinedWith_62 rfl rfl rfl rfl ?_
    refine q_goto (tgt := 4) eX4_joinedWith_65 (by decide) ?_
    refine q_le (ls' := [some _, some _, some _, some _]) ⟨rfl, rfl, rfl, rfl, trivial⟩ ?_
    exact hK4 _ _ _ _ _ hw
  · have hw := hw2 c
    refine q_iconst (v := nI 1) eX4_joinedWith_48 (by decide) ?_
    refine q_aload_nr eX4_joinedWith_49 rfl ?_
    obtain ⟨a13, hr14, hw⟩ := hw
    refine q_getR flX4_24 rfl hs7 hr14 eX4_joinedWith_50 ?_
    refine q_iload_n eX4_joinedWith_53 rfl ?_
    obtain ⟨n16, hs15, hw⟩ := hw
    obtain ⟨hi17, hw⟩ := hw
    refine q_iald hs15 hi17 eX4_joinedWith_54 ?_
    refine q_ishl eX4_joinedWith_55 ?_
    refine q_goto (tgt := 60) eX4_joinedWith_56 (by decide) ?_
    refine q_ior eX4_joinedWith_60 ?_
    have hw := hw _ rfl
    refine x_istore_n (ls' := [_, _, _, _]) eX4_joinedWith_61 (by decide) rfl rfl ?_
    refine x_iinc (v := (x3 + nI 1)) (ls' := [_, _, _, _]) eX4_joinedWith_62 rfl rfl rfl rfl ?_
    refine q_goto (tgt := 4) eX4_joinedWith_65 (by decide) ?_
    refine q_le (ls' := [some _, some _, some _, some _]) ⟨rfl, rfl, rfl, rfl, trivial⟩ ?_
    exact hK4 _ _ _ _ _ hw
def wX4_joinedWith_4 (Q : Int32 → MH → Prop) : Nat → Nat → Int32 → Int32 → Int32 → MH → Prop
  | 0, _, _, _, _, _ => False
  | n + 1, x0, x1, x2, x3, h => hS h x0 = (1, 4) ∧ (hI h x0 3 ≤ x3 → Q (x2) h) ∧ (¬ (hI h x0 3 ≤ x3) → ∃ a2, hR h x0 4 = some a2 ∧ ∃ n5, hS h a2 = (2, n5) ∧ vp_in (x3) n5 ∧ (¬ (hI h a2 (x3).toNatClampNeg = x1) → wX4_joinedWith_35 Q (wX4_joinedWith_4 Q n) x0 x1 x3 (nI 0) x2 h) ∧ (hI h a2 (x3).toNatClampNeg = x1 → ∃ a19, hR h x0 5 = some a19 ∧ ∃ n22, hS h a19 = (2, n22) ∧ vp_in (x3) n22 ∧ wX4_joinedWith_35 Q (wX4_joinedWith_4 Q n) x0 x1 x3 (nI 1 <<< (hI h a19 (x3).toNatClampNeg &&& 31)) x2 h))
set_option maxHeartbeats 4000000 in
set_option maxRecDepth 100000 in
theorem tX4_joinedWith_4 {Q : Int32 → MH → Prop} : ∀ (n : Nat) (h : MH) (x0 : Nat) (x1 : Int32) (x2 : Int32) (x3 : Int32), wX4_joinedWith_4 Q n x0 x1 x2 x3 h → Wm MX4_joinedWith 0 0 0 4 [some (.ref (x0)), some (.int (x1)), some (.int (x2)), some (.int (x3))] [] h (pI Q) := by
  intro n
  induction n with
  | zero => intro h x0 x1 x2 x3 hw; exact hw.elim
  | succ n ih =>
    intro h x0 x1 x2 x3 hw
    unfold wX4_joinedWith_4 at hw
    refine q_iload_n eX4_joinedWith_4 rfl ?_
    refine q_aload_nr eX4_joinedWith_5 rfl ?_
    obtain ⟨hs1, hw⟩ := hw
    refine q_getI flX4_21 rfl hs1 eX4_joinedWith_6 ?_
    obtain ⟨hw1, hw2⟩ := hw
    refine q_icmp_ge (tgt := 68) eX4_joinedWith_9 (by decide) (fun c => ?_) (fun c => ?_)
    · have hw := hw1 c
      refine q_iload_n eX4_joinedWith_68 rfl ?_
      exact q_ret rfl eX4_joinedWith_69 ⟨_, rfl, hw⟩
    · have hw := hw2 c
      refine q_iload_n eX4_joinedWith_12 rfl ?_
      refine q_aload_nr eX4_joinedWith_13 rfl ?_
      obtain ⟨a2, hr3, hw⟩ := hw
      refine q_getR flX4_24 rfl hs1 hr3 eX4_joinedWith_14 ?_
      refine q_iload_n eX4_joinedWith_17 rfl ?_
      obtain ⟨n5, hs4, hw⟩ := hw
      obtain ⟨hi6, hw⟩ := hw
      refine q_iald hs4 hi6 eX4_joinedWith_18 ?_
      refine q_iload_n eX4_joinedWith_19 rfl ?_
      obtain ⟨hw1, hw2⟩ := hw
      refine q_icmp_ne (tgt := 34) eX4_joinedWith_20 (by decide) (fun c => ?_) (fun c => ?_)
      · have hw := hw1 c
        refine q_iconst (v := nI 0) eX4_joinedWith_34 (by decide) ?_
        refine q_le (ls' := [some _, some _, none, some _]) ⟨rfl, rfl, rfl, trivial⟩ ?_
        exact tX4_joinedWith_35 ih _ _ _ _ _ _ hw
      · have hw := hw2 c
        refine q_iconst (v := nI 1) eX4_joinedWith_23 (by decide) ?_
        refine q_aload_nr eX4_joinedWith_24 rfl ?_
        obtain ⟨a19, hr20, hw⟩ := hw
        refine q_getR flX4_28 rfl hs1 hr20 eX4_joinedWith_25 ?_
        refine q_iload_n eX4_joinedWith_28 rfl ?_
        obtain ⟨n22, hs21, hw⟩ := hw
        obtain ⟨hi23, hw⟩ := hw
        refine q_iald hs21 hi23 eX4_joinedWith_29 ?_
        refine q_ishl eX4_joinedWith_30 ?_
        refine q_goto (tgt := 35) eX4_joinedWith_31 (by decide) ?_
        refine q_le (ls' := [some _, some _, none, some _]) ⟨rfl, rfl, rfl, trivial⟩ ?_
        exact tX4_joinedWith_35 ih _ _ _ _ _ _ hw
def wX4_joinedWith (x0 : Nat) (x1 : Int32) (h : MH) (Q : Int32 → MH → Prop) : Prop := ∃ m24, wX4_joinedWith_4 Q m24 x0 x1 (nI 0) (nI 0) h
set_option maxHeartbeats 4000000 in
set_option maxRecDepth 100000 in
theorem gX4_joinedWith (x0 : Nat) (x1 : Int32) (h : MH) (Q : Int32 → MH → Prop) (hw : wX4_joinedWith x0 x1 h Q) : Cm MX4_joinedWith 0 0 0 [.ref (x0), .int (x1)] h (pI Q) := by
  refine cm_of [some (.ref (x0)), some (.int (x1)), none, none] rfl pnX4 (Nat.le_of_ble_eq_true rfl) rfl ?_
  unfold wX4_joinedWith at hw
  refine q_iconst (v := nI 0) eX4_joinedWith_0 (by decide) ?_
  refine x_istore_n (ls' := [_, _, _, _]) eX4_joinedWith_1 (by decide) rfl rfl ?_
  refine q_iconst (v := nI 0) eX4_joinedWith_2 (by decide) ?_
  refine x_istore_n (ls' := [_, _, _, _]) eX4_joinedWith_3 (by decide) rfl rfl ?_
  refine q_le (ls' := [some _, some _, some _, some _]) ⟨rfl, rfl, rfl, rfl, trivial⟩ ?_
  obtain ⟨m24, hw⟩ := hw
  exact tX4_joinedWith_4 m24 _ _ _ _ _ hw
def wX4_endsAtNodes_4 (Q : Int32 → MH → Prop) : Nat → Nat → Int32 → Int32 → Int32 → MH → Prop
  | 0, _, _, _, _, _ => False
  | n + 1, x0, x1, x2, x3, h => hS h x0 = (1, 4) ∧ (hI h x0 3 ≤ x3 → Q (x2) h) ∧ (¬ (hI h x0 3 ≤ x3) → (((x1 >>> (x3 &&& 31)) &&& nI 1) = 0 → wX4_endsAtNodes_4 Q n x0 x1 x2 (x3 + nI 1) h) ∧ (¬ (((x1 >>> (x3 &&& 31)) &&& nI 1) = 0) → ∃ a2, hR h x0 4 = some a2 ∧ ∃ n5, hS h a2 = (2, n5) ∧ vp_in (x3) n5 ∧ ∃ a7, hR h x0 5 = some a7 ∧ ∃ n10, hS h a7 = (2, n10) ∧ vp_in (x3) n10 ∧ ∀ v12, v12 = (x2 + ((nI 1 <<< ((nI 4 * hI h a2 (x3).toNatClampNeg) &&& 31)) + (nI 1 <<< ((nI 4 * hI h a7 (x3).toNatClampNeg) &&& 31)))) → wX4_endsAtNodes_4 Q n x0 x1 v12 (x3 + nI 1) h))
set_option maxHeartbeats 4000000 in
set_option maxRecDepth 100000 in
theorem tX4_endsAtNodes_4 {Q : Int32 → MH → Prop} : ∀ (n : Nat) (h : MH) (x0 : Nat) (x1 : Int32) (x2 : Int32) (x3 : Int32), wX4_endsAtNodes_4 Q n x0 x1 x2 x3 h → Wm MX4_endsAtNodes 0 0 0 4 [some (.ref (x0)), some (.int (x1)), some (.int (x2)), some (.int (x3))] [] h (pI Q) := by
  intro n
  induction n with
  | zero => intro h x0 x1 x2 x3 hw; exact hw.elim
  | succ n ih =>
    intro h x0 x1 x2 x3 hw
    unfold wX4_endsAtNodes_4 at hw
    refine q_iload_n eX4_endsAtNodes_4 rfl ?_
    refine q_aload_nr eX4_endsAtNodes_5 rfl ?_
    obtain ⟨hs1, hw⟩ := hw
    refine q_getI flX4_21 rfl hs1 eX4_endsAtNodes_6 ?_
    obtain ⟨hw1, hw2⟩ := hw
    refine q_icmp_ge (tgt := 50) eX4_endsAtNodes_9 (by decide) (fun c => ?_) (fun c => ?_)
    · have hw := hw1 c
      refine q_iload_n eX4_endsAtNodes_50 rfl ?_
      exact q_ret rfl eX4_endsAtNodes_51 ⟨_, rfl, hw⟩
    · have hw := hw2 c
      refine q_iload_n eX4_endsAtNodes_12 rfl ?_
      refine q_iload_n eX4_endsAtNodes_13 rfl ?_
      refine q_ishr eX4_endsAtNodes_14 ?_
      refine q_iconst (v := nI 1) eX4_endsAtNodes_15 (by decide) ?_
      refine q_iand eX4_endsAtNodes_16 ?_
      obtain ⟨hw1, hw2⟩ := hw
      refine q_if_eq (tgt := 44) eX4_endsAtNodes_17 (by decide) (fun c => ?_) (fun c => ?_)
      · have hw := hw1 c
        refine x_iinc (v := (x3 + nI 1)) (ls' := [_, _, _, _]) eX4_endsAtNodes_44 rfl rfl rfl rfl ?_
        refine q_goto (tgt := 4) eX4_endsAtNodes_47 (by decide) ?_
        refine q_le (ls' := [some _, some _, some _, some _]) ⟨rfl, rfl, rfl, rfl, trivial⟩ ?_
        exact ih _ _ _ _ _ hw
      · have hw := hw2 c
        refine q_iload_n eX4_endsAtNodes_20 rfl ?_
        refine q_iconst (v := nI 1) eX4_endsAtNodes_21 (by decide) ?_
        refine q_iconst (v := nI 4) eX4_endsAtNodes_22 (by decide) ?_
        refine q_aload_nr eX4_endsAtNodes_23 rfl ?_
        obtain ⟨a2, hr3, hw⟩ := hw
        refine q_getR flX4_24 rfl hs1 hr3 eX4_endsAtNodes_24 ?_
        refine q_iload_n eX4_endsAtNodes_27 rfl ?_
        obtain ⟨n5, hs4, hw⟩ := hw
        obtain ⟨hi6, hw⟩ := hw
        refine q_iald hs4 hi6 eX4_endsAtNodes_28 ?_
        refine q_imul eX4_endsAtNodes_29 ?_
        refine q_ishl eX4_endsAtNodes_30 ?_
        refine q_iconst (v := nI 1) eX4_endsAtNodes_31 (by decide) ?_
        refine q_iconst (v := nI 4) eX4_endsAtNodes_32 (by decide) ?_
        refine q_aload_nr eX4_endsAtNodes_33 rfl ?_
        obtain ⟨a7, hr8, hw⟩ := hw
        refine q_getR flX4_28 rfl hs1 hr8 eX4_endsAtNodes_34 ?_
        refine q_iload_n eX4_endsAtNodes_37 rfl ?_
        obtain ⟨n10, hs9, hw⟩ := hw
        obtain ⟨hi11, hw⟩ := hw
        refine q_iald hs9 hi11 eX4_endsAtNodes_38 ?_
        refine q_imul eX4_endsAtNodes_39 ?_
        refine q_ishl eX4_endsAtNodes_40 ?_
        refine q_iadd eX4_endsAtNodes_41 ?_
        refine q_iadd eX4_endsAtNodes_42 ?_
        have hw := hw _ rfl
        refine x_istore_n (ls' := [_, _, _, _]) eX4_endsAtNodes_43 (by decide) rfl rfl ?_
        refine x_iinc (v := (x3 + nI 1)) (ls' := [_, _, _, _]) eX4_endsAtNodes_44 rfl rfl rfl rfl ?_
        refine q_goto (tgt := 4) eX4_endsAtNodes_47 (by decide) ?_
        refine q_le (ls' := [some _, some _, some _, some _]) ⟨rfl, rfl, rfl, rfl, trivial⟩ ?_
        exact ih _ _ _ _ _ hw
def wX4_endsAtNodes (x0 : Nat) (x1 : Int32) (h : MH) (Q : Int32 → MH → Prop) : Prop := ∃ m13, wX4_endsAtNodes_4 Q m13 x0 x1 (nI 0) (nI 0) h
set_option maxHeartbeats 4000000 in
set_option maxRecDepth 100000 in
theorem gX4_endsAtNodes (x0 : Nat) (x1 : Int32) (h : MH) (Q : Int32 → MH → Prop) (hw : wX4_endsAtNodes x0 x1 h Q) : Cm MX4_endsAtNodes 0 0 0 [.ref (x0), .int (x1)] h (pI Q) := by
  refine cm_of [some (.ref (x0)), some (.int (x1)), none, none] rfl pnX4 (Nat.le_of_ble_eq_true rfl) rfl ?_
  unfold wX4_endsAtNodes at hw
  refine q_iconst (v := nI 0) eX4_endsAtNodes_0 (by decide) ?_
  refine x_istore_n (ls' := [_, _, _, _]) eX4_endsAtNodes_1 (by decide) rfl rfl ?_
  refine q_iconst (v := nI 0) eX4_endsAtNodes_2 (by decide) ?_
  refine x_istore_n (ls' := [_, _, _, _]) eX4_endsAtNodes_3 (by decide) rfl rfl ?_
  refine q_le (ls' := [some _, some _, some _, some _]) ⟨rfl, rfl, rfl, rfl, trivial⟩ ?_
  obtain ⟨m13, hw⟩ := hw
  exact tX4_endsAtNodes_4 m13 _ _ _ _ _ hw
def wX4_linkAt_2 (Q : Int32 → MH → Prop) : Nat → Nat → Int32 → Int32 → Int32 → MH → Prop
  | 0, _, _, _, _, _ => False
  | n + 1, x0, x1, x2, x3, h => hS h x0 = (1, 4) ∧ (hI h x0 3 ≤ x3 → Q ((-1 : Int32)) h) ∧ (¬ (hI h x0 3 ≤ x3) → (((x1 >>> (x3 &&& 31)) &&& nI 1) = 0 → wX4_linkAt_2 Q n x0 x1 x2 (x3 + nI 1) h) ∧ (¬ (((x1 >>> (x3 &&& 31)) &&& nI 1) = 0) → ∃ a2, hR h x0 4 = some a2 ∧ ∃ n5, hS h a2 = (2, n5) ∧ vp_in (x3) n5 ∧ (hI h a2 (x3).toNatClampNeg = x2 → Q (x3) h) ∧ (¬ (hI h a2 (x3).toNatClampNeg = x2) → ∃ a7, hR h x0 5 = some a7 ∧ ∃ n10, hS h a7 = (2, n10) ∧ vp_in (x3) n10 ∧ (¬ (hI h a7 (x3).toNatClampNeg = x2) → wX4_linkAt_2 Q n x0 x1 x2 (x3 + nI 1) h) ∧ (hI h a7 (x3).toNatClampNeg = x2 → Q (x3) h))))
set_option maxHeartbeats 4000000 in
set_option maxRecDepth 100000 in
theorem tX4_linkAt_2 {Q : Int32 → MH → Prop} : ∀ (n : Nat) (h : MH) (x0 : Nat) (x1 : Int32) (x2 : Int32) (x3 : Int32), wX4_linkAt_2 Q n x0 x1 x2 x3 h → Wm MX4_linkAt 0 0 0 2 [some (.ref (x0)), some (.int (x1)), some (.int (x2)), some (.int (x3))] [] h (pI Q) := by
  intro n
  induction n with
  | zero => intro h x0 x1 x2 x3 hw; exact hw.elim
  | succ n ih =>
    intro h x0 x1 x2 x3 hw
    unfold wX4_linkAt_2 at hw
    refine q_iload_n eX4_linkAt_2 rfl ?_
    refine q_aload_nr eX4_linkAt_3 rfl ?_
    obtain ⟨hs1, hw⟩ := hw
    refine q_getI flX4_21 rfl hs1 eX4_linkAt_4 ?_
    obtain ⟨hw1, hw2⟩ := hw
    refine q_icmp_ge (tgt := 46) eX4_linkAt_7 (by decide) (fun c => ?_) (fun c => ?_)
    · have hw := hw1 c
      refine q_iconst (v := (-1 : Int32)) eX4_linkAt_46 (by decide) ?_
      exact q_ret rfl eX4_linkAt_47 ⟨_, rfl, hw⟩
    · have hw := hw2 c
      refine q_iload_n eX4_linkAt_10 rfl ?_
      refine q_iload_n eX4_linkAt_11 rfl ?_
      refine q_ishr eX4_linkAt_12 ?_
      refine q_iconst (v := nI 1) eX4_linkAt_13 (by decide) ?_
      refine q_iand eX4_linkAt_14 ?_
      obtain ⟨hw1, hw2⟩ := hw
      refine q_if_eq (tgt := 40) eX4_linkAt_15 (by decide) (fun c => ?_) (fun c => ?_)
      · have hw := hw1 c
        refine x_iinc (v := (x3 + nI 1)) (ls' := [_, _, _, _]) eX4_linkAt_40 rfl rfl rfl rfl ?_
        refine q_goto (tgt := 2) eX4_linkAt_43 (by decide) ?_
        refine q_le (ls' := [some _, some _, some _, some _]) ⟨rfl, rfl, rfl, rfl, trivial⟩ ?_
        exact ih _ _ _ _ _ hw
      · have hw := hw2 c
        refine q_aload_nr eX4_linkAt_18 rfl ?_
        obtain ⟨a2, hr3, hw⟩ := hw
        refine q_getR flX4_24 rfl hs1 hr3 eX4_linkAt_19 ?_
        refine q_iload_n eX4_linkAt_22 rfl ?_
        obtain ⟨n5, hs4, hw⟩ := hw
        obtain ⟨hi6, hw⟩ := hw
        refine q_iald hs4 hi6 eX4_linkAt_23 ?_
        refine q_iload_n eX4_linkAt_24 rfl ?_
        obtain ⟨hw1, hw2⟩ := hw
        refine q_icmp_eq (tgt := 38) eX4_linkAt_25 (by decide) (fun c => ?_) (fun c => ?_)
        · have hw := hw1 c
          refine q_iload_n eX4_linkAt_38 rfl ?_
          exact q_ret rfl eX4_linkAt_39 ⟨_, rfl, hw⟩
        · have hw := hw2 c
          refine q_aload_nr eX4_linkAt_28 rfl ?_
          obtain ⟨a7, hr8, hw⟩ := hw
          refine q_getR flX4_28 rfl hs1 hr8 eX4_linkAt_29 ?_
          refine q_iload_n eX4_linkAt_32 rfl ?_
          obtain ⟨n10, hs9, hw⟩ := hw
          obtain ⟨hi11, hw⟩ := hw
          refine q_iald hs9 hi11 eX4_linkAt_33 ?_
          refine q_iload_n eX4_linkAt_34 rfl ?_
          obtain ⟨hw1, hw2⟩ := hw
          refine q_icmp_ne (tgt := 40) eX4_linkAt_35 (by decide) (fun c => ?_) (fun c => ?_)
          · have hw := hw1 c
            refine x_iinc (v := (x3 + nI 1)) (ls' := [_, _, _, _]) eX4_linkAt_40 rfl rfl rfl rfl ?_
            refine q_goto (tgt := 2) eX4_linkAt_43 (by decide) ?_
            refine q_le (ls' := [some _, some _, some _, some _]) ⟨rfl, rfl, rfl, rfl, trivial⟩ ?_
            exact ih _ _ _ _ _ hw
          · have hw := hw2 c
            refine q_iload_n eX4_linkAt_38 rfl ?_
            exact q_ret rfl eX4_linkAt_39 ⟨_, rfl, hw⟩
def wX4_linkAt (x0 : Nat) (x1 : Int32) (x2 : Int32) (h : MH) (Q : Int32 → MH → Prop) : Prop := ∃ m12, wX4_linkAt_2 Q m12 x0 x1 x2 (nI 0) h
set_option maxHeartbeats 4000000 in
set_option maxRecDepth 100000 in
theorem gX4_linkAt (x0 : Nat) (x1 : Int32) (x2 : Int32) (h : MH) (Q : Int32 → MH → Prop) (hw : wX4_linkAt x0 x1 x2 h Q) : Cm MX4_linkAt 0 0 0 [.ref (x0), .int (x1), .int (x2)] h (pI Q) := by
  refine cm_of [some (.ref (x0)), some (.int (x1)), some (.int (x2)), none] rfl pnX4 (Nat.le_of_ble_eq_true rfl) rfl ?_
  unfold wX4_linkAt at hw
  refine q_iconst (v := nI 0) eX4_linkAt_0 (by decide) ?_
  refine x_istore_n (ls' := [_, _, _, _]) eX4_linkAt_1 (by decide) rfl rfl ?_
  refine q_le (ls' := [some _, some _, some _, some _]) ⟨rfl, rfl, rfl, rfl, trivial⟩ ?_
  obtain ⟨m12, hw⟩ := hw
  exact tX4_linkAt_2 m12 _ _ _ _ _ hw
def wX4_walk_82 (Q : Int32 → MH → Prop) (x1 : Int32) (x4 : Int32) (h : MH) : Prop := Q ((x1 &&& (x4 ^^^ (-1 : Int32)))) h
set_option maxHeartbeats 4000000 in
set_option maxRecDepth 100000 in
theorem tX4_walk_82 {Q : Int32 → MH → Prop} (h : MH) (x1 : Int32) (x4 : Int32) (hw : wX4_walk_82 Q x1 x4 h) : Wm MX4_walk 1 0 0 82 [none, some (.int (x1)), none, none, some (.int (x4)), none, none, none] [] h (pI Q) := by
  unfold wX4_walk_82 at hw
  refine q_iload_n eX4_walk_82 rfl ?_
  refine q_iload eX4_walk_83 rfl ?_
  refine q_iconst (v := (-1 : Int32)) eX4_walk_85 (by decide) ?_
  refine q_ixor eX4_walk_86 ?_
  refine q_iand eX4_walk_87 ?_
  exact q_ret rfl eX4_walk_88 ⟨_, rfl, hw⟩
def wX4_walk_9 (Q : Int32 → MH → Prop) : Nat → Nat → Int32 → Int32 → Int32 → Int32 → Int32 → MH → Prop
  | 0, _, _, _, _, _, _, _ => False
  | n + 1, x0, x1, x3, x4, x5, x6, h => hS h x0 = (1, 4) ∧ (hI h x0 3 ≤ x6 → wX4_walk_82 Q x1 x4 h) ∧ (¬ (hI h x0 3 ≤ x6) → wX4_linkAt x0 x4 x5 h (fun r2 h3 => (0 ≤ r2 → ∀ v4, v4 = (x4 &&& ((nI 1 <<< (r2 &&& 31)) ^^^ (-1 : Int32))) → hS h3 x0 = (1, 4) ∧ ∃ a6, hR h3 x0 4 = some a6 ∧ ∃ n9, hS h3 a6 = (2, n9) ∧ vp_in (r2) n9 ∧ ∃ a11, hR h3 x0 5 = some a11 ∧ ∃ n14, hS h3 a11 = (2, n14) ∧ vp_in (r2) n14 ∧ ∀ v16, v16 = ((hI h3 a6 (r2).toNatClampNeg + hI h3 a11 (r2).toNatClampNeg) - x5) → (¬ (v16 = x3) → wX4_walk_9 Q n x0 x1 x3 v4 v16 (x6 + nI 1) h3) ∧ (v16 = x3 → wX4_walk_82 Q x1 v4 h3)) ∧ (¬ (0 ≤ r2) → wX4_walk_82 Q x1 x4 h3)))
set_option maxHeartbeats 4000000 in
set_option maxRecDepth 100000 in
theorem tX4_walk_9 {Q : Int32 → MH → Prop} : ∀ (n : Nat) (h : MH) (x0 : Nat) (x1 : Int32) (x3 : Int32) (x4 : Int32) (x5 : Int32) (x6 : Int32), wX4_walk_9 Q n x0 x1 x3 x4 x5 x6 h → Wm MX4_walk 1 0 0 9 [some (.ref (x0)), some (.int (x1)), none, some (.int (x3)), some (.int (x4)), some (.int (x5)), some (.int (x6)), none] [] h (pI Q) := by
  intro n
  induction n with
  | zero => intro h x0 x1 x3 x4 x5 x6 hw; exact hw.elim
  | succ n ih =>
    intro h x0 x1 x3 x4 x5 x6 hw
    unfold wX4_walk_9 at hw
    refine q_iload eX4_walk_9 rfl ?_
    refine q_aload_nr eX4_walk_11 rfl ?_
    obtain ⟨hs1, hw⟩ := hw
    refine q_getI flX4_21 rfl hs1 eX4_walk_12 ?_
    obtain ⟨hw1, hw2⟩ := hw
    refine q_icmp_ge (tgt := 82) eX4_walk_15 (by decide) (fun c => ?_) (fun c => ?_)
    · have hw := hw1 c
      refine q_le (ls' := [none, some _, none, none, some _, none, none, none]) ⟨rfl, rfl, trivial⟩ ?_
      exact tX4_walk_82 _ _ _ hw
    · have hw := hw2 c
      refine q_aload_nr eX4_walk_18 rfl ?_
      refine q_iload eX4_walk_19 rfl ?_
      refine q_iload eX4_walk_21 rfl ?_
      refine q_callV (b := 0) (t := 0) (gX4_linkAt _ _ _ _ _ hw) mlX4_101 kX4_linkAt vX4_linkAt rfl hs1 ⟨rfl, rfl⟩ (by decide) rfl (Nat.le_of_ble_eq_true rfl) eX4_walk_23 (kI fun r2 h3 hw => ?_)
      refine x_istore (ls' := [_, _, _, _, _, _, _, _]) eX4_walk_26 (by decide) rfl rfl ?_
      refine q_iload eX4_walk_28 rfl ?_
      obtain ⟨hw1, hw2⟩ := hw
      refine q_if_ge (tgt := 36) eX4_walk_30 (by decide) (fun c => ?_) (fun c => ?_)
      · have hw := hw1 c
        refine q_iload eX4_walk_36 rfl ?_
        refine q_iconst (v := nI 1) eX4_walk_38 (by decide) ?_
        refine q_iload eX4_walk_39 rfl ?_
        refine q_ishl eX4_walk_41 ?_
        refine q_iconst (v := (-1 : Int32)) eX4_walk_42 (by decide) ?_
        refine q_ixor eX4_walk_43 ?_
        refine q_iand eX4_walk_44 ?_
        have hw := hw _ rfl
        refine x_istore (ls' := [_, _, _, _, _, _, _, _]) eX4_walk_45 (by decide) rfl rfl ?_
        refine q_aload_nr eX4_walk_47 rfl ?_
        obtain ⟨hs5, hw⟩ := hw
        obtain ⟨a6, hr7, hw⟩ := hw
        refine q_getR flX4_24 rfl hs5 hr7 eX4_walk_48 ?_
        refine q_iload eX4_walk_51 rfl ?_
        obtain ⟨n9, hs8, hw⟩ := hw
        obtain ⟨hi10, hw⟩ := hw
        refine q_iald hs8 hi10 eX4_walk_53 ?_
        refine q_aload_nr eX4_walk_54 rfl ?_
        obtain ⟨a11, hr12, hw⟩ := hw
        refine q_getR flX4_28 rfl hs5 hr12 eX4_walk_55 ?_
        refine q_iload eX4_walk_58 rfl ?_
        obtain ⟨n14, hs13, hw⟩ := hw
        obtain ⟨hi15, hw⟩ := hw
        refine q_iald hs13 hi15 eX4_walk_60 ?_
        refine q_iadd eX4_walk_61 ?_
        refine q_iload eX4_walk_62 rfl ?_
        refine q_isub eX4_walk_64 ?_
        have hw := hw _ rfl
        refine x_istore (ls' := [_, _, _, _, _, _, _, _]) eX4_walk_65 (by decide) rfl rfl ?_
        refine q_iload eX4_walk_67 rfl ?_
        refine q_iload_n eX4_walk_69 rfl ?_
        obtain ⟨hw1, hw2⟩ := hw
        refine q_icmp_ne (tgt := 76) eX4_walk_70 (by decide) (fun c => ?_) (fun c => ?_)
        · have hw := hw1 c
          refine x_iinc (v := (x6 + nI 1)) (ls' := [_, _, _, _, _, _, _, _]) eX4_walk_76 rfl rfl rfl rfl ?_
          refine q_goto (tgt := 9) eX4_walk_79 (by decide) ?_
          refine q_le (ls' := [some _, some _, none, some _, some _, some _, some _, none]) ⟨rfl, rfl, rfl, rfl, rfl, rfl, trivial⟩ ?_
          exact ih _ _ _ _ _ _ _ hw
        · have hw := hw2 c
          refine q_goto (tgt := 82) eX4_walk_73 (by decide) ?_
          refine q_le (ls' := [none, some _, none, none, some _, none, none, none]) ⟨rfl, rfl, trivial⟩ ?_
          exact tX4_walk_82 _ _ _ hw
      · have hw := hw2 c
        refine q_goto (tgt := 82) eX4_walk_33 (by decide) ?_
        refine q_le (ls' := [none, some _, none, none, some _, none, none, none]) ⟨rfl, rfl, trivial⟩ ?_
        exact tX4_walk_82 _ _ _ hw
def wX4_walk (x0 : Nat) (x1 : Int32) (x2 : Int32) (x3 : Int32) (h : MH) (Q : Int32 → MH → Prop) : Prop := ∃ m17, wX4_walk_9 Q m17 x0 x1 x3 x1 x2 (nI 0) h
set_option maxHeartbeats 4000000 in
set_option maxRecDepth 100000 in
theorem gX4_walk (x0 : Nat) (x1 : Int32) (x2 : Int32) (x3 : Int32) (h : MH) (Q : Int32 → MH → Prop) (hw : wX4_walk x0 x1 x2 x3 h Q) : Cm MX4_walk 1 0 0 [.ref (x0), .int (x1), .int (x2), .int (x3)] h (pI Q) := by
  refine cm_of [some (.ref (x0)), some (.int (x1)), some (.int (x2)), some (.int (x3)), none, none, none, none] rfl pnX4 (Nat.le_of_ble_eq_true rfl) rfl ?_
  unfold wX4_walk at hw
  refine q_iload_n eX4_walk_0 rfl ?_
  refine x_istore (ls' := [_, _, _, _, _, _, _, _]) eX4_walk_1 (by decide) rfl rfl ?_
  refine q_iload_n eX4_walk_3 rfl ?_
  refine x_istore (ls' := [_, _, _, _, _, _, _, _]) eX4_walk_4 (by decide) rfl rfl ?_
  refine q_iconst (v := nI 0) eX4_walk_6 (by decide) ?_
  refine x_istore (ls' := [_, _, _, _, _, _, _, _]) eX4_walk_7 (by decide) rfl rfl ?_
  refine q_le (ls' := [some _, some _, none, some _, some _, some _, some _, none]) ⟨rfl, rfl, rfl, rfl, rfl, rfl, trivial⟩ ?_
  obtain ⟨m17, hw⟩ := hw
  exact tX4_walk_9 m17 _ _ _ _ _ _ _ hw
def wX4_isCycle_23 (Q : Int32 → MH → Prop) : Nat → Nat → Int32 → Int32 → MH → Prop
  | 0, _, _, _, _ => False
  | n + 1, x0, x1, x2, h => hS h x0 = (1, 4) ∧ (hI h x0 3 ≤ x2 → Q (nI 0) h) ∧ (¬ (hI h x0 3 ≤ x2) → (((x1 >>> (x2 &&& 31)) &&& nI 1) = 0 → wX4_isCycle_23 Q n x0 x1 (x2 + nI 1) h) ∧ (¬ (((x1 >>> (x2 &&& 31)) &&& nI 1) = 0) → ∃ a7, hR h x0 4 = some a7 ∧ ∃ n10, hS h a7 = (2, n10) ∧ vp_in (x2) n10 ∧ vp_in (x2) n10 ∧ wX4_walk x0 x1 (hI h a7 (x2).toNatClampNeg) (hI h a7 (x2).toNatClampNeg) h (fun r13 h14 => ((if r13 = x1 then nI 1 else nI 0) = 0 ∨ (if r13 = x1 then nI 1 else nI 0) = 1) ∧ Q ((if r13 = x1 then nI 1 else nI 0)) h14)))
set_option maxHeartbeats 4000000 in
set_option maxRecDepth 100000 in
theorem tX4_isCycle_23 {Q : Int32 → MH → Prop} : ∀ (n : Nat) (h : MH) (x0 : Nat) (x1 : Int32) (x2 : Int32), wX4_isCycle_23 Q n x0 x1 x2 h → Wm MX4_isCycle 2 0 0 23 [some (.ref (x0)), some (.int (x1)), some (.int (x2))] [] h (pI Q) := by
  intro n
  induction n with
  | zero => intro h x0 x1 x2 hw; exact hw.elim
  | succ n ih =>
    intro h x0 x1 x2 hw
    unfold wX4_isCycle_23 at hw
    refine q_iload_n eX4_isCycle_23 rfl ?_
    refine q_aload_nr eX4_isCycle_24 rfl ?_
    obtain ⟨hs6, hw⟩ := hw
    refine q_getI flX4_21 rfl hs6 eX4_isCycle_25 ?_
    obtain ⟨hw1, hw2⟩ := hw
    refine q_icmp_ge (tgt := 72) eX4_isCycle_28 (by decide) (fun c => ?_) (fun c => ?_)
    · have hw := hw1 c
      refine q_iconst (v := nI 0) eX4_isCycle_72 (by decide) ?_
      exact q_retZ rfl (by decide) eX4_isCycle_73 ⟨_, rfl, hw⟩
    · have hw := hw2 c
      refine q_iload_n eX4_isCycle_31 rfl ?_
      refine q_iload_n eX4_isCycle_32 rfl ?_
      refine q_ishr eX4_isCycle_33 ?_
      refine q_iconst (v := nI 1) eX4_isCycle_34 (by decide) ?_
      refine q_iand eX4_isCycle_35 ?_
      obtain ⟨hw1, hw2⟩ := hw
      refine q_if_eq (tgt := 66) eX4_isCycle_36 (by decide) (fun c => ?_) (fun c => ?_)
      · have hw := hw1 c
        refine x_iinc (v := (x2 + nI 1)) (ls' := [_, _, _]) eX4_isCycle_66 rfl rfl rfl rfl ?_
        refine q_goto (tgt := 23) eX4_isCycle_69 (by decide) ?_
        refine q_le (ls' := [some _, some _, some _]) ⟨rfl, rfl, rfl, trivial⟩ ?_
        exact ih _ _ _ _ hw
      · have hw := hw2 c
        refine q_aload_nr eX4_isCycle_39 rfl ?_
        refine q_iload_n eX4_isCycle_40 rfl ?_
        refine q_aload_nr eX4_isCycle_41 rfl ?_
        obtain ⟨a7, hr8, hw⟩ := hw
        refine q_getR flX4_24 rfl hs6 hr8 eX4_isCycle_42 ?_
        refine q_iload_n eX4_isCycle_45 rfl ?_
        obtain ⟨n10, hs9, hw⟩ := hw
        obtain ⟨hi11, hw⟩ := hw
        refine q_iald hs9 hi11 eX4_isCycle_46 ?_
        refine q_aload_nr eX4_isCycle_47 rfl ?_
        refine q_getR flX4_24 rfl hs6 hr8 eX4_isCycle_48 ?_
        refine q_iload_n eX4_isCycle_51 rfl ?_
        obtain ⟨hi12, hw⟩ := hw
        refine q_iald hs9 hi12 eX4_isCycle_52 ?_
        refine q_callV (b := 0) (t := 0) (gX4_walk _ _ _ _ _ _ hw) mlX4_97 kX4_walk vX4_walk rfl hs6 ⟨rfl, rfl⟩ (by decide) rfl (Nat.le_of_ble_eq_true rfl) eX4_isCycle_53 (kI fun r13 h14 hw => ?_)
        refine q_iload_n eX4_isCycle_56 rfl ?_
        have hj17 : Wm MX4_isCycle 2 0 0 65 [some (.ref (x0)), some (.int (x1)), some (.int (x2))] [.int ((if r13 = x1 then nI 1 else nI 0))] h14 (pI Q) := by
          obtain ⟨hz16, hw⟩ := hw
          exact q_retZ rfl hz16 eX4_isCycle_65 ⟨_, rfl, hw⟩
        refine q_icmp_ne (tgt := 64) eX4_isCycle_57 (by decide) (fun c => ?_) (fun c => ?_)
        · refine q_iconst (v := nI 0) eX4_isCycle_64 (by decide) ?_
          rw [if_neg c] at hj17
          exact hj17
        · refine q_iconst (v := nI 1) eX4_isCycle_60 (by decide) ?_
          refine q_goto (tgt := 65) eX4_isCycle_61 (by decide) ?_
          rw [if_pos c] at hj17
          exact hj17
def wX4_isCycle (x0 : Nat) (x1 : Int32) (h : MH) (Q : Int32 → MH → Prop) : Prop := wJ6_bitCount_0f7a4 x1 h (fun r1 h2 => (r1 < nI 3 → Q (nI 0) h2) ∧ (¬ (r1 < nI 3) → hS h2 x0 = (1, 4) ∧ wX4_endsAtNodes x0 x1 h2 (fun r4 h5 => ((r4 &&& (-572662307 : Int32)) = 0 → ∃ m18, wX4_isCycle_23 Q m18 x0 x1 (nI 0) h5) ∧ (¬ ((r4 &&& (-572662307 : Int32)) = 0) → Q (nI 0) h5))))
set_option maxHeartbeats 4000000 in
set_option maxRecDepth 100000 in
theorem gX4_isCycle (x0 : Nat) (x1 : Int32) (h : MH) (Q : Int32 → MH → Prop) (hw : wX4_isCycle x0 x1 h Q) : Cm MX4_isCycle 2 0 0 [.ref (x0), .int (x1)] h (pI Q) := by
  refine cm_of [some (.ref (x0)), some (.int (x1)), none] rfl pnX4 (Nat.le_of_ble_eq_true rfl) rfl ?_
  unfold wX4_isCycle at hw
  refine q_iload_n eX4_isCycle_0 rfl ?_
  refine q_callS (b := 0) (t := 0) (gJ6_bitCount_0f7a4 _ _ _ hw) mlX4_72 kJ6_bitCount_0f7a4 sJ6_bitCount_0f7a4 rfl (by decide) rfl (Nat.le_of_ble_eq_true rfl) eX4_isCycle_1 (kI fun r1 h2 hw => ?_)
  refine q_iconst (v := nI 3) eX4_isCycle_4 (by decide) ?_
  obtain ⟨hw1, hw2⟩ := hw
  refine q_icmp_lt (tgt := 19) eX4_isCycle_5 (by decide) (fun c => ?_) (fun c => ?_)
  · have hw := hw1 c
    refine q_iconst (v := nI 0) eX4_isCycle_19 (by decide) ?_
    exact q_retZ rfl (by decide) eX4_isCycle_20 ⟨_, rfl, hw⟩
  · have hw := hw2 c
    refine q_aload_nr eX4_isCycle_8 rfl ?_
    refine q_iload_n eX4_isCycle_9 rfl ?_
    obtain ⟨hs3, hw⟩ := hw
    refine q_callV (b := 0) (t := 0) (gX4_endsAtNodes _ _ _ _ hw) mlX4_93 kX4_endsAtNodes vX4_endsAtNodes rfl hs3 ⟨rfl, rfl⟩ (by decide) rfl (Nat.le_of_ble_eq_true rfl) eX4_isCycle_10 (kI fun r4 h5 hw => ?_)
    refine q_ldc coX4_96 eX4_isCycle_13 ?_
    refine q_iand eX4_isCycle_15 ?_
    obtain ⟨hw1, hw2⟩ := hw
    refine q_if_eq (tgt := 21) eX4_isCycle_16 (by decide) (fun c => ?_) (fun c => ?_)
    · have hw := hw1 c
      refine q_iconst (v := nI 0) eX4_isCycle_21 (by decide) ?_
      refine x_istore_n (ls' := [_, _, _]) eX4_isCycle_22 (by decide) rfl rfl ?_
      refine q_le (ls' := [some _, some _, some _]) ⟨rfl, rfl, rfl, trivial⟩ ?_
      obtain ⟨m18, hw⟩ := hw
      exact tX4_isCycle_23 m18 _ _ _ _ hw
    · have hw := hw2 c
      refine q_iconst (v := nI 0) eX4_isCycle_19 (by decide) ?_
      exact q_retZ rfl (by decide) eX4_isCycle_20 ⟨_, rfl, hw⟩
def wX4_lookAround_56 (Q : MH → Prop) : Nat → Nat → Int32 → Int32 → MH → Prop
  | 0, _, _, _, _ => False
  | n + 1, x0, x1, x3, h => hS h x0 = (1, 4) ∧ (hI h x0 3 ≤ x3 → Q h) ∧ (¬ (hI h x0 3 ≤ x3) → ∃ a11, hR h x0 11 = some a11 ∧ ∃ n14, hS h a11 = (2, n14) ∧ vp_in (x1) n14 ∧ (((hI h a11 (x1).toNatClampNeg >>> (x3 &&& 31)) &&& nI 1) = 0 → ∃ a16, hR h x0 12 = some a16 ∧ ∃ n19, hS h a16 = (2, n19) ∧ vp_in (x1) n19 ∧ ∃ a21, hR h x0 4 = some a21 ∧ ∃ n24, hS h a21 = (2, n24) ∧ vp_in (x3) n24 ∧ vp_in (x1) n19 ∧ ∃ a27, hR h x0 5 = some a27 ∧ ∃ n30, hS h a27 = (2, n30) ∧ vp_in (x3) n30 ∧ ((((hI h a16 (x1).toNatClampNeg >>> (hI h a21 (x3).toNatClampNeg &&& 31)) &&& (hI h a16 (x1).toNatClampNeg >>> (hI h a27 (x3).toNatClampNeg &&& 31))) &&& nI 1) = 0 → wX4_lookAround_56 Q n x0 x1 (x3 + nI 1) h) ∧ (¬ ((((hI h a16 (x1).toNatClampNeg >>> (hI h a21 (x3).toNatClampNeg &&& 31)) &&& (hI h a16 (x1).toNatClampNeg >>> (hI h a27 (x3).toNatClampNeg &&& 31))) &&& nI 1) = 0) → ∃ a32, hR h x0 13 = some a32 ∧ ∃ n35, hS h a32 = (2, n35) ∧ vp_in (x1) n35 ∧ vp_in (x1) n35 ∧ ∀ h38, h38 = sI h a32 (x1).toNatClampNeg ((hI h a32 (x1).toNatClampNeg ||| (nI 1 <<< (x3 &&& 31)))) → vp_in (x1) n14 ∧ vp_in (x3) n24 ∧ vp_in (x3) n30 ∧ wX4_walk x0 (hI h38 a11 (x1).toNatClampNeg) (hI h38 a21 (x3).toNatClampNeg) (hI h38 a27 (x3).toNatClampNeg) h38 (fun r42 h43 => hS h43 x0 = (1, 4) ∧ ∃ a45, hR h43 x0 14 = some a45 ∧ ∃ a47, hR h43 x0 11 = some a47 ∧ ∃ n50, hS h43 a47 = (2, n50) ∧ vp_in (x1) n50 ∧ ∃ n53, hS h43 a45 = (2, n53) ∧ vp_in ((((x1 * nI 10) + x3) * nI 2)) n53 ∧ ∀ h55, h55 = sI h43 a45 ((((x1 * nI 10) + x3) * nI 2)).toNatClampNeg ((if (hI h43 a47 (x1).toNatClampNeg &&& (r42 ^^^ (-1 : Int32))) < r42 then (hI h43 a47 (x1).toNatClampNeg &&& (r42 ^^^ (-1 : Int32))) else r42)) → vp_in (x1) n50 ∧ vp_in (((((x1 * nI 10) + x3) * nI 2) + nI 1)) n53 ∧ ∀ h58, h58 = sI h55 a45 (((((x1 * nI 10) + x3) * nI 2) + nI 1)).toNatClampNeg ((if r42 < (hI h55 a47 (x1).toNatClampNeg &&& (r42 ^^^ (-1 : Int32))) then (hI h55 a47 (x1).toNatClampNeg &&& (r42 ^^^ (-1 : Int32))) else r42)) → wX4_lookAround_56 Q n x0 x1 (x3 + nI 1) h58))) ∧ (¬ (((hI h a11 (x1).toNatClampNeg >>> (x3 &&& 31)) &&& nI 1) = 0) → ∃ a59, hR h x0 14 = some a59 ∧ vp_in (x1) n14 ∧ ∃ n63, hS h a59 = (2, n63) ∧ vp_in ((((x1 * nI 10) + x3) * nI 2)) n63 ∧ ∀ h65, h65 = sI h a59 ((((x1 * nI 10) + x3) * nI 2)).toNatClampNeg ((hI h a11 (x1).toNatClampNeg &&& ((nI 1 <<< (x3 &&& 31)) ^^^ (-1 : Int32)))) → wX4_lookAround_56 Q n x0 x1 (x3 + nI 1) h65))
set_option maxHeartbeats 4000000 in
set_option maxRecDepth 100000 in
theorem tX4_lookAround_56 {Q : MH → Prop} : ∀ (n : Nat) (h : MH) (x0 : Nat) (x1 : Int32) (x3 : Int32), wX4_lookAround_56 Q n x0 x1 x3 h → Wm MX4_lookAround 2 0 0 56 [some (.ref (x0)), some (.int (x1)), none, some (.int (x3)), none, none] [] h (pV Q) := by
  intro n
  induction n with
  | zero => intro h x0 x1 x3 hw; exact hw.elim
  | succ n ih =>
    intro h x0 x1 x3 hw
    unfold wX4_lookAround_56 at hw
    refine q_iload_n eX4_lookAround_56 rfl ?_
    refine q_aload_nr eX4_lookAround_57 rfl ?_
    obtain ⟨hs10, hw⟩ := hw
    refine q_getI flX4_21 rfl hs10 eX4_lookAround_58 ?_
    obtain ⟨hw1, hw2⟩ := hw
    refine q_icmp_ge (tgt := 231) eX4_lookAround_61 (by decide) (fun c => ?_) (fun c => ?_)
    · have hw := hw1 c
      exact q_retV rfl eX4_lookAround_231 ⟨rfl, hw⟩
    · have hw := hw2 c
      refine q_iload_n eX4_lookAround_64 rfl ?_
      refine q_bipush (v := nI 10) eX4_lookAround_65 (by decide) ?_
      refine q_imul eX4_lookAround_67 ?_
      refine q_iload_n eX4_lookAround_68 rfl ?_
      refine q_iadd eX4_lookAround_69 ?_
      refine q_iconst (v := nI 2) eX4_lookAround_70 (by decide) ?_
      refine q_imul eX4_lookAround_71 ?_
      refine x_istore (ls' := [_, _, _, _, _, _]) eX4_lookAround_72 (by decide) rfl rfl ?_
      refine q_aload_nr eX4_lookAround_74 rfl ?_
      obtain ⟨a11, hr12, hw⟩ := hw
      refine q_getR flX4_47 rfl hs10 hr12 eX4_lookAround_75 ?_
      refine q_iload_n eX4_lookAround_78 rfl ?_
      obtain ⟨n14, hs13, hw⟩ := hw
      obtain ⟨hi15, hw⟩ := hw
      refine q_iald hs13 hi15 eX4_lookAround_79 ?_
      refine q_iload_n eX4_lookAround_80 rfl ?_
      refine q_ishr eX4_lookAround_81 ?_
      refine q_iconst (v := nI 1) eX4_lookAround_82 (by decide) ?_
      refine q_iand eX4_lookAround_83 ?_
      obtain ⟨hw1, hw2⟩ := hw
      refine q_if_eq (tgt := 109) eX4_lookAround_84 (by decide) (fun c => ?_) (fun c => ?_)
      · have hw := hw1 c
        refine q_aload_nr eX4_lookAround_109 rfl ?_
        obtain ⟨a16, hr17, hw⟩ := hw
        refine q_getR flX4_50 rfl hs10 hr17 eX4_lookAround_110 ?_
        refine q_iload_n eX4_lookAround_113 rfl ?_
        obtain ⟨n19, hs18, hw⟩ := hw
        obtain ⟨hi20, hw⟩ := hw
        refine q_iald hs18 hi20 eX4_lookAround_114 ?_
        refine q_aload_nr eX4_lookAround_115 rfl ?_
        obtain ⟨a21, hr22, hw⟩ := hw
        refine q_getR flX4_24 rfl hs10 hr22 eX4_lookAround_116 ?_
        refine q_iload_n eX4_lookAround_119 rfl ?_
        obtain ⟨n24, hs23, hw⟩ := hw
        obtain ⟨hi25, hw⟩ := hw
        refine q_iald hs23 hi25 eX4_lookAround_120 ?_
        refine q_ishr eX4_lookAround_121 ?_
        refine q_aload_nr eX4_lookAround_122 rfl ?_
        refine q_getR flX4_50 rfl hs10 hr17 eX4_lookAround_123 ?_
        refine q_iload_n eX4_lookAround_126 rfl ?_
        obtain ⟨hi26, hw⟩ := hw
        refine q_iald hs18 hi26 eX4_lookAround_127 ?_
        refine q_aload_nr eX4_lookAround_128 rfl ?_
        obtain ⟨a27, hr28, hw⟩ := hw
        refine q_getR flX4_28 rfl hs10 hr28 eX4_lookAround_129 ?_
        refine q_iload_n eX4_lookAround_132 rfl ?_
        obtain ⟨n30, hs29, hw⟩ := hw
        obtain ⟨hi31, hw⟩ := hw
        refine q_iald hs29 hi31 eX4_lookAround_133 ?_
        refine q_ishr eX4_lookAround_134 ?_
        refine q_iand eX4_lookAround_135 ?_
        refine q_iconst (v := nI 1) eX4_lookAround_136 (by decide) ?_
        refine q_iand eX4_lookAround_137 ?_
        obtain ⟨hw1, hw2⟩ := hw
        refine q_if_eq (tgt := 225) eX4_lookAround_138 (by decide) (fun c => ?_) (fun c => ?_)
        · have hw := hw1 c
          refine x_iinc (v := (x3 + nI 1)) (ls' := [_, _, _, _, _, _]) eX4_lookAround_225 rfl rfl rfl rfl ?_
          refine q_goto (tgt := 56) eX4_lookAround_228 (by decide) ?_
          refine q_le (ls' := [some _, some _, none, some _, none, none]) ⟨rfl, rfl, rfl, trivial⟩ ?_
          exact ih _ _ _ _ hw
        · have hw := hw2 c
          refine q_aload_nr eX4_lookAround_141 rfl ?_
          obtain ⟨a32, hr33, hw⟩ := hw
          refine q_getR flX4_53 rfl hs10 hr33 eX4_lookAround_142 ?_
          refine q_iload_n eX4_lookAround_145 rfl ?_
          refine q_dup2 eX4_lookAround_146 rfl rfl ?_
          obtain ⟨n35, hs34, hw⟩ := hw
          obtain ⟨hi36, hw⟩ := hw
          refine q_iald hs34 hi36 eX4_lookAround_147 ?_
          refine q_iconst (v := nI 1) eX4_lookAround_148 (by decide) ?_
          refine q_iload_n eX4_lookAround_149 rfl ?_
          refine q_ishl eX4_lookAround_150 ?_
          refine q_ior eX4_lookAround_151 ?_
          obtain ⟨hi37, hw⟩ := hw
          have hw := hw _ rfl
          refine q_iast hs34 hi37 eX4_lookAround_152 ?_
          refine q_aload_nr eX4_lookAround_153 rfl ?_
          refine q_aload_nr eX4_lookAround_154 rfl ?_
          refine q_getR flX4_47 rfl hs10 hr12 eX4_lookAround_155 ?_
          refine q_iload_n eX4_lookAround_158 rfl ?_
          obtain ⟨hi39, hw⟩ := hw
          refine q_iald hs13 hi39 eX4_lookAround_159 ?_
          refine q_aload_nr eX4_lookAround_160 rfl ?_
          refine q_getR flX4_24 rfl hs10 hr22 eX4_lookAround_161 ?_
          refine q_iload_n eX4_lookAround_164 rfl ?_
          obtain ⟨hi40, hw⟩ := hw
          refine q_iald hs23 hi40 eX4_lookAround_165 ?_
          refine q_aload_nr eX4_lookAround_166 rfl ?_
          refine q_getR flX4_28 rfl hs10 hr28 eX4_lookAround_167 ?_
          refine q_iload_n eX4_lookAround_170 rfl ?_
          obtain ⟨hi41, hw⟩ := hw
          refine q_iald hs29 hi41 eX4_lookAround_171 ?_
          refine q_callV (b := 0) (t := 0) (gX4_walk _ _ _ _ _ _ hw) mlX4_97 kX4_walk vX4_walk rfl hs10 ⟨rfl, rfl⟩ (by decide) rfl (Nat.le_of_ble_eq_true rfl) eX4_lookAround_172 (kI fun r42 h43 hw => ?_)
          refine x_istore (ls' := [_, _, _, _, _, _]) eX4_lookAround_175 (by decide) rfl rfl ?_
          refine q_aload_nr eX4_lookAround_177 rfl ?_
          obtain ⟨hs44, hw⟩ := hw
          obtain ⟨a45, hr46, hw⟩ := hw
          refine q_getR flX4_56 rfl hs44 hr46 eX4_lookAround_178 ?_
          refine q_iload eX4_lookAround_181 rfl ?_
          refine q_iload eX4_lookAround_183 rfl ?_
          refine q_aload_nr eX4_lookAround_185 rfl ?_
          obtain ⟨a47, hr48, hw⟩ := hw
          refine q_getR flX4_47 rfl hs44 hr48 eX4_lookAround_186 ?_
          refine q_iload_n eX4_lookAround_189 rfl ?_
          obtain ⟨n50, hs49, hw⟩ := hw
          obtain ⟨hi51, hw⟩ := hw
          refine q_iald hs49 hi51 eX4_lookAround_190 ?_
          refine q_iload eX4_lookAround_191 rfl ?_
          refine q_iconst (v := (-1 : Int32)) eX4_lookAround_193 (by decide) ?_
          refine q_ixor eX4_lookAround_194 ?_
          refine q_iand eX4_lookAround_195 ?_
          refine q_mmin mlX4_105 sMmin iNMath cMmin (by decide) (Nat.le_of_ble_eq_true rfl) eX4_lookAround_196 ?_
          obtain ⟨n53, hs52, hw⟩ := hw
          obtain ⟨hi54, hw⟩ := hw
          have hw := hw _ rfl
          refine q_iast hs52 hi54 eX4_lookAround_199 ?_
          refine q_aload_nr eX4_lookAround_200 rfl ?_
          refine q_getR flX4_56 rfl hs44 hr46 eX4_lookAround_201 ?_
          refine q_iload eX4_lookAround_204 rfl ?_
          refine q_iconst (v := nI 1) eX4_lookAround_206 (by decide) ?_
          refine q_iadd eX4_lookAround_207 ?_
          refine q_iload eX4_lookAround_208 rfl ?_
          refine q_aload_nr eX4_lookAround_210 rfl ?_
          refine q_getR flX4_47 rfl hs44 hr48 eX4_lookAround_211 ?_
          refine q_iload_n eX4_lookAround_214 rfl ?_
          obtain ⟨hi56, hw⟩ := hw
          refine q_iald hs49 hi56 eX4_lookAround_215 ?_
          refine q_iload eX4_lookAround_216 rfl ?_
          refine q_iconst (v := (-1 : Int32)) eX4_lookAround_218 (by decide) ?_
          refine q_ixor eX4_lookAround_219 ?_
          refine q_iand eX4_lookAround_220 ?_
          refine q_mmax mlX4_110 sMmax iNMath cMmax (by decide) (Nat.le_of_ble_eq_true rfl) eX4_lookAround_221 ?_
          obtain ⟨hi57, hw⟩ := hw
          have hw := hw _ rfl
          refine q_iast hs52 hi57 eX4_lookAround_224 ?_
          refine x_iinc (v := (x3 + nI 1)) (ls' := [_, _, _, _, _, _]) eX4_lookAround_225 rfl rfl rfl rfl ?_
          refine q_goto (tgt := 56) eX4_lookAround_228 (by decide) ?_
          refine q_le (ls' := [some _, some _, none, some _, none, none]) ⟨rfl, rfl, rfl, trivial⟩ ?_
          exact ih _ _ _ _ hw
      · have hw := hw2 c
        refine q_aload_nr eX4_lookAround_87 rfl ?_
        obtain ⟨a59, hr60, hw⟩ := hw
        refine q_getR flX4_56 rfl hs10 hr60 eX4_lookAround_88 ?_
        refine q_iload eX4_lookAround_91 rfl ?_
        refine q_aload_nr eX4_lookAround_93 rfl ?_
        refine q_getR flX4_47 rfl hs10 hr12 eX4_lookAround_94 ?_
        refine q_iload_n eX4_lookAround_97 rfl ?_
        obtain ⟨hi61, hw⟩ := hw
        refine q_iald hs13 hi61 eX4_lookAround_98 ?_
        refine q_iconst (v := nI 1) eX4_lookAround_99 (by decide) ?_
        refine q_iload_n eX4_lookAround_100 rfl ?_
        refine q_ishl eX4_lookAround_101 ?_
        refine q_iconst (v := (-1 : Int32)) eX4_lookAround_102 (by decide) ?_
        refine q_ixor eX4_lookAround_103 ?_
        refine q_iand eX4_lookAround_104 ?_
        obtain ⟨n63, hs62, hw⟩ := hw
        obtain ⟨hi64, hw⟩ := hw
        have hw := hw _ rfl
        refine q_iast hs62 hi64 eX4_lookAround_105 ?_
        refine q_goto (tgt := 225) eX4_lookAround_106 (by decide) ?_
        refine x_iinc (v := (x3 + nI 1)) (ls' := [_, _, _, _, _, _]) eX4_lookAround_225 rfl rfl rfl rfl ?_
        refine q_goto (tgt := 56) eX4_lookAround_228 (by decide) ?_
        refine q_le (ls' := [some _, some _, none, some _, none, none]) ⟨rfl, rfl, rfl, trivial⟩ ?_
        exact ih _ _ _ _ hw
def wX4_lookAround_13 (Q : MH → Prop) : Nat → Nat → Int32 → Int32 → Int32 → MH → Prop
  | 0, _, _, _, _, _ => False
  | n + 1, x0, x1, x2, x3, h => hS h x0 = (1, 4) ∧ (hI h x0 0 ≤ x3 → ∃ m66, wX4_lookAround_56 Q m66 x0 x1 (nI 0) h) ∧ (¬ (hI h x0 0 ≤ x3) → ∃ a67, hR h x0 12 = some a67 ∧ ∃ n70, hS h a67 = (2, n70) ∧ vp_in (x1) n70 ∧ vp_in (x1) n70 ∧ ∀ h74, h74 = sI h a67 (x1).toNatClampNeg ((hI h a67 (x1).toNatClampNeg ||| (if ((x2 >>> ((nI 4 * x3) &&& 31)) &&& nI 15) = 0 then nI 0 else (nI 1 <<< (x3 &&& 31))))) → wX4_lookAround_13 Q n x0 x1 x2 (x3 + nI 1) h74)
set_option maxHeartbeats 4000000 in
set_option maxRecDepth 100000 in
theorem tX4_lookAround_13 {Q : MH → Prop} : ∀ (n : Nat) (h : MH) (x0 : Nat) (x1 : Int32) (x2 : Int32) (x3 : Int32), wX4_lookAround_13 Q n x0 x1 x2 x3 h → Wm MX4_lookAround 2 0 0 13 [some (.ref (x0)), some (.int (x1)), some (.int (x2)), some (.int (x3)), none, none] [] h (pV Q) := by
  intro n
  induction n with
  | zero => intro h x0 x1 x2 x3 hw; exact hw.elim
  | succ n ih =>
    intro h x0 x1 x2 x3 hw
    unfold wX4_lookAround_13 at hw
    refine q_iload_n eX4_lookAround_13 rfl ?_
    refine q_aload_nr eX4_lookAround_14 rfl ?_
    obtain ⟨hs9, hw⟩ := hw
    refine q_getI flX4_9 rfl hs9 eX4_lookAround_15 ?_
    obtain ⟨hw1, hw2⟩ := hw
    refine q_icmp_ge (tgt := 54) eX4_lookAround_18 (by decide) (fun c => ?_) (fun c => ?_)
    · have hw := hw1 c
      refine q_iconst (v := nI 0) eX4_lookAround_54 (by decide) ?_
      refine x_istore_n (ls' := [_, _, _, _, _, _]) eX4_lookAround_55 (by decide) rfl rfl ?_
      refine q_le (ls' := [some _, some _, none, some _, none, none]) ⟨rfl, rfl, rfl, trivial⟩ ?_
      obtain ⟨m66, hw⟩ := hw
      exact tX4_lookAround_56 m66 _ _ _ _ hw
    · have hw := hw2 c
      refine q_aload_nr eX4_lookAround_21 rfl ?_
      obtain ⟨a67, hr68, hw⟩ := hw
      refine q_getR flX4_50 rfl hs9 hr68 eX4_lookAround_22 ?_
      refine q_iload_n eX4_lookAround_25 rfl ?_
      refine q_dup2 eX4_lookAround_26 rfl rfl ?_
      obtain ⟨n70, hs69, hw⟩ := hw
      obtain ⟨hi71, hw⟩ := hw
      refine q_iald hs69 hi71 eX4_lookAround_27 ?_
      refine q_iload_n eX4_lookAround_28 rfl ?_
      refine q_iconst (v := nI 4) eX4_lookAround_29 (by decide) ?_
      refine q_iload_n eX4_lookAround_30 rfl ?_
      refine q_imul eX4_lookAround_31 ?_
      refine q_ishr eX4_lookAround_32 ?_
      refine q_bipush (v := nI 15) eX4_lookAround_33 (by decide) ?_
      refine q_iand eX4_lookAround_35 ?_
      have hj75 : Wm MX4_lookAround 2 0 0 46 [some (.ref (x0)), some (.int (x1)), some (.int (x2)), some (.int (x3)), none, none] [.int ((if ((x2 >>> ((nI 4 * x3) &&& 31)) &&& nI 15) = 0 then nI 0 else (nI 1 <<< (x3 &&& 31)))), .int (hI h a67 (x1).toNatClampNeg), .int (x1), .ref (a67)] h (pV Q) := by
        refine q_ior eX4_lookAround_46 ?_
        obtain ⟨hi73, hw⟩ := hw
        have hw := hw _ rfl
        refine q_iast hs69 hi73 eX4_lookAround_47 ?_
        refine x_iinc (v := (x3 + nI 1)) (ls' := [_, _, _, _, _, _]) eX4_lookAround_48 rfl rfl rfl rfl ?_
        refine q_goto (tgt := 13) eX4_lookAround_51 (by decide) ?_
        refine q_le (ls' := [some _, some _, some _, some _, none, none]) ⟨rfl, rfl, rfl, rfl, trivial⟩ ?_
        exact ih _ _ _ _ _ hw
      refine q_if_eq (tgt := 45) eX4_lookAround_36 (by decide) (fun c => ?_) (fun c => ?_)
      · refine q_iconst (v := nI 0) eX4_lookAround_45 (by decide) ?_
        rw [if_pos c] at hj75
        exact hj75
      · refine q_iconst (v := nI 1) eX4_lookAround_39 (by decide) ?_
        refine q_iload_n eX4_lookAround_40 rfl ?_
        refine q_ishl eX4_lookAround_41 ?_
        refine q_goto (tgt := 46) eX4_lookAround_42 (by decide) ?_
        rw [if_neg c] at hj75
        exact hj75
def wX4_lookAround (x0 : Nat) (x1 : Int32) (h : MH) (Q : MH → Prop) : Prop := hS h x0 = (1, 4) ∧ ∃ a2, hR h x0 11 = some a2 ∧ ∃ n5, hS h a2 = (2, n5) ∧ vp_in (x1) n5 ∧ wX4_endsAtNodes x0 (hI h a2 (x1).toNatClampNeg) h (fun r7 h8 => ∃ m76, wX4_lookAround_13 Q m76 x0 x1 r7 (nI 0) h8)
set_option maxHeartbeats 4000000 in
set_option maxRecDepth 100000 in
theorem gX4_lookAround (x0 : Nat) (x1 : Int32) (h : MH) (Q : MH → Prop) (hw : wX4_lookAround x0 x1 h Q) : Cm MX4_lookAround 2 0 0 [.ref (x0), .int (x1)] h (pV Q) := by
  refine cm_of [some (.ref (x0)), some (.int (x1)), none, none, none, none] rfl pnX4 (Nat.le_of_ble_eq_true rfl) rfl ?_
  unfold wX4_lookAround at hw
  refine q_aload_nr eX4_lookAround_0 rfl ?_
  refine q_aload_nr eX4_lookAround_1 rfl ?_
  obtain ⟨hs1, hw⟩ := hw
  obtain ⟨a2, hr3, hw⟩ := hw
  refine q_getR flX4_47 rfl hs1 hr3 eX4_lookAround_2 ?_
  refine q_iload_n eX4_lookAround_5 rfl ?_
  obtain ⟨n5, hs4, hw⟩ := hw
  obtain ⟨hi6, hw⟩ := hw
  refine q_iald hs4 hi6 eX4_lookAround_6 ?_
  refine q_callV (b := 0) (t := 0) (gX4_endsAtNodes _ _ _ _ hw) mlX4_93 kX4_endsAtNodes vX4_endsAtNodes rfl hs1 ⟨rfl, rfl⟩ (by decide) rfl (Nat.le_of_ble_eq_true rfl) eX4_lookAround_7 (kI fun r7 h8 hw => ?_)
  refine x_istore_n (ls' := [_, _, _, _, _, _]) eX4_lookAround_10 (by decide) rfl rfl ?_
  refine q_iconst (v := nI 0) eX4_lookAround_11 (by decide) ?_
  refine x_istore_n (ls' := [_, _, _, _, _, _]) eX4_lookAround_12 (by decide) rfl rfl ?_
  refine q_le (ls' := [some _, some _, some _, some _, none, none]) ⟨rfl, rfl, rfl, rfl, trivial⟩ ?_
  obtain ⟨m76, hw⟩ := hw
  exact tX4_lookAround_13 m76 _ _ _ _ _ hw
def wX4_findCycles_105 (Q : MH → Prop) : Nat → Nat → Nat → Nat → Nat → Int32 → MH → Prop
  | 0, _, _, _, _, _, _ => False
  | n + 1, b, t, x0, x1, x2, h => hS h x0 = (1, 4) ∧ (hI h x0 10 ≤ x2 → Q h) ∧ (¬ (hI h x0 10 ≤ x2) → ∃ a39, hR h x0 11 = some a39 ∧ ∃ n42, hS h x1 = (2, n42) ∧ vp_in (x2) n42 ∧ ∃ n45, hS h a39 = (2, n45) ∧ vp_in (x2) n45 ∧ ∀ h47, h47 = sI h a39 (x2).toNatClampNeg (hI h x1 (x2).toNatClampNeg) → wX4_lookAround x0 x2 h47 (fun h49 => wX4_findCycles_105 Q n b t x0 x1 (x2 + nI 1) h49))
set_option maxHeartbeats 4000000 in
set_option maxRecDepth 100000 in
theorem tX4_findCycles_105 {Q : MH → Prop} : ∀ (n : Nat) (h : MH) (b t : Nat) (x0 : Nat) (x1 : Nat) (x2 : Int32), wX4_findCycles_105 Q n b t x0 x1 x2 h → Wm MX4_findCycles 3 b t 105 [some (.ref (x0)), some (.ref (x1)), some (.int (x2))] [] h (pV Q) := by
  intro n
  induction n with
  | zero => intro h b t x0 x1 x2 hw; exact hw.elim
  | succ n ih =>
    intro h b t x0 x1 x2 hw
    unfold wX4_findCycles_105 at hw
    refine q_iload_n eX4_findCycles_105 rfl ?_
    refine q_aload_nr eX4_findCycles_106 rfl ?_
    obtain ⟨hs38, hw⟩ := hw
    refine q_getI flX4_44 rfl hs38 eX4_findCycles_107 ?_
    obtain ⟨hw1, hw2⟩ := hw
    refine q_icmp_ge (tgt := 133) eX4_findCycles_110 (by decide) (fun c => ?_) (fun c => ?_)
    · have hw := hw1 c
      exact q_retV rfl eX4_findCycles_133 ⟨rfl, hw⟩
    · have hw := hw2 c
      refine q_aload_nr eX4_findCycles_113 rfl ?_
      obtain ⟨a39, hr40, hw⟩ := hw
      refine q_getR flX4_47 rfl hs38 hr40 eX4_findCycles_114 ?_
      refine q_iload_n eX4_findCycles_117 rfl ?_
      refine q_aload_nr eX4_findCycles_118 rfl ?_
      refine q_iload_n eX4_findCycles_119 rfl ?_
      obtain ⟨n42, hs41, hw⟩ := hw
      obtain ⟨hi43, hw⟩ := hw
      refine q_iald hs41 hi43 eX4_findCycles_120 ?_
      obtain ⟨n45, hs44, hw⟩ := hw
      obtain ⟨hi46, hw⟩ := hw
      have hw := hw _ rfl
      refine q_iast hs44 hi46 eX4_findCycles_121 ?_
      refine q_aload_nr eX4_findCycles_122 rfl ?_
      refine q_iload_n eX4_findCycles_123 rfl ?_
      refine q_bud (b' := b + 0) (t' := t + 0) (Nat.add_zero _) (Nat.add_zero _) ?_
      refine q_callV (b := b) (t := t) (gX4_lookAround _ _ _ _ hw) mlX4_89 kX4_lookAround vX4_lookAround rfl hs38 ⟨rfl, rfl⟩ (by decide) rfl (Nat.le_of_ble_eq_true rfl) eX4_findCycles_124 (kV fun h49 hw => ?_)
      refine x_iinc (v := (x2 + nI 1)) (ls' := [_, _, _]) eX4_findCycles_127 rfl rfl rfl rfl ?_
      refine q_goto (tgt := 105) eX4_findCycles_130 (by decide) ?_
      refine q_le (ls' := [some _, some _, some _]) ⟨rfl, rfl, rfl, trivial⟩ ?_
      exact ih _ _ _ _ _ _ hw
def wX4_findCycles_8 (Q : MH → Prop) : Nat → Nat → Nat → Nat → Nat → Int32 → MH → Prop
  | 0, _, _, _, _, _, _ => False
  | n + 1, b, t, x0, x1, x2, h => hS h x0 = (1, 4) ∧ ((nI 1 <<< (hI h x0 3 &&& 31)) ≤ x2 → ¬ hI h x0 10 < 0 ∧ (hI h x0 10).toNatClampNeg ≤ 60000 ∧ 1 ≤ b ∧ (hI h x0 10).toNatClampNeg ≤ t ∧ ∀ a6, a6 = hN h → ∀ h7, h7 = al h (2, (hI h x0 10).toNatClampNeg) → hS h7 x0 = (1, 4) ∧ ∀ h13, h13 = sR h7 x0 11 (some a6) → ¬ hI h13 x0 10 < 0 ∧ (hI h13 x0 10).toNatClampNeg ≤ 60000 ∧ 1 ≤ (b - 1) ∧ (hI h13 x0 10).toNatClampNeg ≤ (t - (0 + (hI h x0 10).toNatClampNeg)) ∧ ∀ a14, a14 = hN h13 → ∀ h15, h15 = al h13 (2, (hI h13 x0 10).toNatClampNeg) → hS h15 x0 = (1, 4) ∧ ∀ h21, h21 = sR h15 x0 12 (some a14) → ¬ hI h21 x0 10 < 0 ∧ (hI h21 x0 10).toNatClampNeg ≤ 60000 ∧ 1 ≤ (b - 2) ∧ (hI h21 x0 10).toNatClampNeg ≤ (t - (0 + (hI h x0 10).toNatClampNeg + (hI h13 x0 10).toNatClampNeg)) ∧ ∀ a22, a22 = hN h21 → ∀ h23, h23 = al h21 (2, (hI h21 x0 10).toNatClampNeg) → hS h23 x0 = (1, 4) ∧ ∀ h29, h29 = sR h23 x0 13 (some a22) → ¬ ((hI h29 x0 10 * nI 10) * nI 2) < 0 ∧ (((hI h29 x0 10 * nI 10) * nI 2)).toNatClampNeg ≤ 60000 ∧ 1 ≤ (b - 3) ∧ (((hI h29 x0 10 * nI 10) * nI 2)).toNatClampNeg ≤ (t - (0 + (hI h x0 10).toNatClampNeg + (hI h13 x0 10).toNatClampNeg + (hI h21 x0 10).toNatClampNeg)) ∧ ∀ a30, a30 = hN h29 → ∀ h31, h31 = al h29 (2, (((hI h29 x0 10 * nI 10) * nI 2)).toNatClampNeg) → hS h31 x0 = (1, 4) ∧ ∀ h37, h37 = sR h31 x0 14 (some a30) → ∃ m50, wX4_findCycles_105 Q m50 (b - 4) (t - (0 + (hI h x0 10).toNatClampNeg + (hI h13 x0 10).toNatClampNeg + (hI h21 x0 10).toNatClampNeg + (((hI h29 x0 10 * nI 10) * nI 2)).toNatClampNeg)) x0 x1 (nI 0) h37) ∧ (¬ ((nI 1 <<< (hI h x0 3 &&& 31)) ≤ x2) → (nI 40 ≤ hI h x0 10 → wX4_findCycles_8 Q n b t x0 x1 (x2 + nI 1) h) ∧ (¬ (nI 40 ≤ hI h x0 10) → wX4_isCycle x0 x2 h (fun r51 h52 => (r51 = 0 → wX4_findCycles_8 Q n b t x0 x1 (x2 + nI 1) h52) ∧ (¬ (r51 = 0) → hS h52 x0 = (1, 4) ∧ ∃ n55, hS h52 x1 = (2, n55) ∧ vp_in (hI h52 x0 10) n55 ∧ ∀ h57, h57 = sI h52 x1 (hI h52 x0 10).toNatClampNeg (x2) → ∀ h58, h58 = sI h57 x0 10 ((hI h57 x0 10 + nI 1)) → wX4_findCycles_8 Q n b t x0 x1 (x2 + nI 1) h58))))
set_option maxHeartbeats 4000000 in
set_option maxRecDepth 100000 in
theorem tX4_findCycles_8 {Q : MH → Prop} : ∀ (n : Nat) (h : MH) (b t : Nat) (x0 : Nat) (x1 : Nat) (x2 : Int32), wX4_findCycles_8 Q n b t x0 x1 x2 h → Wm MX4_findCycles 3 b t 8 [some (.ref (x0)), some (.ref (x1)), some (.int (x2))] [] h (pV Q) := by
  intro n
  induction n with
  | zero => intro h b t x0 x1 x2 hw; exact hw.elim
  | succ n ih =>
    intro h b t x0 x1 x2 hw
    unfold wX4_findCycles_8 at hw
    refine q_iload_n eX4_findCycles_8 rfl ?_
    refine q_iconst (v := nI 1) eX4_findCycles_9 (by decide) ?_
    refine q_aload_nr eX4_findCycles_10 rfl ?_
    obtain ⟨hs5, hw⟩ := hw
    refine q_getI flX4_21 rfl hs5 eX4_findCycles_11 ?_
    refine q_ishl eX4_findCycles_14 ?_
    obtain ⟨hw1, hw2⟩ := hw
    refine q_icmp_ge (tgt := 58) eX4_findCycles_15 (by decide) (fun c => ?_) (fun c => ?_)
    · have hw := hw1 c
      refine q_aload_nr eX4_findCycles_58 rfl ?_
      refine q_aload_nr eX4_findCycles_59 rfl ?_
      refine q_getI flX4_44 rfl hs5 eX4_findCycles_60 ?_
      obtain ⟨hc8, hc9, hc10, hc11, hw⟩ := hw
      have hw := hw _ rfl _ rfl
      refine q_bud (b' := (b - 1) + 1) (t' := (t - (0 + (hI h x0 10).toNatClampNeg)) + (hI h x0 10).toNatClampNeg) (by omega) (by omega) ?_
      refine q_newa (k := 2) (Or.inl rfl) rfl aC_int hc8 rfl hc9 eX4_findCycles_63 ?_
      obtain ⟨hs12, hw⟩ := hw
      have hw := hw _ rfl
      refine q_putR (fwX4_47 _) rfl hs12 eX4_findCycles_65 ?_
      refine q_aload_nr eX4_findCycles_68 rfl ?_
      refine q_aload_nr eX4_findCycles_69 rfl ?_
      refine q_getI flX4_44 rfl hs12 eX4_findCycles_70 ?_
      obtain ⟨hc16, hc17, hc18, hc19, hw⟩ := hw
      have hw := hw _ rfl _ rfl
      refine q_bud (b' := (b - 2) + 1) (t' := (t - (0 + (hI h x0 10).toNatClampNeg + (hI (sR (al h (2, (hI h x0 10).toNatClampNeg)) x0 11 (some (hN h))) x0 10).toNatClampNeg)) + (hI (sR (al h (2, (hI h x0 10).toNatClampNeg)) x0 11 (some (hN h))) x0 10).toNatClampNeg) (by omega) (by omega) ?_
      refine q_newa (k := 2) (Or.inl rfl) rfl aC_int hc16 rfl hc17 eX4_findCycles_73 ?_
      obtain ⟨hs20, hw⟩ := hw
      have hw := hw _ rfl
      refine q_putR (fwX4_50 _) rfl hs20 eX4_findCycles_75 ?_
      refine q_aload_nr eX4_findCycles_78 rfl ?_
      refine q_aload_nr eX4_findCycles_79 rfl ?_
      refine q_getI flX4_44 rfl hs20 eX4_findCycles_80 ?_
      obtain ⟨hc24, hc25, hc26, hc27, hw⟩ := hw
      have hw := hw _ rfl _ rfl
      refine q_bud (b' := (b - 3) + 1) (t' := (t - (0 + (hI h x0 10).toNatClampNeg + (hI (sR (al h (2, (hI h x0 10).toNatClampNeg)) x0 11 (some (hN h))) x0 10).toNatClampNeg + (hI (sR (al (sR (al h (2, (hI h x0 10).toNatClampNeg)) x0 11 (some (hN h))) (2, (hI (sR (al h (2, (hI h x0 10).toNatClampNeg)) x0 11 (some (hN h))) x0 10).toNatClampNeg)) x0 12 (some (hN (sR (al h (2, (hI h x0 10).toNatClampNeg)) x0 11 (some (hN h)))))) x0 10).toNatClampNeg)) + (hI (sR (al (sR (al h (2, (hI h x0 10).toNatClampNeg)) x0 11 (some (hN h))) (2, (hI (sR (al h (2, (hI h x0 10).toNatClampNeg)) x0 11 (some (hN h))) x0 10).toNatClampNeg)) x0 12 (some (hN (sR (al h (2, (hI h x0 10).toNatClampNeg)) x0 11 (some (hN h)))))) x0 10).toNatClampNeg) (by omega) (by omega) ?_
      refine q_newa (k := 2) (Or.inl rfl) rfl aC_int hc24 rfl hc25 eX4_findCycles_83 ?_
      obtain ⟨hs28, hw⟩ := hw
      have hw := hw _ rfl
      refine q_putR (fwX4_53 _) rfl hs28 eX4_findCycles_85 ?_
      refine q_aload_nr eX4_findCycles_88 rfl ?_
      refine q_aload_nr eX4_findCycles_89 rfl ?_
      refine q_getI flX4_44 rfl hs28 eX4_findCycles_90 ?_
      refine q_bipush (v := nI 10) eX4_findCycles_93 (by decide) ?_
      refine q_imul eX4_findCycles_95 ?_
      refine q_iconst (v := nI 2) eX4_findCycles_96 (by decide) ?_
      refine q_imul eX4_findCycles_97 ?_
      obtain ⟨hc32, hc33, hc34, hc35, hw⟩ := hw
      have hw := hw _ rfl _ rfl
      refine q_bud (b' := (b - 4) + 1) (t' := (t - (0 + (hI h x0 10).toNatClampNeg + (hI (sR (al h (2, (hI h x0 10).toNatClampNeg)) x0 11 (some (hN h))) x0 10).toNatClampNeg + (hI (sR (al (sR (al h (2, (hI h x0 10).toNatClampNeg)) x0 11 (some (hN h))) (2, (hI (sR (al h (2, (hI h x0 10).toNatClampNeg)) x0 11 (some (hN h))) x0 10).toNatClampNeg)) x0 12 (some (hN (sR (al h (2, (hI h x0 10).toNatClampNeg)) x0 11 (some (hN h)))))) x0 10).toNatClampNeg + (((hI (sR (al (sR (al (sR (al h (2, (hI h x0 10).toNatClampNeg)) x0 11 (some (hN h))) (2, (hI (sR (al h (2, (hI h x0 10).toNatClampNeg)) x0 11 (some (hN h))) x0 10).toNatClampNeg)) x0 12 (some (hN (sR (al h (2, (hI h x0 10).toNatClampNeg)) x0 11 (some (hN h)))))) (2, (hI (sR (al (sR (al h (2, (hI h x0 10).toNatClampNeg)) x0 11 (some (hN h))) (2, (hI (sR (al h (2, (hI h x0 10).toNatClampNeg)) x0 11 (some (hN h))) x0 10).toNatClampNeg)) x0 12 (some (hN (sR (al h (2, (hI h x0 10).toNatClampNeg)) x0 11 (some (hN h)))))) x0 10).toNatClampNeg)) x0 13 (some (hN (sR (al (sR (al h (2, (hI h x0 10).toNatClampNeg)) x0 11 (some (hN h))) (2, (hI (sR (al h (2, (hI h x0 10).toNatClampNeg)) x0 11 (some (hN h))) x0 10).toNatClampNeg)) x0 12 (some (hN (sR (al h (2, (hI h x0 10).toNatClampNeg)) x0 11 (some (hN h))))))))) x0 10 * nI 10) * nI 2)).toNatClampNeg)) + (((hI (sR (al (sR (al (sR (al h (2, (hI h x0 10).toNatClampNeg)) x0 11 (some (hN h))) (2, (hI (sR (al h (2, (hI h x0 10).toNatClampNeg)) x0 11 (some (hN h))) x0 10).toNatClampNeg)) x0 12 (some (hN (sR (al h (2, (hI h x0 10).toNatClampNeg)) x0 11 (some (hN h)))))) (2, (hI (sR (al (sR (al h (2, (hI h x0 10).toNatClampNeg)) x0 11 (some (hN h))) (2, (hI (sR (al h (2, (hI h x0 10).toNatClampNeg)) x0 11 (some (hN h))) x0 10).toNatClampNeg)) x0 12 (some (hN (sR (al h (2, (hI h x0 10).toNatClampNeg)) x0 11 (some (hN h)))))) x0 10).toNatClampNeg)) x0 13 (some (hN (sR (al (sR (al h (2, (hI h x0 10).toNatClampNeg)) x0 11 (some (hN h))) (2, (hI (sR (al h (2, (hI h x0 10).toNatClampNeg)) x0 11 (some (hN h))) x0 10).toNatClampNeg)) x0 12 (some (hN (sR (al h (2, (hI h x0 10).toNatClampNeg)) x0 11 (some (hN h))))))))) x0 10 * nI 10) * nI 2)).toNatClampNeg) (by omega) (by omega) ?_
      refine q_newa (k := 2) (Or.inl rfl) rfl aC_int hc32 rfl hc33 eX4_findCycles_98 ?_
      obtain ⟨hs36, hw⟩ := hw
      have hw := hw _ rfl
      refine q_putR (fwX4_56 _) rfl hs36 eX4_findCycles_100 ?_
      refine q_iconst (v := nI 0) eX4_findCycles_103 (by decide) ?_
      refine x_istore_n (ls' := [_, _, _]) eX4_findCycles_104 (by decide) rfl rfl ?_
      refine q_le (ls' := [some _, some _, some _]) ⟨rfl, rfl, rfl, trivial⟩ ?_
      obtain ⟨m50, hw⟩ := hw
      exact tX4_findCycles_105 m50 _ _ _ _ _ _ hw
    · have hw := hw2 c
      refine q_aload_nr eX4_findCycles_18 rfl ?_
      refine q_getI flX4_44 rfl hs5 eX4_findCycles_19 ?_
      refine q_bipush (v := nI 40) eX4_findCycles_22 (by decide) ?_
      obtain ⟨hw1, hw2⟩ := hw
      refine q_icmp_ge (tgt := 52) eX4_findCycles_24 (by decide) (fun c => ?_) (fun c => ?_)
      · have hw := hw1 c
        refine x_iinc (v := (x2 + nI 1)) (ls' := [_, _, _]) eX4_findCycles_52 rfl rfl rfl rfl ?_
        refine q_goto (tgt := 8) eX4_findCycles_55 (by decide) ?_
        refine q_le (ls' := [some _, some _, some _]) ⟨rfl, rfl, rfl, trivial⟩ ?_
        exact ih _ _ _ _ _ _ hw
      · have hw := hw2 c
        refine q_aload_nr eX4_findCycles_27 rfl ?_
        refine q_iload_n eX4_findCycles_28 rfl ?_
        refine q_bud (b' := b + 0) (t' := t + 0) (Nat.add_zero _) (Nat.add_zero _) ?_
        refine q_callV (b := b) (t := t) (gX4_isCycle _ _ _ _ hw) mlX4_85 kX4_isCycle vX4_isCycle rfl hs5 ⟨rfl, rfl⟩ (by decide) rfl (Nat.le_of_ble_eq_true rfl) eX4_findCycles_29 (kI fun r51 h52 hw => ?_)
        obtain ⟨hw1, hw2⟩ := hw
        refine q_if_eq (tgt := 52) eX4_findCycles_32 (by decide) (fun c => ?_) (fun c => ?_)
        · have hw := hw1 c
          refine x_iinc (v := (x2 + nI 1)) (ls' := [_, _, _]) eX4_findCycles_52 rfl rfl rfl rfl ?_
          refine q_goto (tgt := 8) eX4_findCycles_55 (by decide) ?_
          refine q_le (ls' := [some _, some _, some _]) ⟨rfl, rfl, rfl, trivial⟩ ?_
          exact ih _ _ _ _ _ _ hw
        · have hw := hw2 c
          refine q_aload_nr eX4_findCycles_35 rfl ?_
          refine q_aload_nr eX4_findCycles_36 rfl ?_
          obtain ⟨hs53, hw⟩ := hw
          refine q_getI flX4_44 rfl hs53 eX4_findCycles_37 ?_
          refine q_iload_n eX4_findCycles_40 rfl ?_
          obtain ⟨n55, hs54, hw⟩ := hw
          obtain ⟨hi56, hw⟩ := hw
          have hw := hw _ rfl
          refine q_iast hs54 hi56 eX4_findCycles_41 ?_
          refine q_aload_nr eX4_findCycles_42 rfl ?_
          refine q_dup eX4_findCycles_43 rfl ?_
          refine q_getI flX4_44 rfl hs53 eX4_findCycles_44 ?_
          refine q_iconst (v := nI 1) eX4_findCycles_47 (by decide) ?_
          refine q_iadd eX4_findCycles_48 ?_
          have hw := hw _ rfl
          refine q_putI (fwX4_44 _) rfl hs53 eX4_findCycles_49 ?_
          refine x_iinc (v := (x2 + nI 1)) (ls' := [_, _, _]) eX4_findCycles_52 rfl rfl rfl rfl ?_
          refine q_goto (tgt := 8) eX4_findCycles_55 (by decide) ?_
          refine q_le (ls' := [some _, some _, some _]) ⟨rfl, rfl, rfl, trivial⟩ ?_
          exact ih _ _ _ _ _ _ hw
def wX4_findCycles (b t : Nat) (x0 : Nat) (h : MH) (Q : MH → Prop) : Prop := 1 ≤ b ∧ 40 ≤ t ∧ ∀ a1, a1 = hN h → ∀ h2, h2 = al h (2, 40) → ∃ m59, wX4_findCycles_8 Q m59 (b - 1) (t - 40) x0 a1 (nI 7) h2
set_option maxHeartbeats 4000000 in
set_option maxRecDepth 100000 in
theorem gX4_findCycles (b t : Nat) (x0 : Nat) (h : MH) (Q : MH → Prop) (hw : wX4_findCycles b t x0 h Q) : Cm MX4_findCycles 3 b t [.ref (x0)] h (pV Q) := by
  refine cm_of [some (.ref (x0)), none, none] rfl pnX4 (Nat.le_of_ble_eq_true rfl) rfl ?_
  unfold wX4_findCycles at hw
  refine q_bipush (v := nI 40) eX4_findCycles_0 (by decide) ?_
  obtain ⟨hc3, hc4, hw⟩ := hw
  have hw := hw _ rfl _ rfl
  refine q_bud (b' := (b - 1) + 1) (t' := (t - 40) + 40) (by omega) (by omega) ?_
  refine q_newa (k := 2) (Or.inl rfl) rfl aC_int (by decide) (by decide) (by decide) eX4_findCycles_2 ?_
  refine x_astore_nr (ls' := [_, _, _]) eX4_findCycles_4 (by decide) rfl rfl ?_
  refine q_bipush (v := nI 7) eX4_findCycles_5 (by decide) ?_
  refine x_istore_n (ls' := [_, _, _]) eX4_findCycles_7 (by decide) rfl rfl ?_
  refine q_le (ls' := [some _, some _, some _]) ⟨rfl, rfl, rfl, trivial⟩ ?_
  obtain ⟨m59, hw⟩ := hw
  exact tX4_findCycles_8 m59 _ _ _ _ _ _ hw
def wX4_sumOf_5 (Q : Int32 → MH → Prop) : Nat → Nat → Nat → Int32 → Int32 → Int32 → MH → Prop
  | 0, _, _, _, _, _, _ => False
  | n + 1, x0, x1, x2, x3, x4, h => hS h x0 = (1, 4) ∧ (hI h x0 3 ≤ x4 → Q (x3) h) ∧ (¬ (hI h x0 3 ≤ x4) → ∃ n3, hS h x1 = (2, n3) ∧ vp_in (x4) n3 ∧ ∀ v5, v5 = (x3 + (((x2 >>> (x4 &&& 31)) &&& nI 1) * hI h x1 (x4).toNatClampNeg)) → wX4_sumOf_5 Q n x0 x1 x2 v5 (x4 + nI 1) h)
set_option maxHeartbeats 4000000 in
set_option maxRecDepth 100000 in
theorem tX4_sumOf_5 {Q : Int32 → MH → Prop} : ∀ (n : Nat) (h : MH) (x0 : Nat) (x1 : Nat) (x2 : Int32) (x3 : Int32) (x4 : Int32), wX4_sumOf_5 Q n x0 x1 x2 x3 x4 h → Wm MX4_sumOf 0 0 0 5 [some (.ref (x0)), some (.ref (x1)), some (.int (x2)), some (.int (x3)), some (.int (x4))] [] h (pI Q) := by
  intro n
  induction n with
  | zero => intro h x0 x1 x2 x3 x4 hw; exact hw.elim
  | succ n ih =>
    intro h x0 x1 x2 x3 x4 hw
    unfold wX4_sumOf_5 at hw
    refine q_iload eX4_sumOf_5 rfl ?_
    refine q_aload_nr eX4_sumOf_7 rfl ?_
    obtain ⟨hs1, hw⟩ := hw
    refine q_getI flX4_21 rfl hs1 eX4_sumOf_8 ?_
    obtain ⟨hw1, hw2⟩ := hw
    refine q_icmp_ge (tgt := 34) eX4_sumOf_11 (by decide) (fun c => ?_) (fun c => ?_)
    · have hw := hw1 c
      refine q_iload_n eX4_sumOf_34 rfl ?_
      exact q_ret rfl eX4_sumOf_35 ⟨_, rfl, hw⟩
    · have hw := hw2 c
      refine q_iload_n eX4_sumOf_14 rfl ?_
      refine q_iload_n eX4_sumOf_15 rfl ?_
      refine q_iload eX4_sumOf_16 rfl ?_
      refine q_ishr eX4_sumOf_18 ?_
      refine q_iconst (v := nI 1) eX4_sumOf_19 (by decide) ?_
      refine q_iand eX4_sumOf_20 ?_
      refine q_aload_nr eX4_sumOf_21 rfl ?_
      refine q_iload eX4_sumOf_22 rfl ?_
      obtain ⟨n3, hs2, hw⟩ := hw
      obtain ⟨hi4, hw⟩ := hw
      refine q_iald hs2 hi4 eX4_sumOf_24 ?_
      refine q_imul eX4_sumOf_25 ?_
      refine q_iadd eX4_sumOf_26 ?_
      have hw := hw _ rfl
      refine x_istore_n (ls' := [_, _, _, _, _]) eX4_sumOf_27 (by decide) rfl rfl ?_
      refine x_iinc (v := (x4 + nI 1)) (ls' := [_, _, _, _, _]) eX4_sumOf_28 rfl rfl rfl rfl ?_
      refine q_goto (tgt := 5) eX4_sumOf_31 (by decide) ?_
      refine q_le (ls' := [some _, some _, some _, some _, some _]) ⟨rfl, rfl, rfl, rfl, rfl, trivial⟩ ?_
      exact ih _ _ _ _ _ _ hw
def wX4_sumOf (x0 : Nat) (x1 : Nat) (x2 : Int32) (h : MH) (Q : Int32 → MH → Prop) : Prop := ∃ m6, wX4_sumOf_5 Q m6 x0 x1 x2 (nI 0) (nI 0) h
set_option maxHeartbeats 4000000 in
set_option maxRecDepth 100000 in
theorem gX4_sumOf (x0 : Nat) (x1 : Nat) (x2 : Int32) (h : MH) (Q : Int32 → MH → Prop) (hw : wX4_sumOf x0 x1 x2 h Q) : Cm MX4_sumOf 0 0 0 [.ref (x0), .ref (x1), .int (x2)] h (pI Q) := by
  refine cm_of [some (.ref (x0)), some (.ref (x1)), some (.int (x2)), none, none] rfl pnX4 (Nat.le_of_ble_eq_true rfl) rfl ?_
  unfold wX4_sumOf at hw
  refine q_iconst (v := nI 0) eX4_sumOf_0 (by decide) ?_
  refine x_istore_n (ls' := [_, _, _, _, _]) eX4_sumOf_1 (by decide) rfl rfl ?_
  refine q_iconst (v := nI 0) eX4_sumOf_2 (by decide) ?_
  refine x_istore (ls' := [_, _, _, _, _]) eX4_sumOf_3 (by decide) rfl rfl ?_
  refine q_le (ls' := [some _, some _, some _, some _, some _]) ⟨rfl, rfl, rfl, rfl, rfl, trivial⟩ ?_
  obtain ⟨m6, hw⟩ := hw
  exact tX4_sumOf_5 m6 _ _ _ _ _ _ hw
def wX4_settle_80 (Q : MH → Prop) (K6 : Nat → Nat → Nat → Nat → Int32 → MH → Prop) : Nat → Nat → Nat → Nat → Nat → Int32 → Int32 → MH → Prop
  | 0, _, _, _, _, _, _, _ => False
  | n + 1, b, t, x0, x1, x2, x3, h => hS h x0 = (1, 4) ∧ (hI h x0 10 ≤ x3 → K6 b t x0 x1 (x2 + nI 1) h) ∧ (¬ (hI h x0 10 ≤ x3) → ∃ a8, hR h x0 11 = some a8 ∧ ∃ n11, hS h a8 = (2, n11) ∧ vp_in (x3) n11 ∧ wJ6_bitCount_0f7a4 (hI h a8 (x3).toNatClampNeg) h (fun r13 h14 => hS h14 x0 = (1, 4) ∧ ∃ a16, hR h14 x0 6 = some a16 ∧ ∃ a18, hR h14 x0 11 = some a18 ∧ ∃ n21, hS h14 a18 = (2, n21) ∧ vp_in (x3) n21 ∧ wX4_sumOf x0 a16 (hI h14 a18 (x3).toNatClampNeg) h14 (fun r23 h24 => hS h24 x0 = (1, 4) ∧ ∃ a26, hR h24 x0 7 = some a26 ∧ ∃ a28, hR h24 x0 11 = some a28 ∧ ∃ n31, hS h24 a28 = (2, n31) ∧ vp_in (x3) n31 ∧ wX4_sumOf x0 a26 (hI h24 a28 (x3).toNatClampNeg) h24 (fun r33 h34 => hS h34 x0 = (1, 4) ∧ ∃ a36, hR h34 x0 13 = some a36 ∧ ∃ n39, hS h34 a36 = (2, n39) ∧ vp_in (x3) n39 ∧ wJ6_bitCount_0f7a4 (hI h34 a36 (x3).toNatClampNeg) h34 (fun r41 h42 => hS h42 x1 = (1, 3) ∧ wX3_tell x1 x2 r23 r33 r13 r41 h42 (fun h45 => hS h45 x0 = (1, 4) ∧ ∃ a47, hR h45 x0 9 = some a47 ∧ ∃ n50, hS h45 a47 = (3, n50) ∧ vp_in (x2) n50 ∧ hS h45 x1 = (1, 3) ∧ wX3_mayBe x1 h45 (fun r53 h54 => (r53 = 0 → ∃ n56, hS h54 a47 = (3, n56) ∧ vp_in (x2) n56 ∧ ∀ h58, h58 = sL h54 a47 (x2).toNatClampNeg ((hL h45 a47 (x2).toNatClampNeg ||| (0 : Int64))) → wX4_settle_80 Q K6 n b t x0 x1 x2 (x3 + nI 1) h58) ∧ (¬ (r53 = 0) → ∃ n60, hS h54 a47 = (3, n60) ∧ vp_in (x2) n60 ∧ ∀ h62, h62 = sL h54 a47 (x2).toNatClampNeg ((hL h45 a47 (x2).toNatClampNeg ||| ((1 : Int64) <<< ((x3).toInt64 &&& 63)))) → wX4_settle_80 Q K6 n b t x0 x1 x2 (x3 + nI 1) h62))))))))
set_option maxHeartbeats 4000000 in
set_option maxRecDepth 100000 in
theorem tX4_settle_80 {Q : MH → Prop} {K6 : Nat → Nat → Nat → Nat → Int32 → MH → Prop} (hK6 : ∀ (h : MH) (b t : Nat) (x0 : Nat) (x1 : Nat) (x2 : Int32), K6 b t x0 x1 x2 h → Wm MX4_settle 5 b t 6 [some (.ref (x0)), some (.ref (x1)), some (.int (x2)), none, none] [] h (pV Q)) : ∀ (n : Nat) (h : MH) (b t : Nat) (x0 : Nat) (x1 : Nat) (x2 : Int32) (x3 : Int32), wX4_settle_80 Q K6 n b t x0 x1 x2 x3 h → Wm MX4_settle 5 b t 80 [some (.ref (x0)), some (.ref (x1)), some (.int (x2)), some (.int (x3)), none] [] h (pV Q) := by
  intro n
  induction n with
  | zero => intro h b t x0 x1 x2 x3 hw; exact hw.elim
  | succ n ih =>
    intro h b t x0 x1 x2 x3 hw
    unfold wX4_settle_80 at hw
    refine q_iload_n eX4_settle_80 rfl ?_
    refine q_aload_nr eX4_settle_81 rfl ?_
    obtain ⟨hs7, hw⟩ := hw
    refine q_getI flX4_44 rfl hs7 eX4_settle_82 ?_
    obtain ⟨hw1, hw2⟩ := hw
    refine q_icmp_ge (tgt := 172) eX4_settle_85 (by decide) (fun c => ?_) (fun c => ?_)
    · have hw := hw1 c
      refine x_iinc (v := (x2 + nI 1)) (ls' := [_, _, _, _, _]) eX4_settle_172 rfl rfl rfl rfl ?_
      refine q_goto (tgt := 6) eX4_settle_175 (by decide) ?_
      refine q_le (ls' := [some _, some _, some _, none, none]) ⟨rfl, rfl, rfl, trivial⟩ ?_
      exact hK6 _ _ _ _ _ _ hw
    · have hw := hw2 c
      refine q_aload_nr eX4_settle_88 rfl ?_
      obtain ⟨a8, hr9, hw⟩ := hw
      refine q_getR flX4_47 rfl hs7 hr9 eX4_settle_89 ?_
      refine q_iload_n eX4_settle_92 rfl ?_
      obtain ⟨n11, hs10, hw⟩ := hw
      obtain ⟨hi12, hw⟩ := hw
      refine q_iald hs10 hi12 eX4_settle_93 ?_
      refine q_bud (b' := b + 0) (t' := t + 0) (Nat.add_zero _) (Nat.add_zero _) ?_
      refine q_callS (b := b) (t := t) (gJ6_bitCount_0f7a4 _ _ _ hw) mlX4_72 kJ6_bitCount_0f7a4 sJ6_bitCount_0f7a4 rfl (by decide) rfl (Nat.le_of_ble_eq_true rfl) eX4_settle_94 (kI fun r13 h14 hw => ?_)
      refine x_istore (ls' := [_, _, _, _, _]) eX4_settle_97 (by decide) rfl rfl ?_
      refine q_aload_nr eX4_settle_99 rfl ?_
      refine q_iload_n eX4_settle_100 rfl ?_
      refine q_aload_nr eX4_settle_101 rfl ?_
      refine q_aload_nr eX4_settle_102 rfl ?_
      obtain ⟨hs15, hw⟩ := hw
      obtain ⟨a16, hr17, hw⟩ := hw
      refine q_getR flX4_31 rfl hs15 hr17 eX4_settle_103 ?_
      refine q_aload_nr eX4_settle_106 rfl ?_
      obtain ⟨a18, hr19, hw⟩ := hw
      refine q_getR flX4_47 rfl hs15 hr19 eX4_settle_107 ?_
      refine q_iload_n eX4_settle_110 rfl ?_
      obtain ⟨n21, hs20, hw⟩ := hw
      obtain ⟨hi22, hw⟩ := hw
      refine q_iald hs20 hi22 eX4_settle_111 ?_
      refine q_bud (b' := b + 0) (t' := t + 0) (Nat.add_zero _) (Nat.add_zero _) ?_
      refine q_callV (b := b) (t := t) (gX4_sumOf _ _ _ _ _ hw) mlX4_77 kX4_sumOf vX4_sumOf rfl hs15 ⟨rfl, rfl⟩ (by decide) rfl (Nat.le_of_ble_eq_true rfl) eX4_settle_112 (kI fun r23 h24 hw => ?_)
      refine q_aload_nr eX4_settle_115 rfl ?_
      refine q_aload_nr eX4_settle_116 rfl ?_
      obtain ⟨hs25, hw⟩ := hw
      obtain ⟨a26, hr27, hw⟩ := hw
      refine q_getR flX4_34 rfl hs25 hr27 eX4_settle_117 ?_
      refine q_aload_nr eX4_settle_120 rfl ?_
      obtain ⟨a28, hr29, hw⟩ := hw
      refine q_getR flX4_47 rfl hs25 hr29 eX4_settle_121 ?_
      refine q_iload_n eX4_settle_124 rfl ?_
      obtain ⟨n31, hs30, hw⟩ := hw
      obtain ⟨hi32, hw⟩ := hw
      refine q_iald hs30 hi32 eX4_settle_125 ?_
      refine q_bud (b' := b + 0) (t' := t + 0) (Nat.add_zero _) (Nat.add_zero _) ?_
      refine q_callV (b := b) (t := t) (gX4_sumOf _ _ _ _ _ hw) mlX4_77 kX4_sumOf vX4_sumOf rfl hs25 ⟨rfl, rfl⟩ (by decide) rfl (Nat.le_of_ble_eq_true rfl) eX4_settle_126 (kI fun r33 h34 hw => ?_)
      refine q_iload eX4_settle_129 rfl ?_
      refine q_aload_nr eX4_settle_131 rfl ?_
      obtain ⟨hs35, hw⟩ := hw
      obtain ⟨a36, hr37, hw⟩ := hw
      refine q_getR flX4_53 rfl hs35 hr37 eX4_settle_132 ?_
      refine q_iload_n eX4_settle_135 rfl ?_
      obtain ⟨n39, hs38, hw⟩ := hw
      obtain ⟨hi40, hw⟩ := hw
      refine q_iald hs38 hi40 eX4_settle_136 ?_
      refine q_bud (b' := b + 0) (t' := t + 0) (Nat.add_zero _) (Nat.add_zero _) ?_
      refine q_callS (b := b) (t := t) (gJ6_bitCount_0f7a4 _ _ _ hw) mlX4_72 kJ6_bitCount_0f7a4 sJ6_bitCount_0f7a4 rfl (by decide) rfl (Nat.le_of_ble_eq_true rfl) eX4_settle_137 (kI fun r41 h42 hw => ?_)
      obtain ⟨hs43, hw⟩ := hw
      refine q_bud (b' := b + 0) (t' := t + 0) (Nat.add_zero _) (Nat.add_zero _) ?_
      refine q_callV (b := b) (t := t) (gX3_tell _ _ _ _ _ _ _ _ hw) mlX4_62 kX3_tell vX3_tell rfl hs43 ⟨rfl, rfl⟩ (by decide) rfl (Nat.le_of_ble_eq_true rfl) eX4_settle_140 (kV fun h45 hw => ?_)
      refine q_aload_nr eX4_settle_143 rfl ?_
      obtain ⟨hs46, hw⟩ := hw
      obtain ⟨a47, hr48, hw⟩ := hw
      refine q_getR flX4_40 rfl hs46 hr48 eX4_settle_144 ?_
      refine q_iload_n eX4_settle_147 rfl ?_
      refine q_dup2 eX4_settle_148 rfl rfl ?_
      obtain ⟨n50, hs49, hw⟩ := hw
      obtain ⟨hi51, hw⟩ := hw
      refine q_lald hs49 hi51 eX4_settle_149 ?_
      refine q_aload_nr eX4_settle_150 rfl ?_
      obtain ⟨hs52, hw⟩ := hw
      refine q_bud (b' := b + 0) (t' := t + 0) (Nat.add_zero _) (Nat.add_zero _) ?_
      refine q_callV (b := b) (t := t) (gX3_mayBe _ _ _ hw) mlX4_81 kX3_mayBe vX3_mayBe rfl hs52 ⟨rfl, rfl⟩ (by decide) rfl (Nat.le_of_ble_eq_true rfl) eX4_settle_151 (kI fun r53 h54 hw => ?_)
      obtain ⟨hw1, hw2⟩ := hw
      refine q_if_eq (tgt := 163) eX4_settle_154 (by decide) (fun c => ?_) (fun c => ?_)
      · have hw := hw1 c
        refine q_lconst (v := (0 : Int64)) eX4_settle_163 (by decide) ?_
        refine q_lor eX4_settle_164 ?_
        obtain ⟨n56, hs55, hw⟩ := hw
        obtain ⟨hi57, hw⟩ := hw
        have hw := hw _ rfl
        refine q_last hs55 hi57 eX4_settle_165 ?_
        refine x_iinc (v := (x3 + nI 1)) (ls' := [_, _, _, _, _]) eX4_settle_166 rfl rfl rfl rfl ?_
        refine q_goto (tgt := 80) eX4_settle_169 (by decide) ?_
        refine q_le (ls' := [some _, some _, some _, some _, none]) ⟨rfl, rfl, rfl, rfl, trivial⟩ ?_
        exact ih _ _ _ _ _ _ _ hw
      · have hw := hw2 c
        refine q_lconst (v := (1 : Int64)) eX4_settle_157 (by decide) ?_
        refine q_iload_n eX4_settle_158 rfl ?_
        refine q_lshl eX4_settle_159 ?_
        refine q_goto (tgt := 164) eX4_settle_160 (by decide) ?_
        refine q_lor eX4_settle_164 ?_
        obtain ⟨n60, hs59, hw⟩ := hw
        obtain ⟨hi61, hw⟩ := hw
        have hw := hw _ rfl
        refine q_last hs59 hi61 eX4_settle_165 ?_
        refine x_iinc (v := (x3 + nI 1)) (ls' := [_, _, _, _, _]) eX4_settle_166 rfl rfl rfl rfl ?_
        refine q_goto (tgt := 80) eX4_settle_169 (by decide) ?_
        refine q_le (ls' := [some _, some _, some _, some _, none]) ⟨rfl, rfl, rfl, rfl, trivial⟩ ?_
        exact ih _ _ _ _ _ _ _ hw
def wX4_settle_14 (Q : MH → Prop) (K6 : Nat → Nat → Nat → Nat → Int32 → MH → Prop) : Nat → Nat → Nat → Nat → Nat → Int32 → Int32 → MH → Prop
  | 0, _, _, _, _, _, _, _ => False
  | n + 1, b, t, x0, x1, x2, x3, h => hS h x0 = (1, 4) ∧ (hI h x0 3 ≤ x3 → ∃ m63, wX4_settle_80 Q K6 m63 b t x0 x1 x2 (nI 0) h) ∧ (¬ (hI h x0 3 ≤ x3) → ∃ a64, hR h x0 6 = some a64 ∧ ∃ n67, hS h a64 = (2, n67) ∧ vp_in (x3) n67 ∧ ∃ a69, hR h x0 7 = some a69 ∧ ∃ n72, hS h a69 = (2, n72) ∧ vp_in (x3) n72 ∧ ∃ a74, hR h x0 4 = some a74 ∧ ∃ n77, hS h a74 = (2, n77) ∧ vp_in (x3) n77 ∧ ∃ a79, hR h x0 5 = some a79 ∧ ∃ n82, hS h a79 = (2, n82) ∧ vp_in (x3) n82 ∧ hS h x1 = (1, 3) ∧ wX3_tell x1 x2 (hI h a64 (x3).toNatClampNeg) (hI h a69 (x3).toNatClampNeg) (hI h a74 (x3).toNatClampNeg) (hI h a79 (x3).toNatClampNeg) h (fun h86 => hS h86 x0 = (1, 4) ∧ ∃ a88, hR h86 x0 8 = some a88 ∧ ∃ a90, hR h86 x0 6 = some a90 ∧ ∃ n93, hS h86 a90 = (2, n93) ∧ vp_in (x3) n93 ∧ hS h86 x1 = (1, 3) ∧ wX3_linkCost x1 (hI h86 a90 (x3).toNatClampNeg) h86 (fun r96 h97 => ∃ n99, hS h97 a88 = (2, n99) ∧ vp_in (((x2 * nI 10) + x3)) n99 ∧ ∀ h101, h101 = sI h97 a88 (((x2 * nI 10) + x3)).toNatClampNeg (r96) → wX4_settle_14 Q K6 n b t x0 x1 x2 (x3 + nI 1) h101)))
set_option maxHeartbeats 4000000 in
set_option maxRecDepth 100000 in
theorem tX4_settle_14 {Q : MH → Prop} {K6 : Nat → Nat → Nat → Nat → Int32 → MH → Prop} (hK6 : ∀ (h : MH) (b t : Nat) (x0 : Nat) (x1 : Nat) (x2 : Int32), K6 b t x0 x1 x2 h → Wm MX4_settle 5 b t 6 [some (.ref (x0)), some (.ref (x1)), some (.int (x2)), none, none] [] h (pV Q)) : ∀ (n : Nat) (h : MH) (b t : Nat) (x0 : Nat) (x1 : Nat) (x2 : Int32) (x3 : Int32), wX4_settle_14 Q K6 n b t x0 x1 x2 x3 h → Wm MX4_settle 5 b t 14 [some (.ref (x0)), some (.ref (x1)), some (.int (x2)), some (.int (x3)), none] [] h (pV Q) := by
  intro n
  induction n with
  | zero => intro h b t x0 x1 x2 x3 hw; exact hw.elim
  | succ n ih =>
    intro h b t x0 x1 x2 x3 hw
    unfold wX4_settle_14 at hw
    refine q_iload_n eX4_settle_14 rfl ?_
    refine q_aload_nr eX4_settle_15 rfl ?_
    obtain ⟨hs6, hw⟩ := hw
    refine q_getI flX4_21 rfl hs6 eX4_settle_16 ?_
    obtain ⟨hw1, hw2⟩ := hw
    refine q_icmp_ge (tgt := 78) eX4_settle_19 (by decide) (fun c => ?_) (fun c => ?_)
    · have hw := hw1 c
      refine q_iconst (v := nI 0) eX4_settle_78 (by decide) ?_
      refine x_istore_n (ls' := [_, _, _, _, _]) eX4_settle_79 (by decide) rfl rfl ?_
      refine q_le (ls' := [some _, some _, some _, some _, none]) ⟨rfl, rfl, rfl, rfl, trivial⟩ ?_
      obtain ⟨m63, hw⟩ := hw
      exact tX4_settle_80 hK6 m63 _ _ _ _ _ _ _ hw
    · have hw := hw2 c
      refine q_aload_nr eX4_settle_22 rfl ?_
      refine q_iload_n eX4_settle_23 rfl ?_
      refine q_aload_nr eX4_settle_24 rfl ?_
      obtain ⟨a64, hr65, hw⟩ := hw
      refine q_getR flX4_31 rfl hs6 hr65 eX4_settle_25 ?_
      refine q_iload_n eX4_settle_28 rfl ?_
      obtain ⟨n67, hs66, hw⟩ := hw
      obtain ⟨hi68, hw⟩ := hw
      refine q_iald hs66 hi68 eX4_settle_29 ?_
      refine q_aload_nr eX4_settle_30 rfl ?_
      obtain ⟨a69, hr70, hw⟩ := hw
      refine q_getR flX4_34 rfl hs6 hr70 eX4_settle_31 ?_
      refine q_iload_n eX4_settle_34 rfl ?_
      obtain ⟨n72, hs71, hw⟩ := hw
      obtain ⟨hi73, hw⟩ := hw
      refine q_iald hs71 hi73 eX4_settle_35 ?_
      refine q_aload_nr eX4_settle_36 rfl ?_
      obtain ⟨a74, hr75, hw⟩ := hw
      refine q_getR flX4_24 rfl hs6 hr75 eX4_settle_37 ?_
      refine q_iload_n eX4_settle_40 rfl ?_
      obtain ⟨n77, hs76, hw⟩ := hw
      obtain ⟨hi78, hw⟩ := hw
      refine q_iald hs76 hi78 eX4_settle_41 ?_
      refine q_aload_nr eX4_settle_42 rfl ?_
      obtain ⟨a79, hr80, hw⟩ := hw
      refine q_getR flX4_28 rfl hs6 hr80 eX4_settle_43 ?_
      refine q_iload_n eX4_settle_46 rfl ?_
      obtain ⟨n82, hs81, hw⟩ := hw
      obtain ⟨hi83, hw⟩ := hw
      refine q_iald hs81 hi83 eX4_settle_47 ?_
      obtain ⟨hs84, hw⟩ := hw
      refine q_bud (b' := b + 0) (t' := t + 0) (Nat.add_zero _) (Nat.add_zero _) ?_
      refine q_callV (b := b) (t := t) (gX3_tell _ _ _ _ _ _ _ _ hw) mlX4_62 kX3_tell vX3_tell rfl hs84 ⟨rfl, rfl⟩ (by decide) rfl (Nat.le_of_ble_eq_true rfl) eX4_settle_48 (kV fun h86 hw => ?_)
      refine q_aload_nr eX4_settle_51 rfl ?_
      obtain ⟨hs87, hw⟩ := hw
      obtain ⟨a88, hr89, hw⟩ := hw
      refine q_getR flX4_37 rfl hs87 hr89 eX4_settle_52 ?_
      refine q_iload_n eX4_settle_55 rfl ?_
      refine q_bipush (v := nI 10) eX4_settle_56 (by decide) ?_
      refine q_imul eX4_settle_58 ?_
      refine q_iload_n eX4_settle_59 rfl ?_
      refine q_iadd eX4_settle_60 ?_
      refine q_aload_nr eX4_settle_61 rfl ?_
      refine q_aload_nr eX4_settle_62 rfl ?_
      obtain ⟨a90, hr91, hw⟩ := hw
      refine q_getR flX4_31 rfl hs87 hr91 eX4_settle_63 ?_
      refine q_iload_n eX4_settle_66 rfl ?_
      obtain ⟨n93, hs92, hw⟩ := hw
      obtain ⟨hi94, hw⟩ := hw
      refine q_iald hs92 hi94 eX4_settle_67 ?_
      obtain ⟨hs95, hw⟩ := hw
      refine q_bud (b' := b + 0) (t' := t + 0) (Nat.add_zero _) (Nat.add_zero _) ?_
      refine q_callV (b := b) (t := t) (gX3_linkCost _ _ _ _ hw) mlX4_68 kX3_linkCost vX3_linkCost rfl hs95 ⟨rfl, rfl⟩ (by decide) rfl (Nat.le_of_ble_eq_true rfl) eX4_settle_68 (kI fun r96 h97 hw => ?_)
      obtain ⟨n99, hs98, hw⟩ := hw
      obtain ⟨hi100, hw⟩ := hw
      have hw := hw _ rfl
      refine q_iast hs98 hi100 eX4_settle_71 ?_
      refine x_iinc (v := (x3 + nI 1)) (ls' := [_, _, _, _, _]) eX4_settle_72 rfl rfl rfl rfl ?_
      refine q_goto (tgt := 14) eX4_settle_75 (by decide) ?_
      refine q_le (ls' := [some _, some _, some _, some _, none]) ⟨rfl, rfl, rfl, rfl, trivial⟩ ?_
      exact ih _ _ _ _ _ _ _ hw
def wX4_settle_6 (Q : MH → Prop) : Nat → Nat → Nat → Nat → Nat → Int32 → MH → Prop
  | 0, _, _, _, _, _, _ => False
  | n + 1, b, t, x0, x1, x2, h => (nI 10 ≤ x2 → Q h) ∧ (¬ (nI 10 ≤ x2) → ∃ m102, wX4_settle_14 Q (wX4_settle_6 Q n) m102 b t x0 x1 x2 (nI 0) h)
set_option maxHeartbeats 4000000 in
set_option maxRecDepth 100000 in
theorem tX4_settle_6 {Q : MH → Prop} : ∀ (n : Nat) (h : MH) (b t : Nat) (x0 : Nat) (x1 : Nat) (x2 : Int32), wX4_settle_6 Q n b t x0 x1 x2 h → Wm MX4_settle 5 b t 6 [some (.ref (x0)), some (.ref (x1)), some (.int (x2)), none, none] [] h (pV Q) := by
  intro n
  induction n with
  | zero => intro h b t x0 x1 x2 hw; exact hw.elim
  | succ n ih =>
    intro h b t x0 x1 x2 hw
    unfold wX4_settle_6 at hw
    refine q_iload_n eX4_settle_6 rfl ?_
    refine q_bipush (v := nI 10) eX4_settle_7 (by decide) ?_
    obtain ⟨hw1, hw2⟩ := hw
    refine q_icmp_ge (tgt := 178) eX4_settle_9 (by decide) (fun c => ?_) (fun c => ?_)
    · have hw := hw1 c
      exact q_retV rfl eX4_settle_178 ⟨rfl, hw⟩
    · have hw := hw2 c
      refine q_iconst (v := nI 0) eX4_settle_12 (by decide) ?_
      refine x_istore_n (ls' := [_, _, _, _, _]) eX4_settle_13 (by decide) rfl rfl ?_
      refine q_le (ls' := [some _, some _, some _, some _, none]) ⟨rfl, rfl, rfl, rfl, trivial⟩ ?_
      obtain ⟨m102, hw⟩ := hw
      exact tX4_settle_14 ih m102 _ _ _ _ _ _ _ hw
def wX4_settle (b t : Nat) (x0 : Nat) (x1 : Nat) (h : MH) (Q : MH → Prop) : Prop := hS h x0 = (1, 4) ∧ 5 ≤ b ∧ 960 ≤ t ∧ wX4_findCycles 5 960 x0 h (fun h5 => ∃ m103, wX4_settle_6 Q m103 (b - 5) (t - 960) x0 x1 (nI 0) h5)
set_option maxHeartbeats 4000000 in
set_option maxRecDepth 100000 in
theorem gX4_settle (b t : Nat) (x0 : Nat) (x1 : Nat) (h : MH) (Q : MH → Prop) (hw : wX4_settle b t x0 x1 h Q) : Cm MX4_settle 5 b t [.ref (x0), .ref (x1)] h (pV Q) := by
  refine cm_of [some (.ref (x0)), some (.ref (x1)), none, none, none] rfl pnX4 (Nat.le_of_ble_eq_true rfl) rfl ?_
  unfold wX4_settle at hw
  refine q_aload_nr eX4_settle_0 rfl ?_
  obtain ⟨hs1, hw⟩ := hw
  obtain ⟨hc2, hc3, hw⟩ := hw
  refine q_bud (b' := (b - 5) + 5) (t' := (t - 960) + 960) (by omega) (by omega) ?_
  refine q_callV (b := (b - 5)) (t := (t - 960)) (gX4_findCycles 5 960 _ _ _ hw) mlX4_59 kX4_findCycles vX4_findCycles rfl hs1 ⟨rfl, rfl⟩ (by decide) rfl (Nat.le_of_ble_eq_true rfl) eX4_settle_1 (kV fun h5 hw => ?_)
  refine q_iconst (v := nI 0) eX4_settle_4 (by decide) ?_
  refine x_istore_n (ls' := [_, _, _, _, _]) eX4_settle_5 (by decide) rfl rfl ?_
  refine q_le (ls' := [some _, some _, some _, none, none]) ⟨rfl, rfl, rfl, trivial⟩ ?_
  obtain ⟨m103, hw⟩ := hw
  exact tX4_settle_6 m103 _ _ _ _ _ _ hw
def wX4_ringNumber (x0 : Nat) (x1 : Int32) (x2 : Int32) (h : MH) (Q : Int32 → MH → Prop) : Prop := hS h x0 = (1, 4) ∧ ∃ a2, hR h x0 9 = some a2 ∧ ∃ n5, hS h a2 = (3, n5) ∧ vp_in (x1) n5 ∧ wJ13_bitCount_95d88 (hL h a2 (x1).toNatClampNeg &&& (((1 : Int64) <<< ((x2).toInt64 &&& 63)) - (1 : Int64))) h (fun r7 h8 => Q (r7) h8)
set_option maxHeartbeats 4000000 in
set_option maxRecDepth 100000 in
theorem gX4_ringNumber (x0 : Nat) (x1 : Int32) (x2 : Int32) (h : MH) (Q : Int32 → MH → Prop) (hw : wX4_ringNumber x0 x1 x2 h Q) : Cm MX4_ringNumber 1 0 0 [.ref (x0), .int (x1), .int (x2)] h (pI Q) := by
  refine cm_of [some (.ref (x0)), some (.int (x1)), some (.int (x2))] rfl pnX4 (Nat.le_of_ble_eq_true rfl) rfl ?_
  unfold wX4_ringNumber at hw
  refine q_aload_nr eX4_ringNumber_0 rfl ?_
  obtain ⟨hs1, hw⟩ := hw
  obtain ⟨a2, hr3, hw⟩ := hw
  refine q_getR flX4_40 rfl hs1 hr3 eX4_ringNumber_1 ?_
  refine q_iload_n eX4_ringNumber_4 rfl ?_
  obtain ⟨n5, hs4, hw⟩ := hw
  obtain ⟨hi6, hw⟩ := hw
  refine q_lald hs4 hi6 eX4_ringNumber_5 ?_
  refine q_lconst (v := (1 : Int64)) eX4_ringNumber_6 (by decide) ?_
  refine q_iload_n eX4_ringNumber_7 rfl ?_
  refine q_lshl eX4_ringNumber_8 ?_
  refine q_lconst (v := (1 : Int64)) eX4_ringNumber_9 (by decide) ?_
  refine q_lsub eX4_ringNumber_10 ?_
  refine q_land eX4_ringNumber_11 ?_
  refine q_callS (b := 0) (t := 0) (gJ13_bitCount_95d88 _ _ _ hw) mlX4_113 kJ13_bitCount_95d88 sJ13_bitCount_95d88 rfl (by decide) rfl (Nat.le_of_ble_eq_true rfl) eX4_ringNumber_12 (kI fun r7 h8 hw => ?_)
  exact q_ret rfl eX4_ringNumber_15 ⟨_, rfl, hw⟩
def wX4_allUses (x0 : Nat) (x1 : Int32) (h : MH) (Q : Int32 → MH → Prop) : Prop := hS h x0 = (1, 4) ∧ ∃ a2, hR h x0 11 = some a2 ∧ ∃ n5, hS h a2 = (2, n5) ∧ vp_in (x1) n5 ∧ wJ6_bitCount_0f7a4 (hI h a2 (x1).toNatClampNeg) h (fun r7 h8 => hS h8 x0 = (1, 4) ∧ ∃ a10, hR h8 x0 13 = some a10 ∧ ∃ n13, hS h8 a10 = (2, n13) ∧ vp_in (x1) n13 ∧ wJ6_bitCount_0f7a4 (hI h8 a10 (x1).toNatClampNeg) h8 (fun r15 h16 => Q ((r7 + (nI 2 * r15))) h16))
set_option maxHeartbeats 4000000 in
set_option maxRecDepth 100000 in
theorem gX4_allUses (x0 : Nat) (x1 : Int32) (h : MH) (Q : Int32 → MH → Prop) (hw : wX4_allUses x0 x1 h Q) : Cm MX4_allUses 1 0 0 [.ref (x0), .int (x1)] h (pI Q) := by
  refine cm_of [some (.ref (x0)), some (.int (x1))] rfl pnX4 (Nat.le_of_ble_eq_true rfl) rfl ?_
  unfold wX4_allUses at hw
  refine q_aload_nr eX4_allUses_0 rfl ?_
  obtain ⟨hs1, hw⟩ := hw
  obtain ⟨a2, hr3, hw⟩ := hw
  refine q_getR flX4_47 rfl hs1 hr3 eX4_allUses_1 ?_
  refine q_iload_n eX4_allUses_4 rfl ?_
  obtain ⟨n5, hs4, hw⟩ := hw
  obtain ⟨hi6, hw⟩ := hw
  refine q_iald hs4 hi6 eX4_allUses_5 ?_
  refine q_callS (b := 0) (t := 0) (gJ6_bitCount_0f7a4 _ _ _ hw) mlX4_72 kJ6_bitCount_0f7a4 sJ6_bitCount_0f7a4 rfl (by decide) rfl (Nat.le_of_ble_eq_true rfl) eX4_allUses_6 (kI fun r7 h8 hw => ?_)
  refine q_iconst (v := nI 2) eX4_allUses_9 (by decide) ?_
  refine q_aload_nr eX4_allUses_10 rfl ?_
  obtain ⟨hs9, hw⟩ := hw
  obtain ⟨a10, hr11, hw⟩ := hw
  refine q_getR flX4_53 rfl hs9 hr11 eX4_allUses_11 ?_
  refine q_iload_n eX4_allUses_14 rfl ?_
  obtain ⟨n13, hs12, hw⟩ := hw
  obtain ⟨hi14, hw⟩ := hw
  refine q_iald hs12 hi14 eX4_allUses_15 ?_
  refine q_callS (b := 0) (t := 0) (gJ6_bitCount_0f7a4 _ _ _ hw) mlX4_72 kJ6_bitCount_0f7a4 sJ6_bitCount_0f7a4 rfl (by decide) rfl (Nat.le_of_ble_eq_true rfl) eX4_allUses_16 (kI fun r15 h16 hw => ?_)
  refine q_imul eX4_allUses_19 ?_
  refine q_iadd eX4_allUses_20 ?_
  exact q_ret rfl eX4_allUses_21 ⟨_, rfl, hw⟩
def wX4_pathOf (x0 : Nat) (x1 : Int32) (x2 : Int32) (x3 : Int32) (h : MH) (Q : Int32 → MH → Prop) : Prop := hS h x0 = (1, 4) ∧ ∃ a2, hR h x0 14 = some a2 ∧ ∃ n5, hS h a2 = (2, n5) ∧ vp_in (((((x1 * nI 10) + x2) * nI 2) + x3)) n5 ∧ Q (hI h a2 (((((x1 * nI 10) + x2) * nI 2) + x3)).toNatClampNeg) h
set_option maxHeartbeats 4000000 in
set_option maxRecDepth 100000 in
theorem gX4_pathOf (x0 : Nat) (x1 : Int32) (x2 : Int32) (x3 : Int32) (h : MH) (Q : Int32 → MH → Prop) (hw : wX4_pathOf x0 x1 x2 x3 h Q) : Cm MX4_pathOf 0 0 0 [.ref (x0), .int (x1), .int (x2), .int (x3)] h (pI Q) := by
  refine cm_of [some (.ref (x0)), some (.int (x1)), some (.int (x2)), some (.int (x3))] rfl pnX4 (Nat.le_of_ble_eq_true rfl) rfl ?_
  unfold wX4_pathOf at hw
  refine q_aload_nr eX4_pathOf_0 rfl ?_
  obtain ⟨hs1, hw⟩ := hw
  obtain ⟨a2, hr3, hw⟩ := hw
  refine q_getR flX4_56 rfl hs1 hr3 eX4_pathOf_1 ?_
  refine q_iload_n eX4_pathOf_4 rfl ?_
  refine q_bipush (v := nI 10) eX4_pathOf_5 (by decide) ?_
  refine q_imul eX4_pathOf_7 ?_
  refine q_iload_n eX4_pathOf_8 rfl ?_
  refine q_iadd eX4_pathOf_9 ?_
  refine q_iconst (v := nI 2) eX4_pathOf_10 (by decide) ?_
  refine q_imul eX4_pathOf_11 ?_
  refine q_iload_n eX4_pathOf_12 rfl ?_
  refine q_iadd eX4_pathOf_13 ?_
  obtain ⟨n5, hs4, hw⟩ := hw
  obtain ⟨hi6, hw⟩ := hw
  refine q_iald hs4 hi6 eX4_pathOf_14 ?_
  exact q_ret rfl eX4_pathOf_15 ⟨_, rfl, hw⟩
def wX4_mostAlike_73 (Q : Int32 → MH → Prop) (K5 : Nat → Int32 → Int32 → Int32 → Int32 → MH → Prop) (x0 : Nat) (x1 : Int32) (x2 : Int32) (x3 : Int32) (x4 : Int32) (x5 : Int32) (h : MH) : Prop := K5 x0 x1 x2 (if x3 < x5 then x5 else x3) (x4 + nI 1) h
set_option maxHeartbeats 4000000 in
set_option maxRecDepth 100000 in
theorem tX4_mostAlike_73 {Q : Int32 → MH → Prop} {K5 : Nat → Int32 → Int32 → Int32 → Int32 → MH → Prop} (hK5 : ∀ (h : MH) (x0 : Nat) (x1 : Int32) (x2 : Int32) (x3 : Int32) (x4 : Int32), K5 x0 x1 x2 x3 x4 h → Wm MX4_mostAlike 1 0 0 5 [some (.ref (x0)), some (.int (x1)), some (.int (x2)), some (.int (x3)), some (.int (x4)), none, none] [] h (pI Q)) (h : MH) (x0 : Nat) (x1 : Int32) (x2 : Int32) (x3 : Int32) (x4 : Int32) (x5 : Int32) (hw : wX4_mostAlike_73 Q K5 x0 x1 x2 x3 x4 x5 h) : Wm MX4_mostAlike 1 0 0 73 [some (.ref (x0)), some (.int (x1)), some (.int (x2)), some (.int (x3)), some (.int (x4)), some (.int (x5)), none] [] h (pI Q) := by
  unfold wX4_mostAlike_73 at hw
  refine q_iload_n eX4_mostAlike_73 rfl ?_
  refine q_iload eX4_mostAlike_74 rfl ?_
  refine q_mmax mlX4_110 sMmax iNMath cMmax (by decide) (Nat.le_of_ble_eq_true rfl) eX4_mostAlike_76 ?_
  refine x_istore_n (ls' := [_, _, _, _, _, _, _]) eX4_mostAlike_79 (by decide) rfl rfl ?_
  refine x_iinc (v := (x4 + nI 1)) (ls' := [_, _, _, _, _, _, _]) eX4_mostAlike_80 rfl rfl rfl rfl ?_
  refine q_goto (tgt := 5) eX4_mostAlike_83 (by decide) ?_
  refine q_le (ls' := [some _, some _, some _, some _, some _, none, none]) ⟨rfl, rfl, rfl, rfl, rfl, trivial⟩ ?_
  exact hK5 _ _ _ _ _ _ hw
def wX4_mostAlike_22 (Q : Int32 → MH → Prop) (K5 : Nat → Int32 → Int32 → Int32 → Int32 → MH → Prop) : Nat → Nat → Int32 → Int32 → Int32 → Int32 → Int32 → Int32 → MH → Prop
  | 0, _, _, _, _, _, _, _, _ => False
  | n + 1, x0, x1, x2, x3, x4, x5, x6, h => (((x2 >>> (x4 &&& 31)) &&& nI 1) = 0 → wX4_mostAlike_73 Q K5 x0 x1 x2 x3 x4 x5 h) ∧ (¬ (((x2 >>> (x4 &&& 31)) &&& nI 1) = 0) → (nI 10 ≤ x6 → wX4_mostAlike_73 Q K5 x0 x1 x2 x3 x4 x5 h) ∧ (¬ (nI 10 ≤ x6) → (((x2 >>> (x6 &&& 31)) &&& nI 1) = 0 → wX4_mostAlike_22 Q K5 n x0 x1 x2 x3 x4 x5 (x6 + nI 1) h) ∧ (¬ (((x2 >>> (x6 &&& 31)) &&& nI 1) = 0) → hS h x0 = (1, 4) ∧ wX4_priceOf x0 x1 x4 h (fun r2 h3 => hS h3 x0 = (1, 4) ∧ wX4_priceOf x0 x1 x6 h3 (fun r5 h6 => (¬ (r2 = r5) → wX4_mostAlike_22 Q K5 n x0 x1 x2 x3 x4 x5 (x6 + nI 1) h6) ∧ (r2 = r5 → wX4_mostAlike_22 Q K5 n x0 x1 x2 x3 x4 (x5 + nI 1) (x6 + nI 1) h6))))))
set_option maxHeartbeats 4000000 in
set_option maxRecDepth 100000 in
theorem tX4_mostAlike_22 {Q : Int32 → MH → Prop} {K5 : Nat → Int32 → Int32 → Int32 → Int32 → MH → Prop} (hK5 : ∀ (h : MH) (x0 : Nat) (x1 : Int32) (x2 : Int32) (x3 : Int32) (x4 : Int32), K5 x0 x1 x2 x3 x4 h → Wm MX4_mostAlike 1 0 0 5 [some (.ref (x0)), some (.int (x1)), some (.int (x2)), some (.int (x3)), some (.int (x4)), none, none] [] h (pI Q)) : ∀ (n : Nat) (h : MH) (x0 : Nat) (x1 : Int32) (x2 : Int32) (x3 : Int32) (x4 : Int32) (x5 : Int32) (x6 : Int32), wX4_mostAlike_22 Q K5 n x0 x1 x2 x3 x4 x5 x6 h → Wm MX4_mostAlike 1 0 0 22 [some (.ref (x0)), some (.int (x1)), some (.int (x2)), some (.int (x3)), some (.int (x4)), some (.int (x5)), some (.int (x6))] [] h (pI Q) := by
  intro n
  induction n with
  | zero => intro h x0 x1 x2 x3 x4 x5 x6 hw; exact hw.elim
  | succ n ih =>
    intro h x0 x1 x2 x3 x4 x5 x6 hw
    unfold wX4_mostAlike_22 at hw
    refine q_iload_n eX4_mostAlike_22 rfl ?_
    refine q_iload eX4_mostAlike_23 rfl ?_
    refine q_ishr eX4_mostAlike_25 ?_
    refine q_iconst (v := nI 1) eX4_mostAlike_26 (by decide) ?_
    refine q_iand eX4_mostAlike_27 ?_
    obtain ⟨hw1, hw2⟩ := hw
    refine q_if_eq (tgt := 73) eX4_mostAlike_28 (by decide) (fun c => ?_) (fun c => ?_)
    · have hw := hw1 c
      refine q_le (ls' := [some _, some _, some _, some _, some _, some _, none]) ⟨rfl, rfl, rfl, rfl, rfl, rfl, trivial⟩ ?_
      exact tX4_mostAlike_73 hK5 _ _ _ _ _ _ _ hw
    · have hw := hw2 c
      refine q_iload eX4_mostAlike_31 rfl ?_
      refine q_bipush (v := nI 10) eX4_mostAlike_33 (by decide) ?_
      obtain ⟨hw1, hw2⟩ := hw
      refine q_icmp_ge (tgt := 73) eX4_mostAlike_35 (by decide) (fun c => ?_) (fun c => ?_)
      · have hw := hw1 c
        refine q_le (ls' := [some _, some _, some _, some _, some _, some _, none]) ⟨rfl, rfl, rfl, rfl, rfl, rfl, trivial⟩ ?_
        exact tX4_mostAlike_73 hK5 _ _ _ _ _ _ _ hw
      · have hw := hw2 c
        refine q_iload_n eX4_mostAlike_38 rfl ?_
        refine q_iload eX4_mostAlike_39 rfl ?_
        refine q_ishr eX4_mostAlike_41 ?_
        refine q_iconst (v := nI 1) eX4_mostAlike_42 (by decide) ?_
        refine q_iand eX4_mostAlike_43 ?_
        obtain ⟨hw1, hw2⟩ := hw
        refine q_if_eq (tgt := 67) eX4_mostAlike_44 (by decide) (fun c => ?_) (fun c => ?_)
        · have hw := hw1 c
          refine x_iinc (v := (x6 + nI 1)) (ls' := [_, _, _, _, _, _, _]) eX4_mostAlike_67 rfl rfl rfl rfl ?_
          refine q_goto (tgt := 22) eX4_mostAlike_70 (by decide) ?_
          refine q_le (ls' := [some _, some _, some _, some _, some _, some _, some _]) ⟨rfl, rfl, rfl, rfl, rfl, rfl, rfl, trivial⟩ ?_
          exact ih _ _ _ _ _ _ _ _ hw
        · have hw := hw2 c
          refine q_aload_nr eX4_mostAlike_47 rfl ?_
          refine q_iload_n eX4_mostAlike_48 rfl ?_
          refine q_iload eX4_mostAlike_49 rfl ?_
          obtain ⟨hs1, hw⟩ := hw
          refine q_callV (b := 0) (t := 0) (gX4_priceOf _ _ _ _ _ hw) mlX4_118 kX4_priceOf vX4_priceOf rfl hs1 ⟨rfl, rfl⟩ (by decide) rfl (Nat.le_of_ble_eq_true rfl) eX4_mostAlike_51 (kI fun r2 h3 hw => ?_)
          refine q_aload_nr eX4_mostAlike_54 rfl ?_
          refine q_iload_n eX4_mostAlike_55 rfl ?_
          refine q_iload eX4_mostAlike_56 rfl ?_
          obtain ⟨hs4, hw⟩ := hw
          refine q_callV (b := 0) (t := 0) (gX4_priceOf _ _ _ _ _ hw) mlX4_118 kX4_priceOf vX4_priceOf rfl hs4 ⟨rfl, rfl⟩ (by decide) rfl (Nat.le_of_ble_eq_true rfl) eX4_mostAlike_58 (kI fun r5 h6 hw => ?_)
          obtain ⟨hw1, hw2⟩ := hw
          refine q_icmp_ne (tgt := 67) eX4_mostAlike_61 (by decide) (fun c => ?_) (fun c => ?_)
          · have hw := hw1 c
            refine x_iinc (v := (x6 + nI 1)) (ls' := [_, _, _, _, _, _, _]) eX4_mostAlike_67 rfl rfl rfl rfl ?_
            refine q_goto (tgt := 22) eX4_mostAlike_70 (by decide) ?_
            refine q_le (ls' := [some _, some _, some _, some _, some _, some _, some _]) ⟨rfl, rfl, rfl, rfl, rfl, rfl, rfl, trivial⟩ ?_
            exact ih _ _ _ _ _ _ _ _ hw
          · have hw := hw2 c
            refine x_iinc (v := (x5 + nI 1)) (ls' := [_, _, _, _, _, _, _]) eX4_mostAlike_64 rfl rfl rfl rfl ?_
            refine x_iinc (v := (x6 + nI 1)) (ls' := [_, _, _, _, _, _, _]) eX4_mostAlike_67 rfl rfl rfl rfl ?_
            refine q_goto (tgt := 22) eX4_mostAlike_70 (by decide) ?_
            refine q_le (ls' := [some _, some _, some _, some _, some _, some _, some _]) ⟨rfl, rfl, rfl, rfl, rfl, rfl, rfl, trivial⟩ ?_
            exact ih _ _ _ _ _ _ _ _ hw
def wX4_mostAlike_5 (Q : Int32 → MH → Prop) : Nat → Nat → Int32 → Int32 → Int32 → Int32 → MH → Prop
  | 0, _, _, _, _, _, _ => False
  | n + 1, x0, x1, x2, x3, x4, h => (x1 < 0 → Q (x3) h) ∧ (¬ (x1 < 0) → (nI 10 ≤ x4 → Q (x3) h) ∧ (¬ (nI 10 ≤ x4) → ∃ m7, wX4_mostAlike_22 Q (wX4_mostAlike_5 Q n) m7 x0 x1 x2 x3 x4 (nI 0) (nI 0) h))
set_option maxHeartbeats 4000000 in
set_option maxRecDepth 100000 in
theorem tX4_mostAlike_5 {Q : Int32 → MH → Prop} : ∀ (n : Nat) (h : MH) (x0 : Nat) (x1 : Int32) (x2 : Int32) (x3 : Int32) (x4 : Int32), wX4_mostAlike_5 Q n x0 x1 x2 x3 x4 h → Wm MX4_mostAlike 1 0 0 5 [some (.ref (x0)), some (.int (x1)), some (.int (x2)), some (.int (x3)), some (.int (x4)), none, none] [] h (pI Q) := by
  intro n
  induction n with
  | zero => intro h x0 x1 x2 x3 x4 hw; exact hw.elim
  | succ n ih =>
    intro h x0 x1 x2 x3 x4 hw
    unfold wX4_mostAlike_5 at hw
    refine q_iload_n eX4_mostAlike_5 rfl ?_
    obtain ⟨hw1, hw2⟩ := hw
    refine q_if_lt (tgt := 86) eX4_mostAlike_6 (by decide) (fun c => ?_) (fun c => ?_)
    · have hw := hw1 c
      refine q_iload_n eX4_mostAlike_86 rfl ?_
      exact q_ret rfl eX4_mostAlike_87 ⟨_, rfl, hw⟩
    · have hw := hw2 c
      refine q_iload eX4_mostAlike_9 rfl ?_
      refine q_bipush (v := nI 10) eX4_mostAlike_11 (by decide) ?_
      obtain ⟨hw1, hw2⟩ := hw
      refine q_icmp_ge (tgt := 86) eX4_mostAlike_13 (by decide) (fun c => ?_) (fun c => ?_)
      · have hw := hw1 c
        refine q_iload_n eX4_mostAlike_86 rfl ?_
        exact q_ret rfl eX4_mostAlike_87 ⟨_, rfl, hw⟩
      · have hw := hw2 c
        refine q_iconst (v := nI 0) eX4_mostAlike_16 (by decide) ?_
        refine x_istore (ls' := [_, _, _, _, _, _, _]) eX4_mostAlike_17 (by decide) rfl rfl ?_
        refine q_iconst (v := nI 0) eX4_mostAlike_19 (by decide) ?_
        refine x_istore (ls' := [_, _, _, _, _, _, _]) eX4_mostAlike_20 (by decide) rfl rfl ?_
        refine q_le (ls' := [some _, some _, some _, some _, some _, some _, some _]) ⟨rfl, rfl, rfl, rfl, rfl, rfl, rfl, trivial⟩ ?_
        obtain ⟨m7, hw⟩ := hw
        exact tX4_mostAlike_22 ih m7 _ _ _ _ _ _ _ _ hw
def wX4_mostAlike (x0 : Nat) (x1 : Int32) (x2 : Int32) (h : MH) (Q : Int32 → MH → Prop) : Prop := ∃ m8, wX4_mostAlike_5 Q m8 x0 x1 x2 (nI 0) (nI 0) h
set_option maxHeartbeats 4000000 in
set_option maxRecDepth 100000 in
theorem gX4_mostAlike (x0 : Nat) (x1 : Int32) (x2 : Int32) (h : MH) (Q : Int32 → MH → Prop) (hw : wX4_mostAlike x0 x1 x2 h Q) : Cm MX4_mostAlike 1 0 0 [.ref (x0), .int (x1), .int (x2)] h (pI Q) := by
  refine cm_of [some (.ref (x0)), some (.int (x1)), some (.int (x2)), none, none, none, none] rfl pnX4 (Nat.le_of_ble_eq_true rfl) rfl ?_
  unfold wX4_mostAlike at hw
  refine q_iconst (v := nI 0) eX4_mostAlike_0 (by decide) ?_
  refine x_istore_n (ls' := [_, _, _, _, _, _, _]) eX4_mostAlike_1 (by decide) rfl rfl ?_
  refine q_iconst (v := nI 0) eX4_mostAlike_2 (by decide) ?_
  refine x_istore (ls' := [_, _, _, _, _, _, _]) eX4_mostAlike_3 (by decide) rfl rfl ?_
  refine q_le (ls' := [some _, some _, some _, some _, some _, none, none]) ⟨rfl, rfl, rfl, rfl, rfl, trivial⟩ ?_
  obtain ⟨m8, hw⟩ := hw
  exact tX4_mostAlike_5 m8 _ _ _ _ _ _ hw
def wX4_allWork (x0 : Nat) (h : MH) (Q : Int32 → MH → Prop) : Prop := hS h x0 = (1, 4) ∧ ∃ a2, hR h x0 7 = some a2 ∧ wX4_sumOf x0 a2 (-1 : Int32) h (fun r4 h5 => Q (r4) h5)
set_option maxHeartbeats 4000000 in
set_option maxRecDepth 100000 in
theorem gX4_allWork (x0 : Nat) (h : MH) (Q : Int32 → MH → Prop) (hw : wX4_allWork x0 h Q) : Cm MX4_allWork 1 0 0 [.ref (x0)] h (pI Q) := by
  refine cm_of [some (.ref (x0))] rfl pnX4 (Nat.le_of_ble_eq_true rfl) rfl ?_
  unfold wX4_allWork at hw
  refine q_aload_nr eX4_allWork_0 rfl ?_
  refine q_aload_nr eX4_allWork_1 rfl ?_
  obtain ⟨hs1, hw⟩ := hw
  obtain ⟨a2, hr3, hw⟩ := hw
  refine q_getR flX4_34 rfl hs1 hr3 eX4_allWork_2 ?_
  refine q_iconst (v := (-1 : Int32)) eX4_allWork_5 (by decide) ?_
  refine q_callV (b := 0) (t := 0) (gX4_sumOf _ _ _ _ _ hw) mlX4_77 kX4_sumOf vX4_sumOf rfl hs1 ⟨rfl, rfl⟩ (by decide) rfl (Nat.le_of_ble_eq_true rfl) eX4_allWork_6 (kI fun r4 h5 hw => ?_)
  exact q_ret rfl eX4_allWork_9 ⟨_, rfl, hw⟩
def wX4_comeTo_19 (Q : Int32 → MH → Prop) (K7 : Nat → Int32 → Int32 → Int32 → MH → Prop) : Nat → Nat → Int32 → Int32 → Int32 → Int32 → MH → Prop
  | 0, _, _, _, _, _, _ => False
  | n + 1, x0, x2, x3, x4, x5, h => hS h x0 = (1, 4) ∧ (hI h x0 3 ≤ x5 → K7 x0 x2 x3 (x4 + nI 1) h) ∧ (¬ (hI h x0 3 ≤ x5) → ∃ a3, hR h x0 4 = some a3 ∧ ∃ n6, hS h a3 = (2, n6) ∧ vp_in (x5) n6 ∧ ∃ a8, hR h x0 5 = some a8 ∧ ∃ n11, hS h a8 = (2, n11) ∧ vp_in (x5) n11 ∧ ∀ v13, v13 = ((nI 1 <<< (hI h a3 (x5).toNatClampNeg &&& 31)) ||| (nI 1 <<< (hI h a8 (x5).toNatClampNeg &&& 31))) → (¬ (((x2 >>> (x5 &&& 31)) &&& nI 1) = 0) → wX4_comeTo_19 Q K7 n x0 x2 x3 x4 (x5 + nI 1) h) ∧ (((x2 >>> (x5 &&& 31)) &&& nI 1) = 0 → ((x3 &&& v13) = 0 → wX4_comeTo_19 Q K7 n x0 x2 x3 x4 (x5 + nI 1) h) ∧ (¬ ((x3 &&& v13) = 0) → wX4_comeTo_19 Q K7 n x0 x2 (x3 ||| v13) x4 (x5 + nI 1) h)))
set_option maxHeartbeats 4000000 in
set_option maxRecDepth 100000 in
theorem tX4_comeTo_19 {Q : Int32 → MH → Prop} {K7 : Nat → Int32 → Int32 → Int32 → MH → Prop} (hK7 : ∀ (h : MH) (x0 : Nat) (x2 : Int32) (x3 : Int32) (x4 : Int32), K7 x0 x2 x3 x4 h → Wm MX4_comeTo 0 0 0 7 [some (.ref (x0)), none, some (.int (x2)), some (.int (x3)), some (.int (x4)), none, none] [] h (pI Q)) : ∀ (n : Nat) (h : MH) (x0 : Nat) (x2 : Int32) (x3 : Int32) (x4 : Int32) (x5 : Int32), wX4_comeTo_19 Q K7 n x0 x2 x3 x4 x5 h → Wm MX4_comeTo 0 0 0 19 [some (.ref (x0)), none, some (.int (x2)), some (.int (x3)), some (.int (x4)), some (.int (x5)), none] [] h (pI Q) := by
  intro n
  induction n with
  | zero => intro h x0 x2 x3 x4 x5 hw; exact hw.elim
  | succ n ih =>
    intro h x0 x2 x3 x4 x5 hw
    unfold wX4_comeTo_19 at hw
    refine q_iload eX4_comeTo_19 rfl ?_
    refine q_aload_nr eX4_comeTo_21 rfl ?_
    obtain ⟨hs2, hw⟩ := hw
    refine q_getI flX4_21 rfl hs2 eX4_comeTo_22 ?_
    obtain ⟨hw1, hw2⟩ := hw
    refine q_icmp_ge (tgt := 76) eX4_comeTo_25 (by decide) (fun c => ?_) (fun c => ?_)
    · have hw := hw1 c
      refine x_iinc (v := (x4 + nI 1)) (ls' := [_, _, _, _, _, _, _]) eX4_comeTo_76 rfl rfl rfl rfl ?_
      refine q_goto (tgt := 7) eX4_comeTo_79 (by decide) ?_
      refine q_le (ls' := [some _, none, some _, some _, some _, none, none]) ⟨rfl, rfl, rfl, rfl, trivial⟩ ?_
      exact hK7 _ _ _ _ _ hw
    · have hw := hw2 c
      refine q_iconst (v := nI 1) eX4_comeTo_28 (by decide) ?_
      refine q_aload_nr eX4_comeTo_29 rfl ?_
      obtain ⟨a3, hr4, hw⟩ := hw
      refine q_getR flX4_24 rfl hs2 hr4 eX4_comeTo_30 ?_
      refine q_iload eX4_comeTo_33 rfl ?_
      obtain ⟨n6, hs5, hw⟩ := hw
      obtain ⟨hi7, hw⟩ := hw
      refine q_iald hs5 hi7 eX4_comeTo_35 ?_
      refine q_ishl eX4_comeTo_36 ?_
      refine q_iconst (v := nI 1) eX4_comeTo_37 (by decide) ?_
      refine q_aload_nr eX4_comeTo_38 rfl ?_
      obtain ⟨a8, hr9, hw⟩ := hw
      refine q_getR flX4_28 rfl hs2 hr9 eX4_comeTo_39 ?_
      refine q_iload eX4_comeTo_42 rfl ?_
      obtain ⟨n11, hs10, hw⟩ := hw
      obtain ⟨hi12, hw⟩ := hw
      refine q_iald hs10 hi12 eX4_comeTo_44 ?_
      refine q_ishl eX4_comeTo_45 ?_
      refine q_ior eX4_comeTo_46 ?_
      have hw := hw _ rfl
      refine x_istore (ls' := [_, _, _, _, _, _, _]) eX4_comeTo_47 (by decide) rfl rfl ?_
      refine q_iload_n eX4_comeTo_49 rfl ?_
      refine q_iload eX4_comeTo_50 rfl ?_
      refine q_ishr eX4_comeTo_52 ?_
      refine q_iconst (v := nI 1) eX4_comeTo_53 (by decide) ?_
      refine q_iand eX4_comeTo_54 ?_
      obtain ⟨hw1, hw2⟩ := hw
      refine q_if_ne (tgt := 70) eX4_comeTo_55 (by decide) (fun c => ?_) (fun c => ?_)
      · have hw := hw1 c
        refine x_iinc (v := (x5 + nI 1)) (ls' := [_, _, _, _, _, _, _]) eX4_comeTo_70 rfl rfl rfl rfl ?_
        refine q_goto (tgt := 19) eX4_comeTo_73 (by decide) ?_
        refine q_le (ls' := [some _, none, some _, some _, some _, some _, none]) ⟨rfl, rfl, rfl, rfl, rfl, trivial⟩ ?_
        exact ih _ _ _ _ _ _ hw
      · have hw := hw2 c
        refine q_iload_n eX4_comeTo_58 rfl ?_
        refine q_iload eX4_comeTo_59 rfl ?_
        refine q_iand eX4_comeTo_61 ?_
        obtain ⟨hw1, hw2⟩ := hw
        refine q_if_eq (tgt := 70) eX4_comeTo_62 (by decide) (fun c => ?_) (fun c => ?_)
        · have hw := hw1 c
          refine x_iinc (v := (x5 + nI 1)) (ls' := [_, _, _, _, _, _, _]) eX4_comeTo_70 rfl rfl rfl rfl ?_
          refine q_goto (tgt := 19) eX4_comeTo_73 (by decide) ?_
          refine q_le (ls' := [some _, none, some _, some _, some _, some _, none]) ⟨rfl, rfl, rfl, rfl, rfl, trivial⟩ ?_
          exact ih _ _ _ _ _ _ hw
        · have hw := hw2 c
          refine q_iload_n eX4_comeTo_65 rfl ?_
          refine q_iload eX4_comeTo_66 rfl ?_
          refine q_ior eX4_comeTo_68 ?_
          refine x_istore_n (ls' := [_, _, _, _, _, _, _]) eX4_comeTo_69 (by decide) rfl rfl ?_
          refine x_iinc (v := (x5 + nI 1)) (ls' := [_, _, _, _, _, _, _]) eX4_comeTo_70 rfl rfl rfl rfl ?_
          refine q_goto (tgt := 19) eX4_comeTo_73 (by decide) ?_
          refine q_le (ls' := [some _, none, some _, some _, some _, some _, none]) ⟨rfl, rfl, rfl, rfl, rfl, trivial⟩ ?_
          exact ih _ _ _ _ _ _ hw
def wX4_comeTo_7 (Q : Int32 → MH → Prop) : Nat → Nat → Int32 → Int32 → Int32 → MH → Prop
  | 0, _, _, _, _, _ => False
  | n + 1, x0, x2, x3, x4, h => hS h x0 = (1, 4) ∧ (hI h x0 0 ≤ x4 → Q (x3) h) ∧ (¬ (hI h x0 0 ≤ x4) → ∃ m14, wX4_comeTo_19 Q (wX4_comeTo_7 Q n) m14 x0 x2 x3 x4 (nI 0) h)
set_option maxHeartbeats 4000000 in
set_option maxRecDepth 100000 in
theorem tX4_comeTo_7 {Q : Int32 → MH → Prop} : ∀ (n : Nat) (h : MH) (x0 : Nat) (x2 : Int32) (x3 : Int32) (x4 : Int32), wX4_comeTo_7 Q n x0 x2 x3 x4 h → Wm MX4_comeTo 0 0 0 7 [some (.ref (x0)), none, some (.int (x2)), some (.int (x3)), some (.int (x4)), none, none] [] h (pI Q) := by
  intro n
  induction n with
  | zero => intro h x0 x2 x3 x4 hw; exact hw.elim
  | succ n ih =>
    intro h x0 x2 x3 x4 hw
    unfold wX4_comeTo_7 at hw
    refine q_iload eX4_comeTo_7 rfl ?_
    refine q_aload_nr eX4_comeTo_9 rfl ?_
    obtain ⟨hs1, hw⟩ := hw
    refine q_getI flX4_9 rfl hs1 eX4_comeTo_10 ?_
    obtain ⟨hw1, hw2⟩ := hw
    refine q_icmp_ge (tgt := 82) eX4_comeTo_13 (by decide) (fun c => ?_) (fun c => ?_)
    · have hw := hw1 c
      refine q_iload_n eX4_comeTo_82 rfl ?_
      exact q_ret rfl eX4_comeTo_83 ⟨_, rfl, hw⟩
    · have hw := hw2 c
      refine q_iconst (v := nI 0) eX4_comeTo_16 (by decide) ?_
      refine x_istore (ls' := [_, _, _, _, _, _, _]) eX4_comeTo_17 (by decide) rfl rfl ?_
      refine q_le (ls' := [some _, none, some _, some _, some _, some _, none]) ⟨rfl, rfl, rfl, rfl, rfl, trivial⟩ ?_
      obtain ⟨m14, hw⟩ := hw
      exact tX4_comeTo_19 ih m14 _ _ _ _ _ _ hw
def wX4_comeTo (x0 : Nat) (x1 : Int32) (x2 : Int32) (h : MH) (Q : Int32 → MH → Prop) : Prop := ∃ m15, wX4_comeTo_7 Q m15 x0 x2 (nI 1 <<< (x1 &&& 31)) (nI 0) h
set_option maxHeartbeats 4000000 in
set_option maxRecDepth 100000 in
theorem gX4_comeTo (x0 : Nat) (x1 : Int32) (x2 : Int32) (h : MH) (Q : Int32 → MH → Prop) (hw : wX4_comeTo x0 x1 x2 h Q) : Cm MX4_comeTo 0 0 0 [.ref (x0), .int (x1), .int (x2)] h (pI Q) := by
  refine cm_of [some (.ref (x0)), some (.int (x1)), some (.int (x2)), none, none, none, none] rfl pnX4 (Nat.le_of_ble_eq_true rfl) rfl ?_
  unfold wX4_comeTo at hw
  refine q_iconst (v := nI 1) eX4_comeTo_0 (by decide) ?_
  refine q_iload_n eX4_comeTo_1 rfl ?_
  refine q_ishl eX4_comeTo_2 ?_
  refine x_istore_n (ls' := [_, _, _, _, _, _, _]) eX4_comeTo_3 (by decide) rfl rfl ?_
  refine q_iconst (v := nI 0) eX4_comeTo_4 (by decide) ?_
  refine x_istore (ls' := [_, _, _, _, _, _, _]) eX4_comeTo_5 (by decide) rfl rfl ?_
  refine q_le (ls' := [some _, none, some _, some _, some _, none, none]) ⟨rfl, rfl, rfl, rfl, trivial⟩ ?_
  obtain ⟨m15, hw⟩ := hw
  exact tX4_comeTo_7 m15 _ _ _ _ _ hw
def wX4_linksLeaving_4 (Q : Int32 → MH → Prop) : Nat → Nat → Int32 → Int32 → Int32 → MH → Prop
  | 0, _, _, _, _, _ => False
  | n + 1, x0, x1, x2, x3, h => hS h x0 = (1, 4) ∧ (hI h x0 3 ≤ x3 → Q (x2) h) ∧ (¬ (hI h x0 3 ≤ x3) → ∃ a2, hR h x0 4 = some a2 ∧ ∃ n5, hS h a2 = (2, n5) ∧ vp_in (x3) n5 ∧ ∃ a7, hR h x0 5 = some a7 ∧ ∃ n10, hS h a7 = (2, n10) ∧ vp_in (x3) n10 ∧ ∀ v12, v12 = (x2 ||| ((((x1 >>> (hI h a2 (x3).toNatClampNeg &&& 31)) ^^^ (x1 >>> (hI h a7 (x3).toNatClampNeg &&& 31))) &&& nI 1) <<< (x3 &&& 31))) → wX4_linksLeaving_4 Q n x0 x1 v12 (x3 + nI 1) h)
set_option maxHeartbeats 4000000 in
set_option maxRecDepth 100000 in
theorem tX4_linksLeaving_4 {Q : Int32 → MH → Prop} : ∀ (n : Nat) (h : MH) (x0 : Nat) (x1 : Int32) (x2 : Int32) (x3 : Int32), wX4_linksLeaving_4 Q n x0 x1 x2 x3 h → Wm MX4_linksLeaving 0 0 0 4 [some (.ref (x0)), some (.int (x1)), some (.int (x2)), some (.int (x3))] [] h (pI Q) := by
  intro n
  induction n with
  | zero => intro h x0 x1 x2 x3 hw; exact hw.elim
  | succ n ih =>
    intro h x0 x1 x2 x3 hw
    unfold wX4_linksLeaving_4 at hw
    refine q_iload_n eX4_linksLeaving_4 rfl ?_
    refine q_aload_nr eX4_linksLeaving_5 rfl ?_
    obtain ⟨hs1, hw⟩ := hw
    refine q_getI flX4_21 rfl hs1 eX4_linksLeaving_6 ?_
    obtain ⟨hw1, hw2⟩ := hw
    refine q_icmp_ge (tgt := 42) eX4_linksLeaving_9 (by decide) (fun c => ?_) (fun c => ?_)
    · have hw := hw1 c
      refine q_iload_n eX4_linksLeaving_42 rfl ?_
      exact q_ret rfl eX4_linksLeaving_43 ⟨_, rfl, hw⟩
    · have hw := hw2 c
      refine q_iload_n eX4_linksLeaving_12 rfl ?_
      refine q_iload_n eX4_linksLeaving_13 rfl ?_
      refine q_aload_nr eX4_linksLeaving_14 rfl ?_
      obtain ⟨a2, hr3, hw⟩ := hw
      refine q_getR flX4_24 rfl hs1 hr3 eX4_linksLeaving_15 ?_
      refine q_iload_n eX4_linksLeaving_18 rfl ?_
      obtain ⟨n5, hs4, hw⟩ := hw
      obtain ⟨hi6, hw⟩ := hw
      refine q_iald hs4 hi6 eX4_linksLeaving_19 ?_
      refine q_ishr eX4_linksLeaving_20 ?_
      refine q_iload_n eX4_linksLeaving_21 rfl ?_
      refine q_aload_nr eX4_linksLeaving_22 rfl ?_
      obtain ⟨a7, hr8, hw⟩ := hw
      refine q_getR flX4_28 rfl hs1 hr8 eX4_linksLeaving_23 ?_
      refine q_iload_n eX4_linksLeaving_26 rfl ?_
      obtain ⟨n10, hs9, hw⟩ := hw
      obtain ⟨hi11, hw⟩ := hw
      refine q_iald hs9 hi11 eX4_linksLeaving_27 ?_
      refine q_ishr eX4_linksLeaving_28 ?_
      refine q_ixor eX4_linksLeaving_29 ?_
      refine q_iconst (v := nI 1) eX4_linksLeaving_30 (by decide) ?_
      refine q_iand eX4_linksLeaving_31 ?_
      refine q_iload_n eX4_linksLeaving_32 rfl ?_
      refine q_ishl eX4_linksLeaving_33 ?_
      refine q_ior eX4_linksLeaving_34 ?_
      have hw := hw _ rfl
      refine x_istore_n (ls' := [_, _, _, _]) eX4_linksLeaving_35 (by decide) rfl rfl ?_
      refine x_iinc (v := (x3 + nI 1)) (ls' := [_, _, _, _]) eX4_linksLeaving_36 rfl rfl rfl rfl ?_
      refine q_goto (tgt := 4) eX4_linksLeaving_39 (by decide) ?_
      refine q_le (ls' := [some _, some _, some _, some _]) ⟨rfl, rfl, rfl, rfl, trivial⟩ ?_
      exact ih _ _ _ _ _ hw
def wX4_linksLeaving (x0 : Nat) (x1 : Int32) (h : MH) (Q : Int32 → MH → Prop) : Prop := ∃ m13, wX4_linksLeaving_4 Q m13 x0 x1 (nI 0) (nI 0) h
set_option maxHeartbeats 4000000 in
set_option maxRecDepth 100000 in
theorem gX4_linksLeaving (x0 : Nat) (x1 : Int32) (h : MH) (Q : Int32 → MH → Prop) (hw : wX4_linksLeaving x0 x1 h Q) : Cm MX4_linksLeaving 0 0 0 [.ref (x0), .int (x1)] h (pI Q) := by
  refine cm_of [some (.ref (x0)), some (.int (x1)), none, none] rfl pnX4 (Nat.le_of_ble_eq_true rfl) rfl ?_
  unfold wX4_linksLeaving at hw
  refine q_iconst (v := nI 0) eX4_linksLeaving_0 (by decide) ?_
  refine x_istore_n (ls' := [_, _, _, _]) eX4_linksLeaving_1 (by decide) rfl rfl ?_
  refine q_iconst (v := nI 0) eX4_linksLeaving_2 (by decide) ?_
  refine x_istore_n (ls' := [_, _, _, _]) eX4_linksLeaving_3 (by decide) rfl rfl ?_
  refine q_le (ls' := [some _, some _, some _, some _]) ⟨rfl, rfl, rfl, rfl, trivial⟩ ?_
  obtain ⟨m13, hw⟩ := hw
  exact tX4_linksLeaving_4 m13 _ _ _ _ _ hw
def wX4_leastCut_12 (Q : Int32 → MH → Prop) : Nat → Nat → Int32 → Int32 → Int32 → Int32 → MH → Prop
  | 0, _, _, _, _, _, _ => False
  | n + 1, x0, x1, x2, x3, x4, h => hS h x0 = (1, 4) ∧ ((nI 1 <<< (hI h x0 0 &&& 31)) ≤ x4 → Q (x3) h) ∧ (¬ ((nI 1 <<< (hI h x0 0 &&& 31)) ≤ x4) → (((x4 >>> (x1 &&& 31)) &&& nI 1) = 0 → wX4_leastCut_12 Q n x0 x1 x2 x3 (x4 + nI 1) h) ∧ (¬ (((x4 >>> (x1 &&& 31)) &&& nI 1) = 0) → (¬ (((x4 >>> (x2 &&& 31)) &&& nI 1) = 0) → wX4_leastCut_12 Q n x0 x1 x2 x3 (x4 + nI 1) h) ∧ (((x4 >>> (x2 &&& 31)) &&& nI 1) = 0 → wX4_linksLeaving x0 x4 h (fun r3 h4 => wJ6_bitCount_0f7a4 r3 h4 (fun r5 h6 => wJ6_bitCount_0f7a4 x3 h6 (fun r7 h8 => ((r5 - r7) < 0 → wX4_leastCut_12 Q n x0 x1 x2 r3 (x4 + nI 1) h8) ∧ (¬ ((r5 - r7) < 0) → (¬ ((r5 - r7) = 0) → wX4_leastCut_12 Q n x0 x1 x2 x3 (x4 + nI 1) h8) ∧ ((r5 - r7) = 0 → (x3 ≤ r3 → wX4_leastCut_12 Q n x0 x1 x2 x3 (x4 + nI 1) h8) ∧ (¬ (x3 ≤ r3) → wX4_leastCut_12 Q n x0 x1 x2 r3 (x4 + nI 1) h8)))))))))
set_option maxHeartbeats 4000000 in
set_option maxRecDepth 100000 in
theorem tX4_leastCut_12 {Q : Int32 → MH → Prop} : ∀ (n : Nat) (h : MH) (x0 : Nat) (x1 : Int32) (x2 : Int32) (x3 : Int32) (x4 : Int32), wX4_leastCut_12 Q n x0 x1 x2 x3 x4 h → Wm MX4_leastCut 1 0 0 12 [some (.ref (x0)), some (.int (x1)), some (.int (x2)), some (.int (x3)), some (.int (x4)), none, none] [] h (pI Q) := by
  intro n
  induction n with
  | zero => intro h x0 x1 x2 x3 x4 hw; exact hw.elim
  | succ n ih =>
    intro h x0 x1 x2 x3 x4 hw
    unfold wX4_leastCut_12 at hw
    refine q_iload eX4_leastCut_12 rfl ?_
    refine q_iconst (v := nI 1) eX4_leastCut_14 (by decide) ?_
    refine q_aload_nr eX4_leastCut_15 rfl ?_
    obtain ⟨hs2, hw⟩ := hw
    refine q_getI flX4_9 rfl hs2 eX4_leastCut_16 ?_
    refine q_ishl eX4_leastCut_19 ?_
    obtain ⟨hw1, hw2⟩ := hw
    refine q_icmp_ge (tgt := 86) eX4_leastCut_20 (by decide) (fun c => ?_) (fun c => ?_)
    · have hw := hw1 c
      refine q_iload_n eX4_leastCut_86 rfl ?_
      exact q_ret rfl eX4_leastCut_87 ⟨_, rfl, hw⟩
    · have hw := hw2 c
      refine q_iload eX4_leastCut_23 rfl ?_
      refine q_iload_n eX4_leastCut_25 rfl ?_
      refine q_ishr eX4_leastCut_26 ?_
      refine q_iconst (v := nI 1) eX4_leastCut_27 (by decide) ?_
      refine q_iand eX4_leastCut_28 ?_
      obtain ⟨hw1, hw2⟩ := hw
      refine q_if_eq (tgt := 80) eX4_leastCut_29 (by decide) (fun c => ?_) (fun c => ?_)
      · have hw := hw1 c
        refine x_iinc (v := (x4 + nI 1)) (ls' := [_, _, _, _, _, _, _]) eX4_leastCut_80 rfl rfl rfl rfl ?_
        refine q_goto (tgt := 12) eX4_leastCut_83 (by decide) ?_
        refine q_le (ls' := [some _, some _, some _, some _, some _, none, none]) ⟨rfl, rfl, rfl, rfl, rfl, trivial⟩ ?_
        exact ih _ _ _ _ _ _ hw
      · have hw := hw2 c
        refine q_iload eX4_leastCut_32 rfl ?_
        refine q_iload_n eX4_leastCut_34 rfl ?_
        refine q_ishr eX4_leastCut_35 ?_
        refine q_iconst (v := nI 1) eX4_leastCut_36 (by decide) ?_
        refine q_iand eX4_leastCut_37 ?_
        obtain ⟨hw1, hw2⟩ := hw
        refine q_if_ne (tgt := 80) eX4_leastCut_38 (by decide) (fun c => ?_) (fun c => ?_)
        · have hw := hw1 c
          refine x_iinc (v := (x4 + nI 1)) (ls' := [_, _, _, _, _, _, _]) eX4_leastCut_80 rfl rfl rfl rfl ?_
          refine q_goto (tgt := 12) eX4_leastCut_83 (by decide) ?_
          refine q_le (ls' := [some _, some _, some _, some _, some _, none, none]) ⟨rfl, rfl, rfl, rfl, rfl, trivial⟩ ?_
          exact ih _ _ _ _ _ _ hw
        · have hw := hw2 c
          refine q_aload_nr eX4_leastCut_41 rfl ?_
          refine q_iload eX4_leastCut_42 rfl ?_
          refine q_callV (b := 0) (t := 0) (gX4_linksLeaving _ _ _ _ hw) mlX4_133 kX4_linksLeaving vX4_linksLeaving rfl hs2 ⟨rfl, rfl⟩ (by decide) rfl (Nat.le_of_ble_eq_true rfl) eX4_leastCut_44 (kI fun r3 h4 hw => ?_)
          refine x_istore (ls' := [_, _, _, _, _, _, _]) eX4_leastCut_47 (by decide) rfl rfl ?_
          refine q_iload eX4_leastCut_49 rfl ?_
          refine q_callS (b := 0) (t := 0) (gJ6_bitCount_0f7a4 _ _ _ hw) mlX4_72 kJ6_bitCount_0f7a4 sJ6_bitCount_0f7a4 rfl (by decide) rfl (Nat.le_of_ble_eq_true rfl) eX4_leastCut_51 (kI fun r5 h6 hw => ?_)
          refine q_iload_n eX4_leastCut_54 rfl ?_
          refine q_callS (b := 0) (t := 0) (gJ6_bitCount_0f7a4 _ _ _ hw) mlX4_72 kJ6_bitCount_0f7a4 sJ6_bitCount_0f7a4 rfl (by decide) rfl (Nat.le_of_ble_eq_true rfl) eX4_leastCut_55 (kI fun r7 h8 hw => ?_)
          refine q_isub eX4_leastCut_58 ?_
          refine x_istore (ls' := [_, _, _, _, _, _, _]) eX4_leastCut_59 (by decide) rfl rfl ?_
          refine q_iload eX4_leastCut_61 rfl ?_
          obtain ⟨hw1, hw2⟩ := hw
          refine q_if_lt (tgt := 77) eX4_leastCut_63 (by decide) (fun c => ?_) (fun c => ?_)
          · have hw := hw1 c
            refine q_iload eX4_leastCut_77 rfl ?_
            refine x_istore_n (ls' := [_, _, _, _, _, _, _]) eX4_leastCut_79 (by decide) rfl rfl ?_
            refine x_iinc (v := (x4 + nI 1)) (ls' := [_, _, _, _, _, _, _]) eX4_leastCut_80 rfl rfl rfl rfl ?_
            refine q_goto (tgt := 12) eX4_leastCut_83 (by decide) ?_
            refine q_le (ls' := [some _, some _, some _, some _, some _, none, none]) ⟨rfl, rfl, rfl, rfl, rfl, trivial⟩ ?_
            exact ih _ _ _ _ _ _ hw
          · have hw := hw2 c
            refine q_iload eX4_leastCut_66 rfl ?_
            obtain ⟨hw1, hw2⟩ := hw
            refine q_if_ne (tgt := 80) eX4_leastCut_68 (by decide) (fun c => ?_) (fun c => ?_)
            · have hw := hw1 c
              refine x_iinc (v := (x4 + nI 1)) (ls' := [_, _, _, _, _, _, _]) eX4_leastCut_80 rfl rfl rfl rfl ?_
              refine q_goto (tgt := 12) eX4_leastCut_83 (by decide) ?_
              refine q_le (ls' := [some _, some _, some _, some _, some _, none, none]) ⟨rfl, rfl, rfl, rfl, rfl, trivial⟩ ?_
              exact ih _ _ _ _ _ _ hw
            · have hw := hw2 c
              refine q_iload eX4_leastCut_71 rfl ?_
              refine q_iload_n eX4_leastCut_73 rfl ?_
              obtain ⟨hw1, hw2⟩ := hw
              refine q_icmp_ge (tgt := 80) eX4_leastCut_74 (by decide) (fun c => ?_) (fun c => ?_)
              · have hw := hw1 c
                refine x_iinc (v := (x4 + nI 1)) (ls' := [_, _, _, _, _, _, _]) eX4_leastCut_80 rfl rfl rfl rfl ?_
                refine q_goto (tgt := 12) eX4_leastCut_83 (by decide) ?_
                refine q_le (ls' := [some _, some _, some _, some _, some _, none, none]) ⟨rfl, rfl, rfl, rfl, rfl, trivial⟩ ?_
                exact ih _ _ _ _ _ _ hw
              · have hw := hw2 c
                refine q_iload eX4_leastCut_77 rfl ?_
                refine x_istore_n (ls' := [_, _, _, _, _, _, _]) eX4_leastCut_79 (by decide) rfl rfl ?_
                refine x_iinc (v := (x4 + nI 1)) (ls' := [_, _, _, _, _, _, _]) eX4_leastCut_80 rfl rfl rfl rfl ?_
                refine q_goto (tgt := 12) eX4_leastCut_83 (by decide) ?_
                refine q_le (ls' := [some _, some _, some _, some _, some _, none, none]) ⟨rfl, rfl, rfl, rfl, rfl, trivial⟩ ?_
                exact ih _ _ _ _ _ _ hw
def wX4_leastCut (x0 : Nat) (x1 : Int32) (x2 : Int32) (h : MH) (Q : Int32 → MH → Prop) : Prop := hS h x0 = (1, 4) ∧ ∃ m9, wX4_leastCut_12 Q m9 x0 x1 x2 ((nI 1 <<< (hI h x0 3 &&& 31)) - nI 1) (nI 0) h
set_option maxHeartbeats 4000000 in
set_option maxRecDepth 100000 in
theorem gX4_leastCut (x0 : Nat) (x1 : Int32) (x2 : Int32) (h : MH) (Q : Int32 → MH → Prop) (hw : wX4_leastCut x0 x1 x2 h Q) : Cm MX4_leastCut 1 0 0 [.ref (x0), .int (x1), .int (x2)] h (pI Q) := by
  refine cm_of [some (.ref (x0)), some (.int (x1)), some (.int (x2)), none, none, none, none] rfl pnX4 (Nat.le_of_ble_eq_true rfl) rfl ?_
  unfold wX4_leastCut at hw
  refine q_iconst (v := nI 1) eX4_leastCut_0 (by decide) ?_
  refine q_aload_nr eX4_leastCut_1 rfl ?_
  obtain ⟨hs1, hw⟩ := hw
  refine q_getI flX4_21 rfl hs1 eX4_leastCut_2 ?_
  refine q_ishl eX4_leastCut_5 ?_
  refine q_iconst (v := nI 1) eX4_leastCut_6 (by decide) ?_
  refine q_isub eX4_leastCut_7 ?_
  refine x_istore_n (ls' := [_, _, _, _, _, _, _]) eX4_leastCut_8 (by decide) rfl rfl ?_
  refine q_iconst (v := nI 0) eX4_leastCut_9 (by decide) ?_
  refine x_istore (ls' := [_, _, _, _, _, _, _]) eX4_leastCut_10 (by decide) rfl rfl ?_
  refine q_le (ls' := [some _, some _, some _, some _, some _, none, none]) ⟨rfl, rfl, rfl, rfl, rfl, trivial⟩ ?_
  obtain ⟨m9, hw⟩ := hw
  exact tX4_leastCut_12 m9 _ _ _ _ _ _ hw
def wX5_init (b t : Nat) (x0 : Nat) (h : MH) (Q : MH → Prop) : Prop := hS h x0 = (1, 5) ∧ ∀ h2, h2 = sI h x0 0 (nI 0) → ∀ h3, h3 = sI h2 x0 1 (nI 0) → ∀ h4, h4 = sI h3 x0 2 ((-1 : Int32)) → 1 ≤ b ∧ 900 ≤ t ∧ ∀ a5, a5 = hN h4 → ∀ h6, h6 = al h4 (4, 900) → hS h6 x0 = (1, 5) ∧ ∀ h10, h10 = sR h6 x0 3 (some a5) → 1 ≤ (b - 1) ∧ 8 ≤ (t - 900) ∧ ∀ a13, a13 = hN h10 → ∀ h14, h14 = al h10 (1, 3) → 3 ≤ (b - 2) ∧ 969 ≤ (t - 908) ∧ wX3_init 3 969 a13 h14 (fun h18 => hS h18 x0 = (1, 5) ∧ ∀ h20, h20 = sR h18 x0 4 (some a13) → Q h20)
set_option maxHeartbeats 4000000 in
set_option maxRecDepth 100000 in
theorem gX5_init (b t : Nat) (x0 : Nat) (h : MH) (Q : MH → Prop) (hw : wX5_init b t x0 h Q) : Cm MX5_init 2 b t [.ref (x0)] h (pV Q) := by
  refine cm_of [some (.ref (x0))] rfl pnX5 (Nat.le_of_ble_eq_true rfl) rfl ?_
  unfold wX5_init at hw
  refine q_aload_nr eX5_init_0 rfl ?_
  refine q_objI mlX5_3 iOi cOi (by decide) (Nat.le_of_ble_eq_true rfl) eX5_init_1 ?_
  refine q_aload_nr eX5_init_4 rfl ?_
  refine q_iconst (v := nI 0) eX5_init_5 (by decide) ?_
  obtain ⟨hs1, hw⟩ := hw
  have hw := hw _ rfl
  refine q_putI (fwX5_9 _) rfl hs1 eX5_init_6 ?_
  refine q_aload_nr eX5_init_9 rfl ?_
  refine q_iconst (v := nI 0) eX5_init_10 (by decide) ?_
  have hw := hw _ rfl
  refine q_putI (fwX5_15 _) rfl hs1 eX5_init_11 ?_
  refine q_aload_nr eX5_init_14 rfl ?_
  refine q_iconst (v := (-1 : Int32)) eX5_init_15 (by decide) ?_
  have hw := hw _ rfl
  refine q_putI (fwX5_18 _) rfl hs1 eX5_init_16 ?_
  refine q_aload_nr eX5_init_19 rfl ?_
  refine q_sipush (v := nI 900) eX5_init_20 (by decide) ?_
  obtain ⟨hc7, hc8, hw⟩ := hw
  have hw := hw _ rfl _ rfl
  refine q_bud (b' := (b - 1) + 1) (t' := (t - 900) + 900) (by omega) (by omega) ?_
  refine q_newa (k := 4) (Or.inr (Or.inr (Or.inl rfl))) rfl aC_byte (by decide) (by decide) (by decide) eX5_init_23 ?_
  obtain ⟨hs9, hw⟩ := hw
  have hw := hw _ rfl
  refine q_putR fwX5_21 rfl hs9 eX5_init_25 ?_
  refine q_aload_nr eX5_init_28 rfl ?_
  obtain ⟨hc11, hc12, hw⟩ := hw
  have hw := hw _ rfl _ rfl
  refine q_bud (b' := (b - 2) + 1) (t' := (t - 908) + 8) (by omega) (by omega) ?_
  refine q_new (c := 3) rfl clX5_25 inX3 iNX3 eX5_init_29 ?_
  refine q_dup eX5_init_32 rfl ?_
  obtain ⟨hc15, hc16, hw⟩ := hw
  refine q_bud (b' := (b - 5) + 3) (t' := (t - 1877) + 969) (by omega) (by omega) ?_
  refine q_callIN (b := (b - 5)) (t := (t - 1877)) (gX3_init 3 969 _ _ _ hw) rfl (host := "SpareRings") (by decide +kernel) kX3_init vX3_init rfl (by decide) rfl (Nat.le_of_ble_eq_true rfl) eX5_init_33 (kV fun h18 hw => ?_)
  obtain ⟨hs19, hw⟩ := hw
  have hw := hw _ rfl
  refine q_putR fwX5_28 rfl hs19 eX5_init_36 ?_
  exact q_retV rfl eX5_init_39 ⟨rfl, hw⟩
def wX5_putOnTape_3 (Q : MH → Prop) : Nat → Nat → Int32 → Int32 → MH → Prop
  | 0, _, _, _, _ => False
  | n + 1, x0, x1, x2, h => (x2 < 0 → Q h) ∧ (¬ (x2 < 0) → hS h x0 = (1, 5) ∧ (nI 900 ≤ hI h x0 0 → Q h) ∧ (¬ (nI 900 ≤ hI h x0 0) → ∃ a2, hR h x0 3 = some a2 ∧ ∃ n5, hS h a2 = (4, n5) ∧ vp_in (hI h x0 0) n5 ∧ ∀ h7, h7 = sI h a2 (hI h x0 0).toNatClampNeg ((((x1).toUInt32 >>> ((x2).toUInt32 &&& Int32.toUInt32 31)).toInt32).toInt8.toInt32).toInt8.toInt32 → ∀ h8, h8 = sI h7 x0 0 ((hI h7 x0 0 + nI 1)) → wX5_putOnTape_3 Q n x0 x1 (x2 + (-8 : Int32)) h8))
set_option maxHeartbeats 4000000 in
set_option maxRecDepth 100000 in
theorem tX5_putOnTape_3 {Q : MH → Prop} : ∀ (n : Nat) (h : MH) (x0 : Nat) (x1 : Int32) (x2 : Int32), wX5_putOnTape_3 Q n x0 x1 x2 h → Wm MX5_putOnTape 0 0 0 3 [some (.ref (x0)), some (.int (x1)), some (.int (x2))] [] h (pV Q) := by
  intro n
  induction n with
  | zero => intro h x0 x1 x2 hw; exact hw.elim
  | succ n ih =>
    intro h x0 x1 x2 hw
    unfold wX5_putOnTape_3 at hw
    refine q_iload_n eX5_putOnTape_3 rfl ?_
    obtain ⟨hw1, hw2⟩ := hw
    refine q_if_lt (tgt := 46) eX5_putOnTape_4 (by decide) (fun c => ?_) (fun c => ?_)
    · have hw := hw1 c
      exact q_retV rfl eX5_putOnTape_46 ⟨rfl, hw⟩
    · have hw := hw2 c
      refine q_aload_nr eX5_putOnTape_7 rfl ?_
      obtain ⟨hs1, hw⟩ := hw
      refine q_getI flX5_9 rfl hs1 eX5_putOnTape_8 ?_
      refine q_sipush (v := nI 900) eX5_putOnTape_11 (by decide) ?_
      obtain ⟨hw1, hw2⟩ := hw
      refine q_icmp_ge (tgt := 46) eX5_putOnTape_14 (by decide) (fun c => ?_) (fun c => ?_)
      · have hw := hw1 c
        exact q_retV rfl eX5_putOnTape_46 ⟨rfl, hw⟩
      · have hw := hw2 c
        refine q_aload_nr eX5_putOnTape_17 rfl ?_
        obtain ⟨a2, hr3, hw⟩ := hw
        refine q_getR flX5_21 rfl hs1 hr3 eX5_putOnTape_18 ?_
        refine q_aload_nr eX5_putOnTape_21 rfl ?_
        refine q_getI flX5_9 rfl hs1 eX5_putOnTape_22 ?_
        refine q_iload_n eX5_putOnTape_25 rfl ?_
        refine q_iload_n eX5_putOnTape_26 rfl ?_
        refine q_iushr eX5_putOnTape_27 ?_
        refine q_i2b eX5_putOnTape_28 ?_
        obtain ⟨n5, hs4, hw⟩ := hw
        obtain ⟨hi6, hw⟩ := hw
        have hw := hw _ rfl
        refine q_bast hs4 hi6 eX5_putOnTape_29 ?_
        refine q_aload_nr eX5_putOnTape_30 rfl ?_
        refine q_dup eX5_putOnTape_31 rfl ?_
        refine q_getI flX5_9 rfl hs1 eX5_putOnTape_32 ?_
        refine q_iconst (v := nI 1) eX5_putOnTape_35 (by decide) ?_
        refine q_iadd eX5_putOnTape_36 ?_
        have hw := hw _ rfl
        refine q_putI (fwX5_9 _) rfl hs1 eX5_putOnTape_37 ?_
        refine x_iinc (v := (x2 + (-8 : Int32))) (ls' := [_, _, _]) eX5_putOnTape_40 rfl rfl rfl rfl ?_
        refine q_goto (tgt := 3) eX5_putOnTape_43 (by decide) ?_
        refine q_le (ls' := [some _, some _, some _]) ⟨rfl, rfl, rfl, trivial⟩ ?_
        exact ih _ _ _ _ hw
def wX5_putOnTape (x0 : Nat) (x1 : Int32) (h : MH) (Q : MH → Prop) : Prop := ∃ m9, wX5_putOnTape_3 Q m9 x0 x1 (nI 24) h
set_option maxHeartbeats 4000000 in
set_option maxRecDepth 100000 in
theorem gX5_putOnTape (x0 : Nat) (x1 : Int32) (h : MH) (Q : MH → Prop) (hw : wX5_putOnTape x0 x1 h Q) : Cm MX5_putOnTape 0 0 0 [.ref (x0), .int (x1)] h (pV Q) := by
  refine cm_of [some (.ref (x0)), some (.int (x1)), none] rfl pnX5 (Nat.le_of_ble_eq_true rfl) rfl ?_
  unfold wX5_putOnTape at hw
  refine q_bipush (v := nI 24) eX5_putOnTape_0 (by decide) ?_
  refine x_istore_n (ls' := [_, _, _]) eX5_putOnTape_2 (by decide) rfl rfl ?_
  refine q_le (ls' := [some _, some _, some _]) ⟨rfl, rfl, rfl, trivial⟩ ?_
  obtain ⟨m9, hw⟩ := hw
  exact tX5_putOnTape_3 m9 _ _ _ _ hw
def wX5_isDigit (x0 : Int32) (h : MH) (Q : Int32 → MH → Prop) : Prop := ((if x0 < nI 48 then nI 0 else (if nI 57 < x0 then nI 0 else nI 1)) = 0 ∨ (if x0 < nI 48 then nI 0 else (if nI 57 < x0 then nI 0 else nI 1)) = 1) ∧ Q ((if x0 < nI 48 then nI 0 else (if nI 57 < x0 then nI 0 else nI 1))) h
set_option maxHeartbeats 4000000 in
set_option maxRecDepth 100000 in
theorem gX5_isDigit (x0 : Int32) (h : MH) (Q : Int32 → MH → Prop) (hw : wX5_isDigit x0 h Q) : Cm MX5_isDigit 0 0 0 [.int (x0)] h (pI Q) := by
  refine cm_of [some (.int (x0))] rfl pnX5 (Nat.le_of_ble_eq_true rfl) rfl ?_
  unfold wX5_isDigit at hw
  refine q_iload_n eX5_isDigit_0 rfl ?_
  refine q_bipush (v := nI 48) eX5_isDigit_1 (by decide) ?_
  have hj3 : Wm MX5_isDigit 0 0 0 17 [some (.int (x0))] [.int ((if x0 < nI 48 then nI 0 else (if nI 57 < x0 then nI 0 else nI 1)))] h (pI Q) := by
    obtain ⟨hz2, hw⟩ := hw
    exact q_retZ rfl hz2 eX5_isDigit_17 ⟨_, rfl, hw⟩
  refine q_icmp_lt (tgt := 16) eX5_isDigit_3 (by decide) (fun c => ?_) (fun c => ?_)
  · refine q_iconst (v := nI 0) eX5_isDigit_16 (by decide) ?_
    rw [if_pos c] at hj3
    exact hj3
  · refine q_iload_n eX5_isDigit_6 rfl ?_
    refine q_bipush (v := nI 57) eX5_isDigit_7 (by decide) ?_
    have hj4 : Wm MX5_isDigit 0 0 0 17 [some (.int (x0))] [.int ((if nI 57 < x0 then nI 0 else nI 1))] h (pI Q) := by
      rw [if_neg c] at hj3
      exact hj3
    refine q_icmp_gt (tgt := 16) eX5_isDigit_9 (by decide) (fun c => ?_) (fun c => ?_)
    · refine q_iconst (v := nI 0) eX5_isDigit_16 (by decide) ?_
      rw [if_pos c] at hj4
      exact hj4
    · refine q_iconst (v := nI 1) eX5_isDigit_12 (by decide) ?_
      refine q_goto (tgt := 17) eX5_isDigit_13 (by decide) ?_
      rw [if_neg c] at hj4
      exact hj4
def wX5_isLetter (x0 : Int32) (h : MH) (Q : Int32 → MH → Prop) : Prop := ((if x0 < nI 97 then nI 0 else (if nI 122 < x0 then nI 0 else nI 1)) = 0 ∨ (if x0 < nI 97 then nI 0 else (if nI 122 < x0 then nI 0 else nI 1)) = 1) ∧ Q ((if x0 < nI 97 then nI 0 else (if nI 122 < x0 then nI 0 else nI 1))) h
set_option maxHeartbeats 4000000 in
set_option maxRecDepth 100000 in
theorem gX5_isLetter (x0 : Int32) (h : MH) (Q : Int32 → MH → Prop) (hw : wX5_isLetter x0 h Q) : Cm MX5_isLetter 0 0 0 [.int (x0)] h (pI Q) := by
  refine cm_of [some (.int (x0))] rfl pnX5 (Nat.le_of_ble_eq_true rfl) rfl ?_
  unfold wX5_isLetter at hw
  refine q_iload_n eX5_isLetter_0 rfl ?_
  refine q_bipush (v := nI 97) eX5_isLetter_1 (by decide) ?_
  have hj3 : Wm MX5_isLetter 0 0 0 17 [some (.int (x0))] [.int ((if x0 < nI 97 then nI 0 else (if nI 122 < x0 then nI 0 else nI 1)))] h (pI Q) := by
    obtain ⟨hz2, hw⟩ := hw
    exact q_retZ rfl hz2 eX5_isLetter_17 ⟨_, rfl, hw⟩
  refine q_icmp_lt (tgt := 16) eX5_isLetter_3 (by decide) (fun c => ?_) (fun c => ?_)
  · refine q_iconst (v := nI 0) eX5_isLetter_16 (by decide) ?_
    rw [if_pos c] at hj3
    exact hj3
  · refine q_iload_n eX5_isLetter_6 rfl ?_
    refine q_bipush (v := nI 122) eX5_isLetter_7 (by decide) ?_
    have hj4 : Wm MX5_isLetter 0 0 0 17 [some (.int (x0))] [.int ((if nI 122 < x0 then nI 0 else nI 1))] h (pI Q) := by
      rw [if_neg c] at hj3
      exact hj3
    refine q_icmp_gt (tgt := 16) eX5_isLetter_9 (by decide) (fun c => ?_) (fun c => ?_)
    · refine q_iconst (v := nI 0) eX5_isLetter_16 (by decide) ?_
      rw [if_pos c] at hj4
      exact hj4
    · refine q_iconst (v := nI 1) eX5_isLetter_12 (by decide) ?_
      refine q_goto (tgt := 17) eX5_isLetter_13 (by decide) ?_
      rw [if_neg c] at hj4
      exact hj4
def wX5_refuse (x0 : Nat) (x1 : Int32) (h : MH) (Q : Int32 → MH → Prop) : Prop := hS h x0 = (1, 5) ∧ (¬ (hI h x0 1 = 0) → Q (nI 0) h) ∧ (hI h x0 1 = 0 → ∀ h2, h2 = sI h x0 1 (x1) → ∀ h3, h3 = sI h2 x0 2 (hI h2 x0 7) → Q (nI 0) h3)
set_option maxHeartbeats 4000000 in
set_option maxRecDepth 100000 in
theorem gX5_refuse (x0 : Nat) (x1 : Int32) (h : MH) (Q : Int32 → MH → Prop) (hw : wX5_refuse x0 x1 h Q) : Cm MX5_refuse 0 0 0 [.ref (x0), .int (x1)] h (pI Q) := by
  refine cm_of [some (.ref (x0)), some (.int (x1))] rfl pnX5 (Nat.le_of_ble_eq_true rfl) rfl ?_
  unfold wX5_refuse at hw
  refine q_aload_nr eX5_refuse_0 rfl ?_
  obtain ⟨hs1, hw⟩ := hw
  refine q_getI flX5_15 rfl hs1 eX5_refuse_1 ?_
  obtain ⟨hw1, hw2⟩ := hw
  refine q_if_ne (tgt := 20) eX5_refuse_4 (by decide) (fun c => ?_) (fun c => ?_)
  · have hw := hw1 c
    refine q_iconst (v := nI 0) eX5_refuse_20 (by decide) ?_
    exact q_retZ rfl (by decide) eX5_refuse_21 ⟨_, rfl, hw⟩
  · have hw := hw2 c
    refine q_aload_nr eX5_refuse_7 rfl ?_
    refine q_iload_n eX5_refuse_8 rfl ?_
    have hw := hw _ rfl
    refine q_putI (fwX5_15 _) rfl hs1 eX5_refuse_9 ?_
    refine q_aload_nr eX5_refuse_12 rfl ?_
    refine q_aload_nr eX5_refuse_13 rfl ?_
    refine q_getI flX5_55 rfl hs1 eX5_refuse_14 ?_
    have hw := hw _ rfl
    refine q_putI (fwX5_18 _) rfl hs1 eX5_refuse_17 ?_
    refine q_iconst (v := nI 0) eX5_refuse_20 (by decide) ?_
    exact q_retZ rfl (by decide) eX5_refuse_21 ⟨_, rfl, hw⟩
def wX5_readDigits_76 (Q : MH → Prop) (x0 : Nat) (x1 : Int32) (h : MH) : Prop := hS h x0 = (1, 5) ∧ ((hI h x0 8 - hI h x0 7) ≤ nI 3 → ∀ h3, h3 = sI h x0 9 (x1) → Q h3) ∧ (¬ ((hI h x0 8 - hI h x0 7) ≤ nI 3) → ∀ h4, h4 = sI h x0 8 (hI h x0 7) → wX5_refuse x0 (nI 1) h4 (fun r5 h6 => Q h6))
set_option maxHeartbeats 4000000 in
set_option maxRecDepth 100000 in
theorem tX5_readDigits_76 {Q : MH → Prop} (h : MH) (x0 : Nat) (x1 : Int32) (hw : wX5_readDigits_76 Q x0 x1 h) : Wm MX5_readDigits 1 0 0 76 [some (.ref (x0)), some (.int (x1))] [] h (pV Q) := by
  unfold wX5_readDigits_76 at hw
  refine q_aload_nr eX5_readDigits_76 rfl ?_
  obtain ⟨hs2, hw⟩ := hw
  refine q_getI flX5_35 rfl hs2 eX5_readDigits_77 ?_
  refine q_aload_nr eX5_readDigits_80 rfl ?_
  refine q_getI flX5_55 rfl hs2 eX5_readDigits_81 ?_
  refine q_isub eX5_readDigits_84 ?_
  refine q_iconst (v := nI 3) eX5_readDigits_85 (by decide) ?_
  obtain ⟨hw1, hw2⟩ := hw
  refine q_icmp_le (tgt := 106) eX5_readDigits_86 (by decide) (fun c => ?_) (fun c => ?_)
  · have hw := hw1 c
    refine q_aload_nr eX5_readDigits_106 rfl ?_
    refine q_iload_n eX5_readDigits_107 rfl ?_
    have hw := hw _ rfl
    refine q_putI (fwX5_193 _) rfl hs2 eX5_readDigits_108 ?_
    exact q_retV rfl eX5_readDigits_111 ⟨rfl, hw⟩
  · have hw := hw2 c
    refine q_aload_nr eX5_readDigits_89 rfl ?_
    refine q_aload_nr eX5_readDigits_90 rfl ?_
    refine q_getI flX5_55 rfl hs2 eX5_readDigits_91 ?_
    have hw := hw _ rfl
    refine q_putI (fwX5_35 _) rfl hs2 eX5_readDigits_94 ?_
    refine q_aload_nr eX5_readDigits_97 rfl ?_
    refine q_iconst (v := nI 1) eX5_readDigits_98 (by decide) ?_
    refine q_callV (b := 0) (t := 0) (gX5_refuse _ _ _ _ hw) mlX5_105 kX5_refuse vX5_refuse rfl hs2 ⟨rfl, rfl⟩ (by decide) rfl (Nat.le_of_ble_eq_true rfl) eX5_readDigits_99 (kI fun r5 h6 hw => ?_)
    refine q_pop eX5_readDigits_102 rfl ?_
    refine q_goto (tgt := 111) eX5_readDigits_103 (by decide) ?_
    exact q_retV rfl eX5_readDigits_111 ⟨rfl, hw⟩
def wX5_readDigits_62 (Q : MH → Prop) (K2 : Nat → Int32 → MH → Prop) (x0 : Nat) (s0 : Int32) (h : MH) : Prop := hS h x0 = (1, 5) ∧ ∀ h16, h16 = sI h x0 8 ((hI h x0 8 + nI 1)) → K2 x0 s0 h16
set_option maxHeartbeats 4000000 in
set_option maxRecDepth 100000 in
theorem tX5_readDigits_62 {Q : MH → Prop} {K2 : Nat → Int32 → MH → Prop} (hK2 : ∀ (h : MH) (x0 : Nat) (x1 : Int32), K2 x0 x1 h → Wm MX5_readDigits 1 0 0 2 [some (.ref (x0)), some (.int (x1))] [] h (pV Q)) (h : MH) (x0 : Nat) (s0 : Int32) (hw : wX5_readDigits_62 Q K2 x0 s0 h) : Wm MX5_readDigits 1 0 0 62 [some (.ref (x0)), none] [.int (s0)] h (pV Q) := by
  unfold wX5_readDigits_62 at hw
  refine x_istore_n (ls' := [_, _]) eX5_readDigits_62 (by decide) rfl rfl ?_
  refine q_aload_nr eX5_readDigits_63 rfl ?_
  refine q_dup eX5_readDigits_64 rfl ?_
  obtain ⟨hs15, hw⟩ := hw
  refine q_getI flX5_35 rfl hs15 eX5_readDigits_65 ?_
  refine q_iconst (v := nI 1) eX5_readDigits_68 (by decide) ?_
  refine q_iadd eX5_readDigits_69 ?_
  have hw := hw _ rfl
  refine q_putI (fwX5_35 _) rfl hs15 eX5_readDigits_70 ?_
  refine q_goto (tgt := 2) eX5_readDigits_73 (by decide) ?_
  refine q_le (ls' := [some _, some _]) ⟨rfl, rfl, trivial⟩ ?_
  exact hK2 _ _ _ hw
def wX5_readDigits_2 (Q : MH → Prop) : Nat → Nat → Int32 → MH → Prop
  | 0, _, _, _ => False
  | n + 1, x0, x1, h => hS h x0 = (1, 5) ∧ (hI h x0 6 ≤ hI h x0 8 → wX5_readDigits_76 Q x0 x1 h) ∧ (¬ (hI h x0 6 ≤ hI h x0 8) → ∃ a7, hR h x0 3 = some a7 ∧ ∃ n10, hS h a7 = (4, n10) ∧ vp_in (hI h x0 8) n10 ∧ wX5_isDigit (hI h a7 (hI h x0 8).toNatClampNeg) h (fun r12 h13 => (r12 = 0 → wX5_readDigits_76 Q x0 x1 h13) ∧ (¬ (r12 = 0) → hS h13 x0 = (1, 5) ∧ (nI 3 ≤ (hI h13 x0 8 - hI h13 x0 7) → wX5_readDigits_62 Q (wX5_readDigits_2 Q n) x0 x1 h13) ∧ (¬ (nI 3 ≤ (hI h13 x0 8 - hI h13 x0 7)) → ∃ a17, hR h13 x0 3 = some a17 ∧ ∃ n20, hS h13 a17 = (4, n20) ∧ vp_in (hI h13 x0 8) n20 ∧ wX5_readDigits_62 Q (wX5_readDigits_2 Q n) x0 (((nI 10 * x1) + hI h13 a17 (hI h13 x0 8).toNatClampNeg) - nI 48) h13))))
set_option maxHeartbeats 4000000 in
set_option maxRecDepth 100000 in
theorem tX5_readDigits_2 {Q : MH → Prop} : ∀ (n : Nat) (h : MH) (x0 : Nat) (x1 : Int32), wX5_readDigits_2 Q n x0 x1 h → Wm MX5_readDigits 1 0 0 2 [some (.ref (x0)), some (.int (x1))] [] h (pV Q) := by
  intro n
  induction n with
  | zero => intro h x0 x1 hw; exact hw.elim
  | succ n ih =>
    intro h x0 x1 hw
    unfold wX5_readDigits_2 at hw
    refine q_aload_nr eX5_readDigits_2 rfl ?_
    obtain ⟨hs1, hw⟩ := hw
    refine q_getI flX5_35 rfl hs1 eX5_readDigits_3 ?_
    refine q_aload_nr eX5_readDigits_6 rfl ?_
    refine q_getI flX5_32 rfl hs1 eX5_readDigits_7 ?_
    obtain ⟨hw1, hw2⟩ := hw
    refine q_icmp_ge (tgt := 76) eX5_readDigits_10 (by decide) (fun c => ?_) (fun c => ?_)
    · have hw := hw1 c
      refine q_le (ls' := [some _, some _]) ⟨rfl, rfl, trivial⟩ ?_
      exact tX5_readDigits_76 _ _ _ hw
    · have hw := hw2 c
      refine q_aload_nr eX5_readDigits_13 rfl ?_
      obtain ⟨a7, hr8, hw⟩ := hw
      refine q_getR flX5_21 rfl hs1 hr8 eX5_readDigits_14 ?_
      refine q_aload_nr eX5_readDigits_17 rfl ?_
      refine q_getI flX5_35 rfl hs1 eX5_readDigits_18 ?_
      obtain ⟨n10, hs9, hw⟩ := hw
      obtain ⟨hi11, hw⟩ := hw
      refine q_bald hs9 hi11 eX5_readDigits_21 ?_
      refine q_callS (b := 0) (t := 0) (gX5_isDigit _ _ _ hw) mlX5_224 kX5_isDigit sX5_isDigit rfl (by decide) rfl (Nat.le_of_ble_eq_true rfl) eX5_readDigits_22 (kI fun r12 h13 hw => ?_)
      obtain ⟨hw1, hw2⟩ := hw
      refine q_if_eq (tgt := 76) eX5_readDigits_25 (by decide) (fun c => ?_) (fun c => ?_)
      · have hw := hw1 c
        refine q_le (ls' := [some _, some _]) ⟨rfl, rfl, trivial⟩ ?_
        exact tX5_readDigits_76 _ _ _ hw
      · have hw := hw2 c
        refine q_aload_nr eX5_readDigits_28 rfl ?_
        obtain ⟨hs14, hw⟩ := hw
        refine q_getI flX5_35 rfl hs14 eX5_readDigits_29 ?_
        refine q_aload_nr eX5_readDigits_32 rfl ?_
        refine q_getI flX5_55 rfl hs14 eX5_readDigits_33 ?_
        refine q_isub eX5_readDigits_36 ?_
        refine q_iconst (v := nI 3) eX5_readDigits_37 (by decide) ?_
        obtain ⟨hw1, hw2⟩ := hw
        refine q_icmp_ge (tgt := 61) eX5_readDigits_38 (by decide) (fun c => ?_) (fun c => ?_)
        · have hw := hw1 c
          refine q_iload_n eX5_readDigits_61 rfl ?_
          refine q_le (ls' := [some _, none]) ⟨rfl, trivial⟩ ?_
          exact tX5_readDigits_62 ih _ _ _ hw
        · have hw := hw2 c
          refine q_bipush (v := nI 10) eX5_readDigits_41 (by decide) ?_
          refine q_iload_n eX5_readDigits_43 rfl ?_
          refine q_imul eX5_readDigits_44 ?_
          refine q_aload_nr eX5_readDigits_45 rfl ?_
          obtain ⟨a17, hr18, hw⟩ := hw
          refine q_getR flX5_21 rfl hs14 hr18 eX5_readDigits_46 ?_
          refine q_aload_nr eX5_readDigits_49 rfl ?_
          refine q_getI flX5_35 rfl hs14 eX5_readDigits_50 ?_
          obtain ⟨n20, hs19, hw⟩ := hw
          obtain ⟨hi21, hw⟩ := hw
          refine q_bald hs19 hi21 eX5_readDigits_53 ?_
          refine q_iadd eX5_readDigits_54 ?_
          refine q_bipush (v := nI 48) eX5_readDigits_55 (by decide) ?_
          refine q_isub eX5_readDigits_57 ?_
          refine q_goto (tgt := 62) eX5_readDigits_58 (by decide) ?_
          refine q_le (ls' := [some _, none]) ⟨rfl, trivial⟩ ?_
          exact tX5_readDigits_62 ih _ _ _ hw
def wX5_readDigits (x0 : Nat) (h : MH) (Q : MH → Prop) : Prop := ∃ m22, wX5_readDigits_2 Q m22 x0 (nI 0) h
set_option maxHeartbeats 4000000 in
set_option maxRecDepth 100000 in
theorem gX5_readDigits (x0 : Nat) (h : MH) (Q : MH → Prop) (hw : wX5_readDigits x0 h Q) : Cm MX5_readDigits 1 0 0 [.ref (x0)] h (pV Q) := by
  refine cm_of [some (.ref (x0)), none] rfl pnX5 (Nat.le_of_ble_eq_true rfl) rfl ?_
  unfold wX5_readDigits at hw
  refine q_iconst (v := nI 0) eX5_readDigits_0 (by decide) ?_
  refine x_istore_n (ls' := [_, _]) eX5_readDigits_1 (by decide) rfl rfl ?_
  refine q_le (ls' := [some _, some _]) ⟨rfl, rfl, trivial⟩ ?_
  obtain ⟨m22, hw⟩ := hw
  exact tX5_readDigits_2 m22 _ _ _ hw
def wX5_advance_174 (Q : MH → Prop) (x0 : Nat) (h : MH) : Prop := hS h x0 = (1, 5) ∧ wX5_refuse x0 (nI 1) h (fun r15 h16 => Q h16)
set_option maxHeartbeats 4000000 in
set_option maxRecDepth 100000 in
theorem tX5_advance_174 {Q : MH → Prop} (h : MH) (x0 : Nat) (hw : wX5_advance_174 Q x0 h) : Wm MX5_advance 4 0 0 174 [some (.ref (x0)), none] [] h (pV Q) := by
  unfold wX5_advance_174 at hw
  refine q_aload_nr eX5_advance_174 rfl ?_
  refine q_iconst (v := nI 1) eX5_advance_175 (by decide) ?_
  obtain ⟨hs14, hw⟩ := hw
  refine q_callV (b := 0) (t := 0) (gX5_refuse _ _ _ _ hw) mlX5_105 kX5_refuse vX5_refuse rfl hs14 ⟨rfl, rfl⟩ (by decide) rfl (Nat.le_of_ble_eq_true rfl) eX5_advance_176 (kI fun r15 h16 hw => ?_)
  refine q_pop eX5_advance_179 rfl ?_
  exact q_retV rfl eX5_advance_180 ⟨rfl, hw⟩
def wX5_advance_94 (Q : MH → Prop) : Nat → Nat → MH → Prop
  | 0, _, _ => False
  | n + 1, x0, h => hS h x0 = (1, 5) ∧ (hI h x0 6 ≤ hI h x0 8 → Q h) ∧ (¬ (hI h x0 6 ≤ hI h x0 8) → ∃ a24, hR h x0 3 = some a24 ∧ ∃ n27, hS h a24 = (4, n27) ∧ vp_in (hI h x0 8) n27 ∧ wX5_isLetter (hI h a24 (hI h x0 8).toNatClampNeg) h (fun r29 h30 => (r29 = 0 → Q h30) ∧ (¬ (r29 = 0) → hS h30 x0 = (1, 5) ∧ ∀ h32, h32 = sI h30 x0 8 ((hI h30 x0 8 + nI 1)) → wX5_advance_94 Q n x0 h32)))
set_option maxHeartbeats 4000000 in
set_option maxRecDepth 100000 in
theorem tX5_advance_94 {Q : MH → Prop} : ∀ (n : Nat) (h : MH) (x0 : Nat), wX5_advance_94 Q n x0 h → Wm MX5_advance 4 0 0 94 [some (.ref (x0)), none] [] h (pV Q) := by
  intro n
  induction n with
  | zero => intro h x0 hw; exact hw.elim
  | succ n ih =>
    intro h x0 hw
    unfold wX5_advance_94 at hw
    refine q_aload_nr eX5_advance_94 rfl ?_
    obtain ⟨hs23, hw⟩ := hw
    refine q_getI flX5_35 rfl hs23 eX5_advance_95 ?_
    refine q_aload_nr eX5_advance_98 rfl ?_
    refine q_getI flX5_32 rfl hs23 eX5_advance_99 ?_
    obtain ⟨hw1, hw2⟩ := hw
    refine q_icmp_ge (tgt := 180) eX5_advance_102 (by decide) (fun c => ?_) (fun c => ?_)
    · have hw := hw1 c
      exact q_retV rfl eX5_advance_180 ⟨rfl, hw⟩
    · have hw := hw2 c
      refine q_aload_nr eX5_advance_105 rfl ?_
      obtain ⟨a24, hr25, hw⟩ := hw
      refine q_getR flX5_21 rfl hs23 hr25 eX5_advance_106 ?_
      refine q_aload_nr eX5_advance_109 rfl ?_
      refine q_getI flX5_35 rfl hs23 eX5_advance_110 ?_
      obtain ⟨n27, hs26, hw⟩ := hw
      obtain ⟨hi28, hw⟩ := hw
      refine q_bald hs26 hi28 eX5_advance_113 ?_
      refine q_callS (b := 0) (t := 0) (gX5_isLetter _ _ _ hw) mlX5_221 kX5_isLetter sX5_isLetter rfl (by decide) rfl (Nat.le_of_ble_eq_true rfl) eX5_advance_114 (kI fun r29 h30 hw => ?_)
      obtain ⟨hw1, hw2⟩ := hw
      refine q_if_eq (tgt := 180) eX5_advance_117 (by decide) (fun c => ?_) (fun c => ?_)
      · have hw := hw1 c
        exact q_retV rfl eX5_advance_180 ⟨rfl, hw⟩
      · have hw := hw2 c
        refine q_aload_nr eX5_advance_120 rfl ?_
        refine q_dup eX5_advance_121 rfl ?_
        obtain ⟨hs31, hw⟩ := hw
        refine q_getI flX5_35 rfl hs31 eX5_advance_122 ?_
        refine q_iconst (v := nI 1) eX5_advance_125 (by decide) ?_
        refine q_iadd eX5_advance_126 ?_
        have hw := hw _ rfl
        refine q_putI (fwX5_35 _) rfl hs31 eX5_advance_127 ?_
        refine q_goto (tgt := 94) eX5_advance_130 (by decide) ?_
        refine q_le (ls' := [some _, none]) ⟨rfl, trivial⟩ ?_
        exact ih _ _ hw
def wX5_advance_52 (Q : MH → Prop) (x0 : Nat) (h : MH) : Prop := hS h x0 = (1, 5) ∧ ∀ h3, h3 = sI h x0 7 (hI h x0 8) → ∀ h4, h4 = sI h3 x0 9 ((-1 : Int32)) → (hI h4 x0 7 < hI h4 x0 6 → ∃ a5, hR h4 x0 3 = some a5 ∧ ∃ n8, hS h4 a5 = (4, n8) ∧ vp_in (hI h4 x0 7) n8 ∧ wX5_isLetter (hI h4 a5 (hI h4 x0 7).toNatClampNeg) h4 (fun r10 h11 => (r10 = 0 → wX5_isDigit (hI h4 a5 (hI h4 x0 7).toNatClampNeg) h11 (fun r12 h13 => (r12 = 0 → (hI h4 a5 (hI h4 x0 7).toNatClampNeg ≤ 0 → wX5_advance_174 Q x0 h13) ∧ (¬ (hI h4 a5 (hI h4 x0 7).toNatClampNeg ≤ 0) → 0 < 33 ∧ (strIx 0 (((hI h4 a5 (hI h4 x0 7).toNatClampNeg).toUInt32 % 65536).toInt32) < 0 → wX5_advance_174 Q x0 h13) ∧ (¬ (strIx 0 (((hI h4 a5 (hI h4 x0 7).toNatClampNeg).toUInt32 % 65536).toInt32) < 0) → hS h13 x0 = (1, 5) ∧ ∀ h19, h19 = sI h13 x0 8 ((hI h13 x0 8 + nI 1)) → Q h19))) ∧ (¬ (r12 = 0) → hS h13 x0 = (1, 5) ∧ wX5_readDigits x0 h13 (fun h22 => Q h22)))) ∧ (¬ (r10 = 0) → ∃ m33, wX5_advance_94 Q m33 x0 h11))) ∧ (¬ (hI h4 x0 7 < hI h4 x0 6) → Q h4)
set_option maxHeartbeats 4000000 in
set_option maxRecDepth 100000 in
theorem tX5_advance_52 {Q : MH → Prop} (h : MH) (x0 : Nat) (hw : wX5_advance_52 Q x0 h) : Wm MX5_advance 4 0 0 52 [some (.ref (x0)), none] [] h (pV Q) := by
  unfold wX5_advance_52 at hw
  refine q_aload_nr eX5_advance_52 rfl ?_
  refine q_aload_nr eX5_advance_53 rfl ?_
  obtain ⟨hs2, hw⟩ := hw
  refine q_getI flX5_35 rfl hs2 eX5_advance_54 ?_
  have hw := hw _ rfl
  refine q_putI (fwX5_55 _) rfl hs2 eX5_advance_57 ?_
  refine q_aload_nr eX5_advance_60 rfl ?_
  refine q_iconst (v := (-1 : Int32)) eX5_advance_61 (by decide) ?_
  have hw := hw _ rfl
  refine q_putI (fwX5_193 _) rfl hs2 eX5_advance_62 ?_
  refine q_aload_nr eX5_advance_65 rfl ?_
  refine q_getI flX5_55 rfl hs2 eX5_advance_66 ?_
  refine q_aload_nr eX5_advance_69 rfl ?_
  refine q_getI flX5_32 rfl hs2 eX5_advance_70 ?_
  obtain ⟨hw1, hw2⟩ := hw
  refine q_icmp_lt (tgt := 77) eX5_advance_73 (by decide) (fun c => ?_) (fun c => ?_)
  · have hw := hw1 c
    refine q_aload_nr eX5_advance_77 rfl ?_
    obtain ⟨a5, hr6, hw⟩ := hw
    refine q_getR flX5_21 rfl hs2 hr6 eX5_advance_78 ?_
    refine q_aload_nr eX5_advance_81 rfl ?_
    refine q_getI flX5_55 rfl hs2 eX5_advance_82 ?_
    obtain ⟨n8, hs7, hw⟩ := hw
    obtain ⟨hi9, hw⟩ := hw
    refine q_bald hs7 hi9 eX5_advance_85 ?_
    refine x_istore_n (ls' := [_, _]) eX5_advance_86 (by decide) rfl rfl ?_
    refine q_iload_n eX5_advance_87 rfl ?_
    refine q_callS (b := 0) (t := 0) (gX5_isLetter _ _ _ hw) mlX5_221 kX5_isLetter sX5_isLetter rfl (by decide) rfl (Nat.le_of_ble_eq_true rfl) eX5_advance_88 (kI fun r10 h11 hw => ?_)
    obtain ⟨hw1, hw2⟩ := hw
    refine q_if_eq (tgt := 133) eX5_advance_91 (by decide) (fun c => ?_) (fun c => ?_)
    · have hw := hw1 c
      refine q_iload_n eX5_advance_133 rfl ?_
      refine q_callS (b := 0) (t := 0) (gX5_isDigit _ _ _ hw) mlX5_224 kX5_isDigit sX5_isDigit rfl (by decide) rfl (Nat.le_of_ble_eq_true rfl) eX5_advance_134 (kI fun r12 h13 hw => ?_)
      obtain ⟨hw1, hw2⟩ := hw
      refine q_if_eq (tgt := 147) eX5_advance_137 (by decide) (fun c => ?_) (fun c => ?_)
      · have hw := hw1 c
        refine q_iload_n eX5_advance_147 rfl ?_
        obtain ⟨hw1, hw2⟩ := hw
        refine q_if_le (tgt := 174) eX5_advance_148 (by decide) (fun c => ?_) (fun c => ?_)
        · have hw := hw1 c
          refine q_le (ls' := [some _, none]) ⟨rfl, trivial⟩ ?_
          exact tX5_advance_174 _ _ hw
        · have hw := hw2 c
          refine q_ldcS (x := 0) (tx := ";:+-*()[]=<>") (by decide +kernel) (by decide) eX5_advance_151 ?_
          refine q_iload_n eX5_advance_153 rfl ?_
          refine q_i2c eX5_advance_154 ?_
          obtain ⟨hx17, hw⟩ := hw
          refine q_callVS (b := 0) (t := 0) hx17 (cS_indexOf hx17) mlX5_232 kJ0_indexOf_0f7a4 vJ0_indexOf_0f7a4 rfl rfl (by decide) rfl (Nat.le_of_ble_eq_true rfl) eX5_advance_155 (kI fun r h2 hq => ?_)
          obtain ⟨rfl, rfl⟩ := hq
          obtain ⟨hw1, hw2⟩ := hw
          refine q_if_lt (tgt := 174) eX5_advance_158 (by decide) (fun c => ?_) (fun c => ?_)
          · have hw := hw1 c
            refine q_le (ls' := [some _, none]) ⟨rfl, trivial⟩ ?_
            exact tX5_advance_174 _ _ hw
          · have hw := hw2 c
            refine q_aload_nr eX5_advance_161 rfl ?_
            refine q_dup eX5_advance_162 rfl ?_
            obtain ⟨hs18, hw⟩ := hw
            refine q_getI flX5_35 rfl hs18 eX5_advance_163 ?_
            refine q_iconst (v := nI 1) eX5_advance_166 (by decide) ?_
            refine q_iadd eX5_advance_167 ?_
            have hw := hw _ rfl
            refine q_putI (fwX5_35 _) rfl hs18 eX5_advance_168 ?_
            refine q_goto (tgt := 180) eX5_advance_171 (by decide) ?_
            exact q_retV rfl eX5_advance_180 ⟨rfl, hw⟩
      · have hw := hw2 c
        refine q_aload_nr eX5_advance_140 rfl ?_
        obtain ⟨hs20, hw⟩ := hw
        refine q_callV (b := 0) (t := 0) (gX5_readDigits _ _ _ hw) mlX5_227 kX5_readDigits vX5_readDigits rfl hs20 ⟨rfl, rfl⟩ (by decide) rfl (Nat.le_of_ble_eq_true rfl) eX5_advance_141 (kV fun h22 hw => ?_)
        refine q_goto (tgt := 180) eX5_advance_144 (by decide) ?_
        exact q_retV rfl eX5_advance_180 ⟨rfl, hw⟩
    · have hw := hw2 c
      refine q_le (ls' := [some _, none]) ⟨rfl, trivial⟩ ?_
      obtain ⟨m33, hw⟩ := hw
      exact tX5_advance_94 m33 _ _ hw
  · have hw := hw2 c
    exact q_retV rfl eX5_advance_76 ⟨rfl, hw⟩
def wX5_advance_39 (Q : MH → Prop) (K0 : Nat → MH → Prop) (x0 : Nat) (h : MH) : Prop := hS h x0 = (1, 5) ∧ ∀ h40, h40 = sI h x0 8 ((hI h x0 8 + nI 1)) → K0 x0 h40
set_option maxHeartbeats 4000000 in
set_option maxRecDepth 100000 in
theorem tX5_advance_39 {Q : MH → Prop} {K0 : Nat → MH → Prop} (hK0 : ∀ (h : MH) (x0 : Nat), K0 x0 h → Wm MX5_advance 4 0 0 0 [some (.ref (x0)), none] [] h (pV Q)) (h : MH) (x0 : Nat) (hw : wX5_advance_39 Q K0 x0 h) : Wm MX5_advance 4 0 0 39 [some (.ref (x0)), none] [] h (pV Q) := by
  unfold wX5_advance_39 at hw
  refine q_aload_nr eX5_advance_39 rfl ?_
  refine q_dup eX5_advance_40 rfl ?_
  obtain ⟨hs39, hw⟩ := hw
  refine q_getI flX5_35 rfl hs39 eX5_advance_41 ?_
  refine q_iconst (v := nI 1) eX5_advance_44 (by decide) ?_
  refine q_iadd eX5_advance_45 ?_
  have hw := hw _ rfl
  refine q_putI (fwX5_35 _) rfl hs39 eX5_advance_46 ?_
  refine q_goto (tgt := 0) eX5_advance_49 (by decide) ?_
  refine q_le (ls' := [some _, none]) ⟨rfl, trivial⟩ ?_
  exact hK0 _ _ hw
def wX5_advance_0 (Q : MH → Prop) : Nat → Nat → MH → Prop
  | 0, _, _ => False
  | n + 1, x0, h => hS h x0 = (1, 5) ∧ (hI h x0 6 ≤ hI h x0 8 → wX5_advance_52 Q x0 h) ∧ (¬ (hI h x0 6 ≤ hI h x0 8) → ∃ a34, hR h x0 3 = some a34 ∧ ∃ n37, hS h a34 = (4, n37) ∧ vp_in (hI h x0 8) n37 ∧ (hI h a34 (hI h x0 8).toNatClampNeg = nI 10 → wX5_advance_39 Q (wX5_advance_0 Q n) x0 h) ∧ (¬ (hI h a34 (hI h x0 8).toNatClampNeg = nI 10) → vp_in (hI h x0 8) n37 ∧ (¬ (hI h a34 (hI h x0 8).toNatClampNeg = nI 32) → wX5_advance_52 Q x0 h) ∧ (hI h a34 (hI h x0 8).toNatClampNeg = nI 32 → wX5_advance_39 Q (wX5_advance_0 Q n) x0 h)))
set_option maxHeartbeats 4000000 in
set_option maxRecDepth 100000 in
theorem tX5_advance_0 {Q : MH → Prop} : ∀ (n : Nat) (h : MH) (x0 : Nat), wX5_advance_0 Q n x0 h → Wm MX5_advance 4 0 0 0 [some (.ref (x0)), none] [] h (pV Q) := by
  intro n
  induction n with
  | zero => intro h x0 hw; exact hw.elim
  | succ n ih =>
    intro h x0 hw
    unfold wX5_advance_0 at hw
    refine q_aload_nr eX5_advance_0 rfl ?_
    obtain ⟨hs1, hw⟩ := hw
    refine q_getI flX5_35 rfl hs1 eX5_advance_1 ?_
    refine q_aload_nr eX5_advance_4 rfl ?_
    refine q_getI flX5_32 rfl hs1 eX5_advance_5 ?_
    obtain ⟨hw1, hw2⟩ := hw
    refine q_icmp_ge (tgt := 52) eX5_advance_8 (by decide) (fun c => ?_) (fun c => ?_)
    · have hw := hw1 c
      refine q_le (ls' := [some _, none]) ⟨rfl, trivial⟩ ?_
      exact tX5_advance_52 _ _ hw
    · have hw := hw2 c
      refine q_aload_nr eX5_advance_11 rfl ?_
      obtain ⟨a34, hr35, hw⟩ := hw
      refine q_getR flX5_21 rfl hs1 hr35 eX5_advance_12 ?_
      refine q_aload_nr eX5_advance_15 rfl ?_
      refine q_getI flX5_35 rfl hs1 eX5_advance_16 ?_
      obtain ⟨n37, hs36, hw⟩ := hw
      obtain ⟨hi38, hw⟩ := hw
      refine q_bald hs36 hi38 eX5_advance_19 ?_
      refine q_bipush (v := nI 10) eX5_advance_20 (by decide) ?_
      obtain ⟨hw1, hw2⟩ := hw
      refine q_icmp_eq (tgt := 39) eX5_advance_22 (by decide) (fun c => ?_) (fun c => ?_)
      · have hw := hw1 c
        refine q_le (ls' := [some _, none]) ⟨rfl, trivial⟩ ?_
        exact tX5_advance_39 ih _ _ hw
      · have hw := hw2 c
        refine q_aload_nr eX5_advance_25 rfl ?_
        refine q_getR flX5_21 rfl hs1 hr35 eX5_advance_26 ?_
        refine q_aload_nr eX5_advance_29 rfl ?_
        refine q_getI flX5_35 rfl hs1 eX5_advance_30 ?_
        obtain ⟨hi41, hw⟩ := hw
        refine q_bald hs36 hi41 eX5_advance_33 ?_
        refine q_bipush (v := nI 32) eX5_advance_34 (by decide) ?_
        obtain ⟨hw1, hw2⟩ := hw
        refine q_icmp_ne (tgt := 52) eX5_advance_36 (by decide) (fun c => ?_) (fun c => ?_)
        · have hw := hw1 c
          refine q_le (ls' := [some _, none]) ⟨rfl, trivial⟩ ?_
          exact tX5_advance_52 _ _ hw
        · have hw := hw2 c
          refine q_le (ls' := [some _, none]) ⟨rfl, trivial⟩ ?_
          exact tX5_advance_39 ih _ _ hw
def wX5_advance (x0 : Nat) (h : MH) (Q : MH → Prop) : Prop := ∃ m42, wX5_advance_0 Q m42 x0 h
set_option maxHeartbeats 4000000 in
set_option maxRecDepth 100000 in
theorem gX5_advance (x0 : Nat) (h : MH) (Q : MH → Prop) (hw : wX5_advance x0 h Q) : Cm MX5_advance 4 0 0 [.ref (x0)] h (pV Q) := by
  refine cm_of [some (.ref (x0)), none] rfl pnX5 (Nat.le_of_ble_eq_true rfl) rfl ?_
  unfold wX5_advance at hw
  refine q_le (ls' := [some _, none]) ⟨rfl, trivial⟩ ?_
  obtain ⟨m42, hw⟩ := hw
  exact tX5_advance_0 m42 _ _ hw
def wX5_isAt_23 (Q : Int32 → MH → Prop) : Nat → Nat → Nat → Int32 → MH → Prop
  | 0, _, _, _, _ => False
  | n + 1, x0, x1, x2, h => hS h x0 = (1, 5) ∧ (hI h x0 8 ≤ x2 → Q (nI 1) h) ∧ (¬ (hI h x0 8 ≤ x2) → ∃ a4, hR h x0 3 = some a4 ∧ ∃ n7, hS h a4 = (4, n7) ∧ vp_in (x2) n7 ∧ x1 < 33 ∧ vp_in ((x2 - hI h x0 7)) (strLen.getD x1 0) ∧ (hI h a4 (x2).toNatClampNeg = strCh x1 ((x2 - hI h x0 7)).toNatClampNeg → wX5_isAt_23 Q n x0 x1 (x2 + nI 1) h) ∧ (¬ (hI h a4 (x2).toNatClampNeg = strCh x1 ((x2 - hI h x0 7)).toNatClampNeg) → Q (nI 0) h))
set_option maxHeartbeats 4000000 in
set_option maxRecDepth 100000 in
theorem tX5_isAt_23 {Q : Int32 → MH → Prop} : ∀ (n : Nat) (h : MH) (x0 : Nat) (x1 : Nat) (x2 : Int32), wX5_isAt_23 Q n x0 x1 x2 h → Wm MX5_isAt 4 0 0 23 [some (.ref (x0)), some (.ref (x1)), some (.int (x2))] [] h (pI Q) := by
  intro n
  induction n with
  | zero => intro h x0 x1 x2 hw; exact hw.elim
  | succ n ih =>
    intro h x0 x1 x2 hw
    unfold wX5_isAt_23 at hw
    refine q_iload_n eX5_isAt_23 rfl ?_
    refine q_aload_nr eX5_isAt_24 rfl ?_
    obtain ⟨hs3, hw⟩ := hw
    refine q_getI flX5_35 rfl hs3 eX5_isAt_25 ?_
    obtain ⟨hw1, hw2⟩ := hw
    refine q_icmp_ge (tgt := 58) eX5_isAt_28 (by decide) (fun c => ?_) (fun c => ?_)
    · have hw := hw1 c
      refine q_iconst (v := nI 1) eX5_isAt_58 (by decide) ?_
      exact q_retZ rfl (by decide) eX5_isAt_59 ⟨_, rfl, hw⟩
    · have hw := hw2 c
      refine q_aload_nr eX5_isAt_31 rfl ?_
      obtain ⟨a4, hr5, hw⟩ := hw
      refine q_getR flX5_21 rfl hs3 hr5 eX5_isAt_32 ?_
      refine q_iload_n eX5_isAt_35 rfl ?_
      obtain ⟨n7, hs6, hw⟩ := hw
      obtain ⟨hi8, hw⟩ := hw
      refine q_bald hs6 hi8 eX5_isAt_36 ?_
      refine q_aload_nr eX5_isAt_37 rfl ?_
      refine q_iload_n eX5_isAt_38 rfl ?_
      refine q_aload_nr eX5_isAt_39 rfl ?_
      refine q_getI flX5_55 rfl hs3 eX5_isAt_40 ?_
      refine q_isub eX5_isAt_43 ?_
      obtain ⟨hx9, hw⟩ := hw
      obtain ⟨hi10, hw⟩ := hw
      refine q_callVS (b := 0) (t := 0) hx9 (cS_charAt hx9 hi10) mlX5_217 kJ0_charAt_5068e vJ0_charAt_5068e rfl rfl (by decide) rfl (Nat.le_of_ble_eq_true rfl) eX5_isAt_44 (kI fun r h2 hq => ?_)
      obtain ⟨rfl, rfl⟩ := hq
      obtain ⟨hw1, hw2⟩ := hw
      refine q_icmp_eq (tgt := 52) eX5_isAt_47 (by decide) (fun c => ?_) (fun c => ?_)
      · have hw := hw1 c
        refine x_iinc (v := (x2 + nI 1)) (ls' := [_, _, _]) eX5_isAt_52 rfl rfl rfl rfl ?_
        refine q_goto (tgt := 23) eX5_isAt_55 (by decide) ?_
        refine q_le (ls' := [some _, some _, some _]) ⟨rfl, rfl, rfl, trivial⟩ ?_
        exact ih _ _ _ _ hw
      · have hw := hw2 c
        refine q_iconst (v := nI 0) eX5_isAt_50 (by decide) ?_
        exact q_retZ rfl (by decide) eX5_isAt_51 ⟨_, rfl, hw⟩
def wX5_isAt (x0 : Nat) (x1 : Nat) (h : MH) (Q : Int32 → MH → Prop) : Prop := hS h x0 = (1, 5) ∧ x1 < 33 ∧ ((hI h x0 8 - hI h x0 7) = nI (strLen.getD x1 0) → ∃ m11, wX5_isAt_23 Q m11 x0 x1 (hI h x0 7) h) ∧ (¬ ((hI h x0 8 - hI h x0 7) = nI (strLen.getD x1 0)) → Q (nI 0) h)
set_option maxHeartbeats 4000000 in
set_option maxRecDepth 100000 in
theorem gX5_isAt (x0 : Nat) (x1 : Nat) (h : MH) (Q : Int32 → MH → Prop) (hw : wX5_isAt x0 x1 h Q) : Cm MX5_isAt 4 0 0 [.ref (x0), .ref (x1)] h (pI Q) := by
  refine cm_of [some (.ref (x0)), some (.ref (x1)), none] rfl pnX5 (Nat.le_of_ble_eq_true rfl) rfl ?_
  unfold wX5_isAt at hw
  refine q_aload_nr eX5_isAt_0 rfl ?_
  obtain ⟨hs1, hw⟩ := hw
  refine q_getI flX5_35 rfl hs1 eX5_isAt_1 ?_
  refine q_aload_nr eX5_isAt_4 rfl ?_
  refine q_getI flX5_55 rfl hs1 eX5_isAt_5 ?_
  refine q_isub eX5_isAt_8 ?_
  refine q_aload_nr eX5_isAt_9 rfl ?_
  obtain ⟨hx2, hw⟩ := hw
  refine q_callVS (b := 0) (t := 0) hx2 (cS_length hx2) mlX5_212 kJ0_length_8abf5 vJ0_length_8abf5 rfl rfl (by decide) rfl (Nat.le_of_ble_eq_true rfl) eX5_isAt_10 (kI fun r h2 hq => ?_)
  obtain ⟨rfl, rfl⟩ := hq
  obtain ⟨hw1, hw2⟩ := hw
  refine q_icmp_eq (tgt := 18) eX5_isAt_13 (by decide) (fun c => ?_) (fun c => ?_)
  · have hw := hw1 c
    refine q_aload_nr eX5_isAt_18 rfl ?_
    refine q_getI flX5_55 rfl hs1 eX5_isAt_19 ?_
    refine x_istore_n (ls' := [_, _, _]) eX5_isAt_22 (by decide) rfl rfl ?_
    refine q_le (ls' := [some _, some _, some _]) ⟨rfl, rfl, rfl, trivial⟩ ?_
    obtain ⟨m11, hw⟩ := hw
    exact tX5_isAt_23 m11 _ _ _ _ hw
  · have hw := hw2 c
    refine q_iconst (v := nI 0) eX5_isAt_16 (by decide) ?_
    exact q_retZ rfl (by decide) eX5_isAt_17 ⟨_, rfl, hw⟩
def wX5_pass (x0 : Nat) (x1 : Nat) (h : MH) (Q : Int32 → MH → Prop) : Prop := hS h x0 = (1, 5) ∧ wX5_isAt x0 x1 h (fun r2 h3 => (¬ (r2 = 0) → hS h3 x0 = (1, 5) ∧ wX5_advance x0 h3 (fun h6 => Q (nI 1) h6)) ∧ (r2 = 0 → hS h3 x0 = (1, 5) ∧ wX5_refuse x0 (nI 2) h3 (fun r8 h9 => (r8 = 0 ∨ r8 = 1) ∧ Q (r8) h9)))
set_option maxHeartbeats 4000000 in
set_option maxRecDepth 100000 in
theorem gX5_pass (x0 : Nat) (x1 : Nat) (h : MH) (Q : Int32 → MH → Prop) (hw : wX5_pass x0 x1 h Q) : Cm MX5_pass 5 0 0 [.ref (x0), .ref (x1)] h (pI Q) := by
  refine cm_of [some (.ref (x0)), some (.ref (x1))] rfl pnX5 (Nat.le_of_ble_eq_true rfl) rfl ?_
  unfold wX5_pass at hw
  refine q_aload_nr eX5_pass_0 rfl ?_
  refine q_aload_nr eX5_pass_1 rfl ?_
  obtain ⟨hs1, hw⟩ := hw
  refine q_callV (b := 0) (t := 0) (gX5_isAt _ _ _ _ hw) mlX5_91 kX5_isAt vX5_isAt rfl hs1 ⟨rfl, rfl⟩ (by decide) rfl (Nat.le_of_ble_eq_true rfl) eX5_pass_2 (kI fun r2 h3 hw => ?_)
  obtain ⟨hw1, hw2⟩ := hw
  refine q_if_ne (tgt := 14) eX5_pass_5 (by decide) (fun c => ?_) (fun c => ?_)
  · have hw := hw1 c
    refine q_aload_nr eX5_pass_14 rfl ?_
    obtain ⟨hs4, hw⟩ := hw
    refine q_callV (b := 0) (t := 0) (gX5_advance _ _ _ hw) mlX5_48 kX5_advance vX5_advance rfl hs4 ⟨rfl, rfl⟩ (by decide) rfl (Nat.le_of_ble_eq_true rfl) eX5_pass_15 (kV fun h6 hw => ?_)
    refine q_iconst (v := nI 1) eX5_pass_18 (by decide) ?_
    exact q_retZ rfl (by decide) eX5_pass_19 ⟨_, rfl, hw⟩
  · have hw := hw2 c
    refine q_aload_nr eX5_pass_8 rfl ?_
    refine q_iconst (v := nI 2) eX5_pass_9 (by decide) ?_
    obtain ⟨hs7, hw⟩ := hw
    refine q_callV (b := 0) (t := 0) (gX5_refuse _ _ _ _ hw) mlX5_105 kX5_refuse vX5_refuse rfl hs7 ⟨rfl, rfl⟩ (by decide) rfl (Nat.le_of_ble_eq_true rfl) eX5_pass_10 (kI fun r8 h9 hw => ?_)
    obtain ⟨hz10, hw⟩ := hw
    exact q_retZ rfl hz10 eX5_pass_13 ⟨_, rfl, hw⟩
def wX5_readNumber_42 (Q : Int32 → MH → Prop) (x0 : Nat) (h : MH) : Prop := hS h x0 = (1, 5) ∧ wX5_refuse x0 (nI 3) h (fun r3 h4 => Q ((-1 : Int32)) h4)
set_option maxHeartbeats 4000000 in
set_option maxRecDepth 100000 in
theorem tX5_readNumber_42 {Q : Int32 → MH → Prop} (h : MH) (x0 : Nat) (hw : wX5_readNumber_42 Q x0 h) : Wm MX5_readNumber 5 0 0 42 [some (.ref (x0)), none, none, none, none] [] h (pI Q) := by
  unfold wX5_readNumber_42 at hw
  refine q_aload_nr eX5_readNumber_42 rfl ?_
  refine q_iconst (v := nI 3) eX5_readNumber_43 (by decide) ?_
  obtain ⟨hs2, hw⟩ := hw
  refine q_callV (b := 0) (t := 0) (gX5_refuse _ _ _ _ hw) mlX5_105 kX5_refuse vX5_refuse rfl hs2 ⟨rfl, rfl⟩ (by decide) rfl (Nat.le_of_ble_eq_true rfl) eX5_readNumber_44 (kI fun r3 h4 hw => ?_)
  refine q_pop eX5_readNumber_47 rfl ?_
  refine q_iconst (v := (-1 : Int32)) eX5_readNumber_48 (by decide) ?_
  exact q_ret rfl eX5_readNumber_49 ⟨_, rfl, hw⟩
def wX5_readNumber (x0 : Nat) (x1 : Int32) (x2 : Int32) (x3 : Int32) (h : MH) (Q : Int32 → MH → Prop) : Prop := hS h x0 = (1, 5) ∧ (0 ≤ hI h x0 9 → (hI h x0 9 < x1 → wX5_readNumber_42 Q x0 h) ∧ (¬ (hI h x0 9 < x1) → (x2 < hI h x0 9 → wX5_readNumber_42 Q x0 h) ∧ (¬ (x2 < hI h x0 9) → (((x3 >>> (hI h x0 9 &&& 31)) &&& nI 1) = 0 → wX5_advance x0 h (fun h6 => Q (hI h x0 9) h6)) ∧ (¬ (((x3 >>> (hI h x0 9 &&& 31)) &&& nI 1) = 0) → wX5_readNumber_42 Q x0 h)))) ∧ (¬ (0 ≤ hI h x0 9) → wX5_refuse x0 (nI 2) h (fun r7 h8 => Q ((-1 : Int32)) h8))
set_option maxHeartbeats 4000000 in
set_option maxRecDepth 100000 in
theorem gX5_readNumber (x0 : Nat) (x1 : Int32) (x2 : Int32) (x3 : Int32) (h : MH) (Q : Int32 → MH → Prop) (hw : wX5_readNumber x0 x1 x2 x3 h Q) : Cm MX5_readNumber 5 0 0 [.ref (x0), .int (x1), .int (x2), .int (x3)] h (pI Q) := by
  refine cm_of [some (.ref (x0)), some (.int (x1)), some (.int (x2)), some (.int (x3)), none] rfl pnX5 (Nat.le_of_ble_eq_true rfl) rfl ?_
  unfold wX5_readNumber at hw
  refine q_aload_nr eX5_readNumber_0 rfl ?_
  obtain ⟨hs1, hw⟩ := hw
  refine q_getI flX5_193 rfl hs1 eX5_readNumber_1 ?_
  obtain ⟨hw1, hw2⟩ := hw
  refine q_if_ge (tgt := 15) eX5_readNumber_4 (by decide) (fun c => ?_) (fun c => ?_)
  · have hw := hw1 c
    refine q_aload_nr eX5_readNumber_15 rfl ?_
    refine q_getI flX5_193 rfl hs1 eX5_readNumber_16 ?_
    refine q_iload_n eX5_readNumber_19 rfl ?_
    obtain ⟨hw1, hw2⟩ := hw
    refine q_icmp_lt (tgt := 42) eX5_readNumber_20 (by decide) (fun c => ?_) (fun c => ?_)
    · have hw := hw1 c
      refine q_le (ls' := [some _, none, none, none, none]) ⟨rfl, trivial⟩ ?_
      exact tX5_readNumber_42 _ _ hw
    · have hw := hw2 c
      refine q_aload_nr eX5_readNumber_23 rfl ?_
      refine q_getI flX5_193 rfl hs1 eX5_readNumber_24 ?_
      refine q_iload_n eX5_readNumber_27 rfl ?_
      obtain ⟨hw1, hw2⟩ := hw
      refine q_icmp_gt (tgt := 42) eX5_readNumber_28 (by decide) (fun c => ?_) (fun c => ?_)
      · have hw := hw1 c
        refine q_le (ls' := [some _, none, none, none, none]) ⟨rfl, trivial⟩ ?_
        exact tX5_readNumber_42 _ _ hw
      · have hw := hw2 c
        refine q_iload_n eX5_readNumber_31 rfl ?_
        refine q_aload_nr eX5_readNumber_32 rfl ?_
        refine q_getI flX5_193 rfl hs1 eX5_readNumber_33 ?_
        refine q_ishr eX5_readNumber_36 ?_
        refine q_iconst (v := nI 1) eX5_readNumber_37 (by decide) ?_
        refine q_iand eX5_readNumber_38 ?_
        obtain ⟨hw1, hw2⟩ := hw
        refine q_if_eq (tgt := 50) eX5_readNumber_39 (by decide) (fun c => ?_) (fun c => ?_)
        · have hw := hw1 c
          refine q_aload_nr eX5_readNumber_50 rfl ?_
          refine q_getI flX5_193 rfl hs1 eX5_readNumber_51 ?_
          refine x_istore (ls' := [_, _, _, _, _]) eX5_readNumber_54 (by decide) rfl rfl ?_
          refine q_aload_nr eX5_readNumber_56 rfl ?_
          refine q_callV (b := 0) (t := 0) (gX5_advance _ _ _ hw) mlX5_48 kX5_advance vX5_advance rfl hs1 ⟨rfl, rfl⟩ (by decide) rfl (Nat.le_of_ble_eq_true rfl) eX5_readNumber_57 (kV fun h6 hw => ?_)
          refine q_iload eX5_readNumber_60 rfl ?_
          exact q_ret rfl eX5_readNumber_62 ⟨_, rfl, hw⟩
        · have hw := hw2 c
          refine q_le (ls' := [some _, none, none, none, none]) ⟨rfl, trivial⟩ ?_
          exact tX5_readNumber_42 _ _ hw
  · have hw := hw2 c
    refine q_aload_nr eX5_readNumber_7 rfl ?_
    refine q_iconst (v := nI 2) eX5_readNumber_8 (by decide) ?_
    refine q_callV (b := 0) (t := 0) (gX5_refuse _ _ _ _ hw) mlX5_105 kX5_refuse vX5_refuse rfl hs1 ⟨rfl, rfl⟩ (by decide) rfl (Nat.le_of_ble_eq_true rfl) eX5_readNumber_9 (kI fun r7 h8 hw => ?_)
    refine q_pop eX5_readNumber_12 rfl ?_
    refine q_iconst (v := (-1 : Int32)) eX5_readNumber_13 (by decide) ?_
    exact q_ret rfl eX5_readNumber_14 ⟨_, rfl, hw⟩
def wX5_readHead (x0 : Nat) (h : MH) (Q : Int32 → MH → Prop) : Prop := hS h x0 = (1, 5) ∧ wX5_pass x0 1 h (fun r2 h3 => (r2 = 0 → Q (nI 0) h3) ∧ (¬ (r2 = 0) → hS h3 x0 = (1, 5) ∧ wX5_pass x0 2 h3 (fun r5 h6 => (¬ (r5 = 0) → hS h6 x0 = (1, 5) ∧ wX5_readNumber x0 (nI 1) (nI 8) (nI 0) h6 (fun r8 h9 => (r8 < 0 → Q (nI 0) h9) ∧ (¬ (r8 < 0) → hS h9 x0 = (1, 5) ∧ wX5_pass x0 3 h9 (fun r11 h12 => (¬ (r11 = 0) → hS h12 x0 = (1, 5) ∧ wX5_readNumber x0 (nI 0) (nI 9) (nI 0) h12 (fun r14 h15 => (r14 < 0 → Q (nI 0) h15) ∧ (¬ (r14 < 0) → hS h15 x0 = (1, 5) ∧ wX5_pass x0 4 h15 (fun r17 h18 => (¬ (r17 = 0) → hS h18 x0 = (1, 5) ∧ ∃ a20, hR h18 x0 5 = some a20 ∧ hS h18 a20 = (1, 4) ∧ ∀ h23, h23 = sI h18 a20 0 (r8) → ∀ h24, h24 = sI h23 a20 1 (r14) → ∀ h25, h25 = sI h24 a20 2 (nI 1) → Q (nI 1) h25) ∧ (r17 = 0 → Q (nI 0) h18))))) ∧ (r11 = 0 → Q (nI 0) h12))))) ∧ (r5 = 0 → Q (nI 0) h6))))
set_option maxHeartbeats 4000000 in
set_option maxRecDepth 100000 in
theorem gX5_readHead (x0 : Nat) (h : MH) (Q : Int32 → MH → Prop) (hw : wX5_readHead x0 h Q) : Cm MX5_readHead 6 0 0 [.ref (x0)] h (pI Q) := by
  refine cm_of [some (.ref (x0)), none, none] rfl pnX5 (Nat.le_of_ble_eq_true rfl) rfl ?_
  unfold wX5_readHead at hw
  refine q_aload_nr eX5_readHead_0 rfl ?_
  refine q_ldcS (x := 1) (tx := "net") (by decide +kernel) (by decide) eX5_readHead_1 ?_
  obtain ⟨hs1, hw⟩ := hw
  refine q_callV (b := 0) (t := 0) (gX5_pass _ _ _ _ hw) mlX5_67 kX5_pass vX5_pass rfl hs1 ⟨rfl, rfl⟩ (by decide) rfl (Nat.le_of_ble_eq_true rfl) eX5_readHead_3 (kI fun r2 h3 hw => ?_)
  obtain ⟨hw1, hw2⟩ := hw
  refine q_if_eq (tgt := 18) eX5_readHead_6 (by decide) (fun c => ?_) (fun c => ?_)
  · have hw := hw1 c
    refine q_iconst (v := nI 0) eX5_readHead_18 (by decide) ?_
    exact q_retZ rfl (by decide) eX5_readHead_19 ⟨_, rfl, hw⟩
  · have hw := hw2 c
    refine q_aload_nr eX5_readHead_9 rfl ?_
    refine q_ldcS (x := 2) (tx := "nodes") (by decide +kernel) (by decide) eX5_readHead_10 ?_
    obtain ⟨hs4, hw⟩ := hw
    refine q_callV (b := 0) (t := 0) (gX5_pass _ _ _ _ hw) mlX5_67 kX5_pass vX5_pass rfl hs4 ⟨rfl, rfl⟩ (by decide) rfl (Nat.le_of_ble_eq_true rfl) eX5_readHead_12 (kI fun r5 h6 hw => ?_)
    obtain ⟨hw1, hw2⟩ := hw
    refine q_if_ne (tgt := 20) eX5_readHead_15 (by decide) (fun c => ?_) (fun c => ?_)
    · have hw := hw1 c
      refine q_aload_nr eX5_readHead_20 rfl ?_
      refine q_iconst (v := nI 1) eX5_readHead_21 (by decide) ?_
      refine q_bipush (v := nI 8) eX5_readHead_22 (by decide) ?_
      refine q_iconst (v := nI 0) eX5_readHead_24 (by decide) ?_
      obtain ⟨hs7, hw⟩ := hw
      refine q_callV (b := 0) (t := 0) (gX5_readNumber _ _ _ _ _ _ hw) mlX5_73 kX5_readNumber vX5_readNumber rfl hs7 ⟨rfl, rfl⟩ (by decide) rfl (Nat.le_of_ble_eq_true rfl) eX5_readHead_25 (kI fun r8 h9 hw => ?_)
      refine x_istore_n (ls' := [_, _, _]) eX5_readHead_28 (by decide) rfl rfl ?_
      refine q_iload_n eX5_readHead_29 rfl ?_
      obtain ⟨hw1, hw2⟩ := hw
      refine q_if_lt (tgt := 42) eX5_readHead_30 (by decide) (fun c => ?_) (fun c => ?_)
      · have hw := hw1 c
        refine q_iconst (v := nI 0) eX5_readHead_42 (by decide) ?_
        exact q_retZ rfl (by decide) eX5_readHead_43 ⟨_, rfl, hw⟩
      · have hw := hw2 c
        refine q_aload_nr eX5_readHead_33 rfl ?_
        refine q_ldcS (x := 3) (tx := "rate") (by decide +kernel) (by decide) eX5_readHead_34 ?_
        obtain ⟨hs10, hw⟩ := hw
        refine q_callV (b := 0) (t := 0) (gX5_pass _ _ _ _ hw) mlX5_67 kX5_pass vX5_pass rfl hs10 ⟨rfl, rfl⟩ (by decide) rfl (Nat.le_of_ble_eq_true rfl) eX5_readHead_36 (kI fun r11 h12 hw => ?_)
        obtain ⟨hw1, hw2⟩ := hw
        refine q_if_ne (tgt := 44) eX5_readHead_39 (by decide) (fun c => ?_) (fun c => ?_)
        · have hw := hw1 c
          refine q_aload_nr eX5_readHead_44 rfl ?_
          refine q_iconst (v := nI 0) eX5_readHead_45 (by decide) ?_
          refine q_bipush (v := nI 9) eX5_readHead_46 (by decide) ?_
          refine q_iconst (v := nI 0) eX5_readHead_48 (by decide) ?_
          obtain ⟨hs13, hw⟩ := hw
          refine q_callV (b := 0) (t := 0) (gX5_readNumber _ _ _ _ _ _ hw) mlX5_73 kX5_readNumber vX5_readNumber rfl hs13 ⟨rfl, rfl⟩ (by decide) rfl (Nat.le_of_ble_eq_true rfl) eX5_readHead_49 (kI fun r14 h15 hw => ?_)
          refine x_istore_n (ls' := [_, _, _]) eX5_readHead_52 (by decide) rfl rfl ?_
          refine q_iload_n eX5_readHead_53 rfl ?_
          obtain ⟨hw1, hw2⟩ := hw
          refine q_if_lt (tgt := 66) eX5_readHead_54 (by decide) (fun c => ?_) (fun c => ?_)
          · have hw := hw1 c
            refine q_iconst (v := nI 0) eX5_readHead_66 (by decide) ?_
            exact q_retZ rfl (by decide) eX5_readHead_67 ⟨_, rfl, hw⟩
          · have hw := hw2 c
            refine q_aload_nr eX5_readHead_57 rfl ?_
            refine q_ldcS (x := 4) (tx := ";") (by decide +kernel) (by decide) eX5_readHead_58 ?_
            obtain ⟨hs16, hw⟩ := hw
            refine q_callV (b := 0) (t := 0) (gX5_pass _ _ _ _ hw) mlX5_67 kX5_pass vX5_pass rfl hs16 ⟨rfl, rfl⟩ (by decide) rfl (Nat.le_of_ble_eq_true rfl) eX5_readHead_60 (kI fun r17 h18 hw => ?_)
            obtain ⟨hw1, hw2⟩ := hw
            refine q_if_ne (tgt := 68) eX5_readHead_63 (by decide) (fun c => ?_) (fun c => ?_)
            · have hw := hw1 c
              refine q_aload_nr eX5_readHead_68 rfl ?_
              obtain ⟨hs19, hw⟩ := hw
              obtain ⟨a20, hr21, hw⟩ := hw
              refine q_getR flX5_41 rfl hs19 hr21 eX5_readHead_69 ?_
              refine q_iload_n eX5_readHead_72 rfl ?_
              obtain ⟨hs22, hw⟩ := hw
              have hw := hw _ rfl
              refine q_putI (fwX5_81 _) rfl hs22 eX5_readHead_73 ?_
              refine q_aload_nr eX5_readHead_76 rfl ?_
              refine q_getR flX5_41 rfl hs19 hr21 eX5_readHead_77 ?_
              refine q_iload_n eX5_readHead_80 rfl ?_
              have hw := hw _ rfl
              refine q_putI (fwX5_83 _) rfl hs22 eX5_readHead_81 ?_
              refine q_aload_nr eX5_readHead_84 rfl ?_
              refine q_getR flX5_41 rfl hs19 hr21 eX5_readHead_85 ?_
              refine q_iconst (v := nI 1) eX5_readHead_88 (by decide) ?_
              have hw := hw _ rfl
              refine q_putI (fwX5_86 _) rfl hs22 eX5_readHead_89 ?_
              refine q_iconst (v := nI 1) eX5_readHead_92 (by decide) ?_
              exact q_retZ rfl (by decide) eX5_readHead_93 ⟨_, rfl, hw⟩
            · have hw := hw2 c
              refine q_iconst (v := nI 0) eX5_readHead_66 (by decide) ?_
              exact q_retZ rfl (by decide) eX5_readHead_67 ⟨_, rfl, hw⟩
        · have hw := hw2 c
          refine q_iconst (v := nI 0) eX5_readHead_42 (by decide) ?_
          exact q_retZ rfl (by decide) eX5_readHead_43 ⟨_, rfl, hw⟩
    · have hw := hw2 c
      refine q_iconst (v := nI 0) eX5_readHead_18 (by decide) ?_
      exact q_retZ rfl (by decide) eX5_readHead_19 ⟨_, rfl, hw⟩
def wX5_readSum_55 (Q : Int32 → MH → Prop) (PX5_readTerm : Nat → Int32 → MH → (Int32 → MH → Prop) → Prop) (K8 : Nat → Int32 → Int32 → Int32 → MH → Prop) (x0 : Nat) (x1 : Int32) (x3 : Int32) (s0 : Int32) (h : MH) : Prop := hS h x0 = (1, 5) ∧ wX5_advance x0 h (fun h15 => hS h15 x0 = (1, 5) ∧ PX5_readTerm x0 x1 h15 (fun r17 h18 => hS h18 x0 = (1, 5) ∧ ∃ a20, hR h18 x0 4 = some a20 ∧ hS h18 a20 = (1, 3) ∧ wX3_put a20 s0 h18 (fun h24 => K8 x0 x1 r17 (x3 + nI 1) h24)))
set_option maxHeartbeats 4000000 in
set_option maxRecDepth 100000 in
theorem tX5_readSum_55 {Q : Int32 → MH → Prop} {PX5_readTerm : Nat → Int32 → MH → (Int32 → MH → Prop) → Prop} {K8 : Nat → Int32 → Int32 → Int32 → MH → Prop} {d d2 : Nat} (hd : 5 ≤ d) (hd2 : d2 < d) (hPX5_readTerm : ∀ (y0 : Nat) (y1 : Int32) (h : MH) (Q : Int32 → MH → Prop), PX5_readTerm y0 y1 h Q → Cm MX5_readTerm d2 0 0 [.ref (y0), .int (y1)] h (pI Q)) (hK8 : ∀ (h : MH) (x0 : Nat) (x1 : Int32) (x2 : Int32) (x3 : Int32), K8 x0 x1 x2 x3 h → Wm MX5_readSum d 0 0 8 [some (.ref (x0)), some (.int (x1)), some (.int (x2)), some (.int (x3)), none] [] h (pI Q)) (h : MH) (x0 : Nat) (x1 : Int32) (x3 : Int32) (s0 : Int32) (hw : wX5_readSum_55 Q PX5_readTerm K8 x0 x1 x3 s0 h) : Wm MX5_readSum d 0 0 55 [some (.ref (x0)), some (.int (x1)), none, some (.int (x3)), none] [.int (s0)] h (pI Q) := by
  unfold wX5_readSum_55 at hw
  refine x_istore (ls' := [_, _, _, _, _]) eX5_readSum_55 (by decide) rfl rfl ?_
  refine q_aload_nr eX5_readSum_57 rfl ?_
  obtain ⟨hs13, hw⟩ := hw
  refine q_callV (b := 0) (t := 0) (gX5_advance _ _ _ hw) mlX5_48 kX5_advance vX5_advance rfl hs13 ⟨rfl, rfl⟩ (by omega) rfl (Nat.le_of_ble_eq_true rfl) eX5_readSum_58 (kV fun h15 hw => ?_)
  refine q_aload_nr eX5_readSum_61 rfl ?_
  refine q_iload_n eX5_readSum_62 rfl ?_
  obtain ⟨hs16, hw⟩ := hw
  refine q_callV (b := 0) (t := 0) (hPX5_readTerm _ _ _ _ hw) mlX5_172 kX5_readTerm vX5_readTerm rfl hs16 ⟨rfl, rfl⟩ (by omega) rfl (Nat.le_of_ble_eq_true rfl) eX5_readSum_63 (kI fun r17 h18 hw => ?_)
  refine x_istore_n (ls' := [_, _, _, _, _]) eX5_readSum_66 (by decide) rfl rfl ?_
  refine q_aload_nr eX5_readSum_67 rfl ?_
  obtain ⟨hs19, hw⟩ := hw
  obtain ⟨a20, hr21, hw⟩ := hw
  refine q_getR flX5_28 rfl hs19 hr21 eX5_readSum_68 ?_
  refine q_iload eX5_readSum_71 rfl ?_
  obtain ⟨hs22, hw⟩ := hw
  refine q_callV (b := 0) (t := 0) (gX3_put _ _ _ _ hw) mlX5_148 kX3_put vX3_put rfl hs22 ⟨rfl, rfl⟩ (by omega) rfl (Nat.le_of_ble_eq_true rfl) eX5_readSum_73 (kV fun h24 hw => ?_)
  refine x_iinc (v := (x3 + nI 1)) (ls' := [_, _, _, _, _]) eX5_readSum_76 rfl rfl rfl rfl ?_
  refine q_goto (tgt := 8) eX5_readSum_79 (by decide) ?_
  refine q_le (ls' := [some _, some _, some _, some _, none]) ⟨rfl, rfl, rfl, rfl, trivial⟩ ?_
  exact hK8 _ _ _ _ _ hw
def wX5_readSum_37 (Q : Int32 → MH → Prop) (PX5_readTerm : Nat → Int32 → MH → (Int32 → MH → Prop) → Prop) (K8 : Nat → Int32 → Int32 → Int32 → MH → Prop) (x0 : Nat) (x1 : Int32) (x3 : Int32) (h : MH) : Prop := hS h x0 = (1, 5) ∧ wX5_isAt x0 24 h (fun r10 h11 => wX5_readSum_55 Q PX5_readTerm K8 x0 x1 x3 (if r10 = 0 then nI 1006 else nI 1005) h11)
set_option maxHeartbeats 4000000 in
set_option maxRecDepth 100000 in
theorem tX5_readSum_37 {Q : Int32 → MH → Prop} {PX5_readTerm : Nat → Int32 → MH → (Int32 → MH → Prop) → Prop} {K8 : Nat → Int32 → Int32 → Int32 → MH → Prop} {d d2 : Nat} (hd : 5 ≤ d) (hd2 : d2 < d) (hPX5_readTerm : ∀ (y0 : Nat) (y1 : Int32) (h : MH) (Q : Int32 → MH → Prop), PX5_readTerm y0 y1 h Q → Cm MX5_readTerm d2 0 0 [.ref (y0), .int (y1)] h (pI Q)) (hK8 : ∀ (h : MH) (x0 : Nat) (x1 : Int32) (x2 : Int32) (x3 : Int32), K8 x0 x1 x2 x3 h → Wm MX5_readSum d 0 0 8 [some (.ref (x0)), some (.int (x1)), some (.int (x2)), some (.int (x3)), none] [] h (pI Q)) (h : MH) (x0 : Nat) (x1 : Int32) (x3 : Int32) (hw : wX5_readSum_37 Q PX5_readTerm K8 x0 x1 x3 h) : Wm MX5_readSum d 0 0 37 [some (.ref (x0)), some (.int (x1)), none, some (.int (x3)), none] [] h (pI Q) := by
  unfold wX5_readSum_37 at hw
  refine q_aload_nr eX5_readSum_37 rfl ?_
  refine q_ldcS (x := 24) (tx := "+") (by decide +kernel) (by decide) eX5_readSum_38 ?_
  obtain ⟨hs9, hw⟩ := hw
  refine q_callV (b := 0) (t := 0) (gX5_isAt _ _ _ _ hw) mlX5_91 kX5_isAt vX5_isAt rfl hs9 ⟨rfl, rfl⟩ (by omega) rfl (Nat.le_of_ble_eq_true rfl) eX5_readSum_40 (kI fun r10 h11 hw => ?_)
  have hj25 : Wm MX5_readSum d 0 0 55 [some (.ref (x0)), some (.int (x1)), none, some (.int (x3)), none] [.int ((if r10 = 0 then nI 1006 else nI 1005))] h11 (pI Q) := by
    refine q_le (ls' := [some _, some _, none, some _, none]) ⟨rfl, rfl, rfl, trivial⟩ ?_
    exact tX5_readSum_55 hd hd2 hPX5_readTerm hK8 _ _ _ _ _ hw
  refine q_if_eq (tgt := 52) eX5_readSum_43 (by decide) (fun c => ?_) (fun c => ?_)
  · refine q_sipush (v := nI 1006) eX5_readSum_52 (by decide) ?_
    rw [if_pos c] at hj25
    exact hj25
  · refine q_sipush (v := nI 1005) eX5_readSum_46 (by decide) ?_
    refine q_goto (tgt := 55) eX5_readSum_49 (by decide) ?_
    rw [if_neg c] at hj25
    exact hj25
def wX5_readSum_8 (Q : Int32 → MH → Prop) (PX5_readTerm : Nat → Int32 → MH → (Int32 → MH → Prop) → Prop) : Nat → Nat → Int32 → Int32 → Int32 → MH → Prop
  | 0, _, _, _, _, _ => False
  | n + 1, x0, x1, x2, x3, h => (nI 900 ≤ x3 → (x2 = 0 ∨ x2 = 1) ∧ Q (x2) h) ∧ (¬ (nI 900 ≤ x3) → (x2 = 0 → (x2 = 0 ∨ x2 = 1) ∧ Q (x2) h) ∧ (¬ (x2 = 0) → hS h x0 = (1, 5) ∧ wX5_isAt x0 24 h (fun r7 h8 => (¬ (r7 = 0) → wX5_readSum_37 Q PX5_readTerm (wX5_readSum_8 Q PX5_readTerm n) x0 x1 x3 h8) ∧ (r7 = 0 → hS h8 x0 = (1, 5) ∧ wX5_isAt x0 25 h8 (fun r27 h28 => (r27 = 0 → (x2 = 0 ∨ x2 = 1) ∧ Q (x2) h28) ∧ (¬ (r27 = 0) → wX5_readSum_37 Q PX5_readTerm (wX5_readSum_8 Q PX5_readTerm n) x0 x1 x3 h28))))))
set_option maxHeartbeats 4000000 in
set_option maxRecDepth 100000 in
theorem tX5_readSum_8 {Q : Int32 → MH → Prop} {PX5_readTerm : Nat → Int32 → MH → (Int32 → MH → Prop) → Prop} {d d2 : Nat} (hd : 5 ≤ d) (hd2 : d2 < d) (hPX5_readTerm : ∀ (y0 : Nat) (y1 : Int32) (h : MH) (Q : Int32 → MH → Prop), PX5_readTerm y0 y1 h Q → Cm MX5_readTerm d2 0 0 [.ref (y0), .int (y1)] h (pI Q)) : ∀ (n : Nat) (h : MH) (x0 : Nat) (x1 : Int32) (x2 : Int32) (x3 : Int32), wX5_readSum_8 Q PX5_readTerm n x0 x1 x2 x3 h → Wm MX5_readSum d 0 0 8 [some (.ref (x0)), some (.int (x1)), some (.int (x2)), some (.int (x3)), none] [] h (pI Q) := by
  intro n
  induction n with
  | zero => intro h x0 x1 x2 x3 hw; exact hw.elim
  | succ n ih =>
    intro h x0 x1 x2 x3 hw
    unfold wX5_readSum_8 at hw
    refine q_iload_n eX5_readSum_8 rfl ?_
    refine q_sipush (v := nI 900) eX5_readSum_9 (by decide) ?_
    obtain ⟨hw1, hw2⟩ := hw
    refine q_icmp_ge (tgt := 82) eX5_readSum_12 (by decide) (fun c => ?_) (fun c => ?_)
    · have hw := hw1 c
      refine q_iload_n eX5_readSum_82 rfl ?_
      obtain ⟨hz4, hw⟩ := hw
      exact q_retZ rfl hz4 eX5_readSum_83 ⟨_, rfl, hw⟩
    · have hw := hw2 c
      refine q_iload_n eX5_readSum_15 rfl ?_
      obtain ⟨hw1, hw2⟩ := hw
      refine q_if_eq (tgt := 82) eX5_readSum_16 (by decide) (fun c => ?_) (fun c => ?_)
      · have hw := hw1 c
        refine q_iload_n eX5_readSum_82 rfl ?_
        obtain ⟨hz5, hw⟩ := hw
        exact q_retZ rfl hz5 eX5_readSum_83 ⟨_, rfl, hw⟩
      · have hw := hw2 c
        refine q_aload_nr eX5_readSum_19 rfl ?_
        refine q_ldcS (x := 24) (tx := "+") (by decide +kernel) (by decide) eX5_readSum_20 ?_
        obtain ⟨hs6, hw⟩ := hw
        refine q_callV (b := 0) (t := 0) (gX5_isAt _ _ _ _ hw) mlX5_91 kX5_isAt vX5_isAt rfl hs6 ⟨rfl, rfl⟩ (by omega) rfl (Nat.le_of_ble_eq_true rfl) eX5_readSum_22 (kI fun r7 h8 hw => ?_)
        obtain ⟨hw1, hw2⟩ := hw
        refine q_if_ne (tgt := 37) eX5_readSum_25 (by decide) (fun c => ?_) (fun c => ?_)
        · have hw := hw1 c
          refine q_le (ls' := [some _, some _, none, some _, none]) ⟨rfl, rfl, rfl, trivial⟩ ?_
          exact tX5_readSum_37 hd hd2 hPX5_readTerm ih _ _ _ _ hw
        · have hw := hw2 c
          refine q_aload_nr eX5_readSum_28 rfl ?_
          refine q_ldcS (x := 25) (tx := "-") (by decide +kernel) (by decide) eX5_readSum_29 ?_
          obtain ⟨hs26, hw⟩ := hw
          refine q_callV (b := 0) (t := 0) (gX5_isAt _ _ _ _ hw) mlX5_91 kX5_isAt vX5_isAt rfl hs26 ⟨rfl, rfl⟩ (by omega) rfl (Nat.le_of_ble_eq_true rfl) eX5_readSum_31 (kI fun r27 h28 hw => ?_)
          obtain ⟨hw1, hw2⟩ := hw
          refine q_if_eq (tgt := 82) eX5_readSum_34 (by decide) (fun c => ?_) (fun c => ?_)
          · have hw := hw1 c
            refine q_iload_n eX5_readSum_82 rfl ?_
            obtain ⟨hz29, hw⟩ := hw
            exact q_retZ rfl hz29 eX5_readSum_83 ⟨_, rfl, hw⟩
          · have hw := hw2 c
            refine q_le (ls' := [some _, some _, none, some _, none]) ⟨rfl, rfl, rfl, trivial⟩ ?_
            exact tX5_readSum_37 hd hd2 hPX5_readTerm ih _ _ _ _ hw
def wX5_readSum (PX5_readTerm : Nat → Int32 → MH → (Int32 → MH → Prop) → Prop) (x0 : Nat) (x1 : Int32) (h : MH) (Q : Int32 → MH → Prop) : Prop := hS h x0 = (1, 5) ∧ PX5_readTerm x0 x1 h (fun r2 h3 => ∃ m30, wX5_readSum_8 Q PX5_readTerm m30 x0 x1 r2 (nI 0) h3)
set_option maxHeartbeats 4000000 in
set_option maxRecDepth 100000 in
theorem gX5_readSum {PX5_readTerm : Nat → Int32 → MH → (Int32 → MH → Prop) → Prop} {d d2 : Nat} (hd : 5 ≤ d) (hd2 : d2 < d) (hPX5_readTerm : ∀ (y0 : Nat) (y1 : Int32) (h : MH) (Q : Int32 → MH → Prop), PX5_readTerm y0 y1 h Q → Cm MX5_readTerm d2 0 0 [.ref (y0), .int (y1)] h (pI Q)) (x0 : Nat) (x1 : Int32) (h : MH) (Q : Int32 → MH → Prop) (hw : wX5_readSum PX5_readTerm x0 x1 h Q) : Cm MX5_readSum d 0 0 [.ref (x0), .int (x1)] h (pI Q) := by
  refine cm_of [some (.ref (x0)), some (.int (x1)), none, none, none] rfl pnX5 (Nat.le_of_ble_eq_true rfl) rfl ?_
  unfold wX5_readSum at hw
  refine q_aload_nr eX5_readSum_0 rfl ?_
  refine q_iload_n eX5_readSum_1 rfl ?_
  obtain ⟨hs1, hw⟩ := hw
  refine q_callV (b := 0) (t := 0) (hPX5_readTerm _ _ _ _ hw) mlX5_172 kX5_readTerm vX5_readTerm rfl hs1 ⟨rfl, rfl⟩ (by omega) rfl (Nat.le_of_ble_eq_true rfl) eX5_readSum_2 (kI fun r2 h3 hw => ?_)
  refine x_istore_n (ls' := [_, _, _, _, _]) eX5_readSum_5 (by decide) rfl rfl ?_
  refine q_iconst (v := nI 0) eX5_readSum_6 (by decide) ?_
  refine x_istore_n (ls' := [_, _, _, _, _]) eX5_readSum_7 (by decide) rfl rfl ?_
  refine q_le (ls' := [some _, some _, some _, some _, none]) ⟨rfl, rfl, rfl, rfl, trivial⟩ ?_
  obtain ⟨m30, hw⟩ := hw
  exact tX5_readSum_8 hd hd2 hPX5_readTerm m30 _ _ _ _ _ hw
def wX5_readTruth_8 (Q : Int32 → MH → Prop) (PX5_readBoth : Nat → Int32 → MH → (Int32 → MH → Prop) → Prop) : Nat → Nat → Int32 → Int32 → Int32 → MH → Prop
  | 0, _, _, _, _, _ => False
  | n + 1, x0, x1, x2, x3, h => (nI 900 ≤ x3 → (x2 = 0 ∨ x2 = 1) ∧ Q (x2) h) ∧ (¬ (nI 900 ≤ x3) → (x2 = 0 → (x2 = 0 ∨ x2 = 1) ∧ Q (x2) h) ∧ (¬ (x2 = 0) → hS h x0 = (1, 5) ∧ wX5_isAt x0 30 h (fun r7 h8 => (r7 = 0 → (x2 = 0 ∨ x2 = 1) ∧ Q (x2) h8) ∧ (¬ (r7 = 0) → hS h8 x0 = (1, 5) ∧ wX5_advance x0 h8 (fun h12 => hS h12 x0 = (1, 5) ∧ PX5_readBoth x0 x1 h12 (fun r14 h15 => hS h15 x0 = (1, 5) ∧ ∃ a17, hR h15 x0 4 = some a17 ∧ hS h15 a17 = (1, 3) ∧ wX3_put a17 (nI 1012) h15 (fun h21 => wX5_readTruth_8 Q PX5_readBoth n x0 x1 r14 (x3 + nI 1) h21)))))))
set_option maxHeartbeats 4000000 in
set_option maxRecDepth 100000 in
theorem tX5_readTruth_8 {Q : Int32 → MH → Prop} {PX5_readBoth : Nat → Int32 → MH → (Int32 → MH → Prop) → Prop} {d d2 : Nat} (hd : 5 ≤ d) (hd2 : d2 < d) (hPX5_readBoth : ∀ (y0 : Nat) (y1 : Int32) (h : MH) (Q : Int32 → MH → Prop), PX5_readBoth y0 y1 h Q → Cm MX5_readBoth d2 0 0 [.ref (y0), .int (y1)] h (pI Q)) : ∀ (n : Nat) (h : MH) (x0 : Nat) (x1 : Int32) (x2 : Int32) (x3 : Int32), wX5_readTruth_8 Q PX5_readBoth n x0 x1 x2 x3 h → Wm MX5_readTruth d 0 0 8 [some (.ref (x0)), some (.int (x1)), some (.int (x2)), some (.int (x3))] [] h (pI Q) := by
  intro n
  induction n with
  | zero => intro h x0 x1 x2 x3 hw; exact hw.elim
  | succ n ih =>
    intro h x0 x1 x2 x3 hw
    unfold wX5_readTruth_8 at hw
    refine q_iload_n eX5_readTruth_8 rfl ?_
    refine q_sipush (v := nI 900) eX5_readTruth_9 (by decide) ?_
    obtain ⟨hw1, hw2⟩ := hw
    refine q_icmp_ge (tgt := 54) eX5_readTruth_12 (by decide) (fun c => ?_) (fun c => ?_)
    · have hw := hw1 c
      refine q_iload_n eX5_readTruth_54 rfl ?_
      obtain ⟨hz4, hw⟩ := hw
      exact q_retZ rfl hz4 eX5_readTruth_55 ⟨_, rfl, hw⟩
    · have hw := hw2 c
      refine q_iload_n eX5_readTruth_15 rfl ?_
      obtain ⟨hw1, hw2⟩ := hw
      refine q_if_eq (tgt := 54) eX5_readTruth_16 (by decide) (fun c => ?_) (fun c => ?_)
      · have hw := hw1 c
        refine q_iload_n eX5_readTruth_54 rfl ?_
        obtain ⟨hz5, hw⟩ := hw
        exact q_retZ rfl hz5 eX5_readTruth_55 ⟨_, rfl, hw⟩
      · have hw := hw2 c
        refine q_aload_nr eX5_readTruth_19 rfl ?_
        refine q_ldcS (x := 30) (tx := "or") (by decide +kernel) (by decide) eX5_readTruth_20 ?_
        obtain ⟨hs6, hw⟩ := hw
        refine q_callV (b := 0) (t := 0) (gX5_isAt _ _ _ _ hw) mlX5_91 kX5_isAt vX5_isAt rfl hs6 ⟨rfl, rfl⟩ (by omega) rfl (Nat.le_of_ble_eq_true rfl) eX5_readTruth_22 (kI fun r7 h8 hw => ?_)
        obtain ⟨hw1, hw2⟩ := hw
        refine q_if_eq (tgt := 54) eX5_readTruth_25 (by decide) (fun c => ?_) (fun c => ?_)
        · have hw := hw1 c
          refine q_iload_n eX5_readTruth_54 rfl ?_
          obtain ⟨hz9, hw⟩ := hw
          exact q_retZ rfl hz9 eX5_readTruth_55 ⟨_, rfl, hw⟩
        · have hw := hw2 c
          refine q_aload_nr eX5_readTruth_28 rfl ?_
          obtain ⟨hs10, hw⟩ := hw
          refine q_callV (b := 0) (t := 0) (gX5_advance _ _ _ hw) mlX5_48 kX5_advance vX5_advance rfl hs10 ⟨rfl, rfl⟩ (by omega) rfl (Nat.le_of_ble_eq_true rfl) eX5_readTruth_29 (kV fun h12 hw => ?_)
          refine q_aload_nr eX5_readTruth_32 rfl ?_
          refine q_iload_n eX5_readTruth_33 rfl ?_
          obtain ⟨hs13, hw⟩ := hw
          refine q_callV (b := 0) (t := 0) (hPX5_readBoth _ _ _ _ hw) mlX5_143 kX5_readBoth vX5_readBoth rfl hs13 ⟨rfl, rfl⟩ (by omega) rfl (Nat.le_of_ble_eq_true rfl) eX5_readTruth_34 (kI fun r14 h15 hw => ?_)
          refine x_istore_n (ls' := [_, _, _, _]) eX5_readTruth_37 (by decide) rfl rfl ?_
          refine q_aload_nr eX5_readTruth_38 rfl ?_
          obtain ⟨hs16, hw⟩ := hw
          obtain ⟨a17, hr18, hw⟩ := hw
          refine q_getR flX5_28 rfl hs16 hr18 eX5_readTruth_39 ?_
          refine q_sipush (v := nI 1012) eX5_readTruth_42 (by decide) ?_
          obtain ⟨hs19, hw⟩ := hw
          refine q_callV (b := 0) (t := 0) (gX3_put _ _ _ _ hw) mlX5_148 kX3_put vX3_put rfl hs19 ⟨rfl, rfl⟩ (by omega) rfl (Nat.le_of_ble_eq_true rfl) eX5_readTruth_45 (kV fun h21 hw => ?_)
          refine x_iinc (v := (x3 + nI 1)) (ls' := [_, _, _, _]) eX5_readTruth_48 rfl rfl rfl rfl ?_
          refine q_goto (tgt := 8) eX5_readTruth_51 (by decide) ?_
          refine q_le (ls' := [some _, some _, some _, some _]) ⟨rfl, rfl, rfl, rfl, trivial⟩ ?_
          exact ih _ _ _ _ _ hw
def wX5_readTruth (PX5_readBoth : Nat → Int32 → MH → (Int32 → MH → Prop) → Prop) (x0 : Nat) (x1 : Int32) (h : MH) (Q : Int32 → MH → Prop) : Prop := hS h x0 = (1, 5) ∧ PX5_readBoth x0 x1 h (fun r2 h3 => ∃ m22, wX5_readTruth_8 Q PX5_readBoth m22 x0 x1 r2 (nI 0) h3)
set_option maxHeartbeats 4000000 in
set_option maxRecDepth 100000 in
theorem gX5_readTruth {PX5_readBoth : Nat → Int32 → MH → (Int32 → MH → Prop) → Prop} {d d2 : Nat} (hd : 5 ≤ d) (hd2 : d2 < d) (hPX5_readBoth : ∀ (y0 : Nat) (y1 : Int32) (h : MH) (Q : Int32 → MH → Prop), PX5_readBoth y0 y1 h Q → Cm MX5_readBoth d2 0 0 [.ref (y0), .int (y1)] h (pI Q)) (x0 : Nat) (x1 : Int32) (h : MH) (Q : Int32 → MH → Prop) (hw : wX5_readTruth PX5_readBoth x0 x1 h Q) : Cm MX5_readTruth d 0 0 [.ref (x0), .int (x1)] h (pI Q) := by
  refine cm_of [some (.ref (x0)), some (.int (x1)), none, none] rfl pnX5 (Nat.le_of_ble_eq_true rfl) rfl ?_
  unfold wX5_readTruth at hw
  refine q_aload_nr eX5_readTruth_0 rfl ?_
  refine q_iload_n eX5_readTruth_1 rfl ?_
  obtain ⟨hs1, hw⟩ := hw
  refine q_callV (b := 0) (t := 0) (hPX5_readBoth _ _ _ _ hw) mlX5_143 kX5_readBoth vX5_readBoth rfl hs1 ⟨rfl, rfl⟩ (by omega) rfl (Nat.le_of_ble_eq_true rfl) eX5_readTruth_2 (kI fun r2 h3 hw => ?_)
  refine x_istore_n (ls' := [_, _, _, _]) eX5_readTruth_5 (by decide) rfl rfl ?_
  refine q_iconst (v := nI 0) eX5_readTruth_6 (by decide) ?_
  refine x_istore_n (ls' := [_, _, _, _]) eX5_readTruth_7 (by decide) rfl rfl ?_
  refine q_le (ls' := [some _, some _, some _, some _]) ⟨rfl, rfl, rfl, rfl, trivial⟩ ?_
  obtain ⟨m22, hw⟩ := hw
  exact tX5_readTruth_8 hd hd2 hPX5_readBoth m22 _ _ _ _ _ hw
def wX5_readLaw_53 (Q : Int32 → MH → Prop) (x0 : Nat) (x1 : Int32) (h : MH) : Prop := hS h x0 = (1, 5) ∧ ∃ a19, hR h x0 4 = some a19 ∧ hS h a19 = (1, 3) ∧ wX3_close a19 x1 h (fun h23 => Q (nI 1) h23)
set_option maxHeartbeats 4000000 in
set_option maxRecDepth 100000 in
theorem tX5_readLaw_53 {Q : Int32 → MH → Prop} (h : MH) (x0 : Nat) (x1 : Int32) (hw : wX5_readLaw_53 Q x0 x1 h) : Wm MX5_readLaw 301 0 0 53 [some (.ref (x0)), some (.int (x1))] [] h (pI Q) := by
  unfold wX5_readLaw_53 at hw
  refine q_aload_nr eX5_readLaw_53 rfl ?_
  obtain ⟨hs18, hw⟩ := hw
  obtain ⟨a19, hr20, hw⟩ := hw
  refine q_getR flX5_28 rfl hs18 hr20 eX5_readLaw_54 ?_
  refine q_iload_n eX5_readLaw_57 rfl ?_
  obtain ⟨hs21, hw⟩ := hw
  refine q_callV (b := 0) (t := 0) (gX3_close _ _ _ _ hw) mlX5_140 kX3_close vX3_close rfl hs21 ⟨rfl, rfl⟩ (by decide) rfl (Nat.le_of_ble_eq_true rfl) eX5_readLaw_58 (kV fun h23 hw => ?_)
  refine q_iconst (v := nI 1) eX5_readLaw_61 (by decide) ?_
  exact q_retZ rfl (by decide) eX5_readLaw_62 ⟨_, rfl, hw⟩
def wX5_readLaw (x0 : Nat) (x1 : Int32) (h : MH) (Q : Int32 → MH → Prop) : Prop := hS h x0 = (1, 5) ∧ (x1 = 0 ∨ x1 = 1) ∧ ∀ h2, h2 = sI h x0 10 (x1) → wX5_advance x0 h2 (fun h5 => hS h5 x0 = (1, 5) ∧ wX5_pass x0 9 h5 (fun r7 h8 => (¬ (r7 = 0) → hS h8 x0 = (1, 5) ∧ ∃ a10, hR h8 x0 4 = some a10 ∧ hS h8 a10 = (1, 3) ∧ wX3_open a10 x1 h8 (fun h14 => (x1 = 0 → hS h14 x0 = (1, 5) ∧ Cm MX5_readSum 300 0 0 [.ref (x0), .int (nI 0)] h14 (pI fun r16 h17 => (¬ (r16 = 0) → wX5_readLaw_53 Q x0 x1 h17) ∧ (r16 = 0 → Q (nI 0) h17))) ∧ (¬ (x1 = 0) → hS h14 x0 = (1, 5) ∧ Cm MX5_readTruth 300 0 0 [.ref (x0), .int (nI 0)] h14 (pI fun r25 h26 => (r25 = 0 → Q (nI 0) h26) ∧ (¬ (r25 = 0) → wX5_readLaw_53 Q x0 x1 h26))))) ∧ (r7 = 0 → Q (nI 0) h8)))
set_option maxHeartbeats 4000000 in
set_option maxRecDepth 100000 in
theorem gX5_readLaw (x0 : Nat) (x1 : Int32) (h : MH) (Q : Int32 → MH → Prop) (hw : wX5_readLaw x0 x1 h Q) : Cm MX5_readLaw 301 0 0 [.ref (x0), .int (x1)] h (pI Q) := by
  refine cm_of [some (.ref (x0)), some (.int (x1))] rfl pnX5 (Nat.le_of_ble_eq_true rfl) rfl ?_
  unfold wX5_readLaw at hw
  refine q_aload_nr eX5_readLaw_0 rfl ?_
  refine q_iload_n eX5_readLaw_1 rfl ?_
  obtain ⟨hs1, hw⟩ := hw
  obtain ⟨hz3, hw⟩ := hw
  have hw := hw _ rfl
  refine q_putZ (fwX5_124 _) rfl hz3 hs1 eX5_readLaw_2 ?_
  refine q_aload_nr eX5_readLaw_5 rfl ?_
  refine q_callV (b := 0) (t := 0) (gX5_advance _ _ _ hw) mlX5_48 kX5_advance vX5_advance rfl hs1 ⟨rfl, rfl⟩ (by decide) rfl (Nat.le_of_ble_eq_true rfl) eX5_readLaw_6 (kV fun h5 hw => ?_)
  refine q_aload_nr eX5_readLaw_9 rfl ?_
  refine q_ldcS (x := 9) (tx := ":") (by decide +kernel) (by decide) eX5_readLaw_10 ?_
  obtain ⟨hs6, hw⟩ := hw
  refine q_callV (b := 0) (t := 0) (gX5_pass _ _ _ _ hw) mlX5_67 kX5_pass vX5_pass rfl hs6 ⟨rfl, rfl⟩ (by decide) rfl (Nat.le_of_ble_eq_true rfl) eX5_readLaw_12 (kI fun r7 h8 hw => ?_)
  obtain ⟨hw1, hw2⟩ := hw
  refine q_if_ne (tgt := 20) eX5_readLaw_15 (by decide) (fun c => ?_) (fun c => ?_)
  · have hw := hw1 c
    refine q_aload_nr eX5_readLaw_20 rfl ?_
    obtain ⟨hs9, hw⟩ := hw
    obtain ⟨a10, hr11, hw⟩ := hw
    refine q_getR flX5_28 rfl hs9 hr11 eX5_readLaw_21 ?_
    refine q_iload_n eX5_readLaw_24 rfl ?_
    obtain ⟨hs12, hw⟩ := hw
    refine q_callV (b := 0) (t := 0) (gX3_open _ _ _ _ hw) mlX5_130 kX3_open vX3_open rfl hs12 ⟨rfl, rfl⟩ (by decide) rfl (Nat.le_of_ble_eq_true rfl) eX5_readLaw_25 (kV fun h14 hw => ?_)
    refine q_iload_n eX5_readLaw_28 rfl ?_
    obtain ⟨hw1, hw2⟩ := hw
    refine q_if_eq (tgt := 43) eX5_readLaw_29 (by decide) (fun c => ?_) (fun c => ?_)
    · have hw := hw1 c
      refine q_aload_nr eX5_readLaw_43 rfl ?_
      refine q_iconst (v := nI 0) eX5_readLaw_44 (by decide) ?_
      obtain ⟨hs15, hw⟩ := hw
      refine q_callV (b := 0) (t := 0) hw mlX5_137 kX5_readSum vX5_readSum rfl hs15 ⟨rfl, rfl⟩ (by decide) rfl (Nat.le_of_ble_eq_true rfl) eX5_readLaw_45 (kI fun r16 h17 hw => ?_)
      obtain ⟨hw1, hw2⟩ := hw
      refine q_if_ne (tgt := 53) eX5_readLaw_48 (by decide) (fun c => ?_) (fun c => ?_)
      · have hw := hw1 c
        refine q_le (ls' := [some _, some _]) ⟨rfl, rfl, trivial⟩ ?_
        exact tX5_readLaw_53 _ _ _ hw
      · have hw := hw2 c
        refine q_iconst (v := nI 0) eX5_readLaw_51 (by decide) ?_
        exact q_retZ rfl (by decide) eX5_readLaw_52 ⟨_, rfl, hw⟩
    · have hw := hw2 c
      refine q_aload_nr eX5_readLaw_32 rfl ?_
      refine q_iconst (v := nI 0) eX5_readLaw_33 (by decide) ?_
      obtain ⟨hs24, hw⟩ := hw
      refine q_callV (b := 0) (t := 0) hw mlX5_134 kX5_readTruth vX5_readTruth rfl hs24 ⟨rfl, rfl⟩ (by decide) rfl (Nat.le_of_ble_eq_true rfl) eX5_readLaw_34 (kI fun r25 h26 hw => ?_)
      obtain ⟨hw1, hw2⟩ := hw
      refine q_if_eq (tgt := 51) eX5_readLaw_37 (by decide) (fun c => ?_) (fun c => ?_)
      · have hw := hw1 c
        refine q_iconst (v := nI 0) eX5_readLaw_51 (by decide) ?_
        exact q_retZ rfl (by decide) eX5_readLaw_52 ⟨_, rfl, hw⟩
      · have hw := hw2 c
        refine q_goto (tgt := 53) eX5_readLaw_40 (by decide) ?_
        refine q_le (ls' := [some _, some _]) ⟨rfl, rfl, trivial⟩ ?_
        exact tX5_readLaw_53 _ _ _ hw
  · have hw := hw2 c
    refine q_iconst (v := nI 0) eX5_readLaw_18 (by decide) ?_
    exact q_retZ rfl (by decide) eX5_readLaw_19 ⟨_, rfl, hw⟩
def wX5_readLink (x0 : Nat) (h : MH) (Q : Int32 → MH → Prop) : Prop := hS h x0 = (1, 5) ∧ ∃ a2, hR h x0 5 = some a2 ∧ hS h a2 = (1, 4) ∧ (hI h a2 3 < nI 10 → wX5_advance x0 h (fun h6 => hS h6 x0 = (1, 5) ∧ ∃ a8, hR h6 x0 5 = some a8 ∧ hS h6 a8 = (1, 4) ∧ wX5_readNumber x0 (nI 0) (hI h6 a8 0 - nI 1) (nI 0) h6 (fun r11 h12 => (0 ≤ r11 → hS h12 x0 = (1, 5) ∧ ∃ a14, hR h12 x0 5 = some a14 ∧ hS h12 a14 = (1, 4) ∧ wX4_joinedWith a14 r11 h12 (fun r17 h18 => hS h18 x0 = (1, 5) ∧ wX5_readNumber x0 (nI 0) (hI h12 a14 0 - nI 1) ((nI 1 <<< (r11 &&& 31)) ||| r17) h18 (fun r20 h21 => (r20 < 0 → Q (nI 0) h21) ∧ (¬ (r20 < 0) → hS h21 x0 = (1, 5) ∧ wX5_pass x0 6 h21 (fun r23 h24 => (¬ (r23 = 0) → hS h24 x0 = (1, 5) ∧ wX5_readNumber x0 (nI 1) (nI 9) (nI 0) h24 (fun r26 h27 => (r26 < 0 → Q (nI 0) h27) ∧ (¬ (r26 < 0) → hS h27 x0 = (1, 5) ∧ wX5_pass x0 7 h27 (fun r29 h30 => (¬ (r29 = 0) → hS h30 x0 = (1, 5) ∧ wX5_readNumber x0 (nI 0) (nI 2) (nI 0) h30 (fun r32 h33 => (0 ≤ r32 → hS h33 x0 = (1, 5) ∧ ∃ a35, hR h33 x0 5 = some a35 ∧ hS h33 a35 = (1, 4) ∧ wX4_addLink a35 r11 r20 r26 r32 h33 (fun h39 => Q (nI 1) h39)) ∧ (¬ (0 ≤ r32) → Q (nI 0) h33))) ∧ (r29 = 0 → Q (nI 0) h30))))) ∧ (r23 = 0 → Q (nI 0) h24)))))) ∧ (¬ (0 ≤ r11) → Q (nI 0) h12)))) ∧ (¬ (hI h a2 3 < nI 10) → wX5_refuse x0 (nI 4) h (fun r40 h41 => (r40 = 0 ∨ r40 = 1) ∧ Q (r40) h41))
set_option maxHeartbeats 4000000 in
set_option maxRecDepth 100000 in
theorem gX5_readLink (x0 : Nat) (h : MH) (Q : Int32 → MH → Prop) (hw : wX5_readLink x0 h Q) : Cm MX5_readLink 6 0 0 [.ref (x0)] h (pI Q) := by
  refine cm_of [some (.ref (x0)), none, none, none, none] rfl pnX5 (Nat.le_of_ble_eq_true rfl) rfl ?_
  unfold wX5_readLink at hw
  refine q_aload_nr eX5_readLink_0 rfl ?_
  obtain ⟨hs1, hw⟩ := hw
  obtain ⟨a2, hr3, hw⟩ := hw
  refine q_getR flX5_41 rfl hs1 hr3 eX5_readLink_1 ?_
  obtain ⟨hs4, hw⟩ := hw
  refine q_getI flX5_109 rfl hs4 eX5_readLink_4 ?_
  refine q_bipush (v := nI 10) eX5_readLink_7 (by decide) ?_
  obtain ⟨hw1, hw2⟩ := hw
  refine q_icmp_lt (tgt := 18) eX5_readLink_9 (by decide) (fun c => ?_) (fun c => ?_)
  · have hw := hw1 c
    refine q_aload_nr eX5_readLink_18 rfl ?_
    refine q_callV (b := 0) (t := 0) (gX5_advance _ _ _ hw) mlX5_48 kX5_advance vX5_advance rfl hs1 ⟨rfl, rfl⟩ (by decide) rfl (Nat.le_of_ble_eq_true rfl) eX5_readLink_19 (kV fun h6 hw => ?_)
    refine q_aload_nr eX5_readLink_22 rfl ?_
    refine q_iconst (v := nI 0) eX5_readLink_23 (by decide) ?_
    refine q_aload_nr eX5_readLink_24 rfl ?_
    obtain ⟨hs7, hw⟩ := hw
    obtain ⟨a8, hr9, hw⟩ := hw
    refine q_getR flX5_41 rfl hs7 hr9 eX5_readLink_25 ?_
    obtain ⟨hs10, hw⟩ := hw
    refine q_getI flX5_81 rfl hs10 eX5_readLink_28 ?_
    refine q_iconst (v := nI 1) eX5_readLink_31 (by decide) ?_
    refine q_isub eX5_readLink_32 ?_
    refine q_iconst (v := nI 0) eX5_readLink_33 (by decide) ?_
    refine q_callV (b := 0) (t := 0) (gX5_readNumber _ _ _ _ _ _ hw) mlX5_73 kX5_readNumber vX5_readNumber rfl hs7 ⟨rfl, rfl⟩ (by decide) rfl (Nat.le_of_ble_eq_true rfl) eX5_readLink_34 (kI fun r11 h12 hw => ?_)
    refine x_istore_n (ls' := [_, _, _, _, _]) eX5_readLink_37 (by decide) rfl rfl ?_
    refine q_iload_n eX5_readLink_38 rfl ?_
    obtain ⟨hw1, hw2⟩ := hw
    refine q_if_ge (tgt := 44) eX5_readLink_39 (by decide) (fun c => ?_) (fun c => ?_)
    · have hw := hw1 c
      refine q_aload_nr eX5_readLink_44 rfl ?_
      refine q_iconst (v := nI 0) eX5_readLink_45 (by decide) ?_
      refine q_aload_nr eX5_readLink_46 rfl ?_
      obtain ⟨hs13, hw⟩ := hw
      obtain ⟨a14, hr15, hw⟩ := hw
      refine q_getR flX5_41 rfl hs13 hr15 eX5_readLink_47 ?_
      obtain ⟨hs16, hw⟩ := hw
      refine q_getI flX5_81 rfl hs16 eX5_readLink_50 ?_
      refine q_iconst (v := nI 1) eX5_readLink_53 (by decide) ?_
      refine q_isub eX5_readLink_54 ?_
      refine q_iconst (v := nI 1) eX5_readLink_55 (by decide) ?_
      refine q_iload_n eX5_readLink_56 rfl ?_
      refine q_ishl eX5_readLink_57 ?_
      refine q_aload_nr eX5_readLink_58 rfl ?_
      refine q_getR flX5_41 rfl hs13 hr15 eX5_readLink_59 ?_
      refine q_iload_n eX5_readLink_62 rfl ?_
      refine q_callV (b := 0) (t := 0) (gX4_joinedWith _ _ _ _ hw) mlX5_112 kX4_joinedWith vX4_joinedWith rfl hs16 ⟨rfl, rfl⟩ (by decide) rfl (Nat.le_of_ble_eq_true rfl) eX5_readLink_63 (kI fun r17 h18 hw => ?_)
      refine q_ior eX5_readLink_66 ?_
      obtain ⟨hs19, hw⟩ := hw
      refine q_callV (b := 0) (t := 0) (gX5_readNumber _ _ _ _ _ _ hw) mlX5_73 kX5_readNumber vX5_readNumber rfl hs19 ⟨rfl, rfl⟩ (by decide) rfl (Nat.le_of_ble_eq_true rfl) eX5_readLink_67 (kI fun r20 h21 hw => ?_)
      refine x_istore_n (ls' := [_, _, _, _, _]) eX5_readLink_70 (by decide) rfl rfl ?_
      refine q_iload_n eX5_readLink_71 rfl ?_
      obtain ⟨hw1, hw2⟩ := hw
      refine q_if_lt (tgt := 84) eX5_readLink_72 (by decide) (fun c => ?_) (fun c => ?_)
      · have hw := hw1 c
        refine q_iconst (v := nI 0) eX5_readLink_84 (by decide) ?_
        exact q_retZ rfl (by decide) eX5_readLink_85 ⟨_, rfl, hw⟩
      · have hw := hw2 c
        refine q_aload_nr eX5_readLink_75 rfl ?_
        refine q_ldcS (x := 6) (tx := "long") (by decide +kernel) (by decide) eX5_readLink_76 ?_
        obtain ⟨hs22, hw⟩ := hw
        refine q_callV (b := 0) (t := 0) (gX5_pass _ _ _ _ hw) mlX5_67 kX5_pass vX5_pass rfl hs22 ⟨rfl, rfl⟩ (by decide) rfl (Nat.le_of_ble_eq_true rfl) eX5_readLink_78 (kI fun r23 h24 hw => ?_)
        obtain ⟨hw1, hw2⟩ := hw
        refine q_if_ne (tgt := 86) eX5_readLink_81 (by decide) (fun c => ?_) (fun c => ?_)
        · have hw := hw1 c
          refine q_aload_nr eX5_readLink_86 rfl ?_
          refine q_iconst (v := nI 1) eX5_readLink_87 (by decide) ?_
          refine q_bipush (v := nI 9) eX5_readLink_88 (by decide) ?_
          refine q_iconst (v := nI 0) eX5_readLink_90 (by decide) ?_
          obtain ⟨hs25, hw⟩ := hw
          refine q_callV (b := 0) (t := 0) (gX5_readNumber _ _ _ _ _ _ hw) mlX5_73 kX5_readNumber vX5_readNumber rfl hs25 ⟨rfl, rfl⟩ (by decide) rfl (Nat.le_of_ble_eq_true rfl) eX5_readLink_91 (kI fun r26 h27 hw => ?_)
          refine x_istore_n (ls' := [_, _, _, _, _]) eX5_readLink_94 (by decide) rfl rfl ?_
          refine q_iload_n eX5_readLink_95 rfl ?_
          obtain ⟨hw1, hw2⟩ := hw
          refine q_if_lt (tgt := 108) eX5_readLink_96 (by decide) (fun c => ?_) (fun c => ?_)
          · have hw := hw1 c
            refine q_iconst (v := nI 0) eX5_readLink_108 (by decide) ?_
            exact q_retZ rfl (by decide) eX5_readLink_109 ⟨_, rfl, hw⟩
          · have hw := hw2 c
            refine q_aload_nr eX5_readLink_99 rfl ?_
            refine q_ldcS (x := 7) (tx := "work") (by decide +kernel) (by decide) eX5_readLink_100 ?_
            obtain ⟨hs28, hw⟩ := hw
            refine q_callV (b := 0) (t := 0) (gX5_pass _ _ _ _ hw) mlX5_67 kX5_pass vX5_pass rfl hs28 ⟨rfl, rfl⟩ (by decide) rfl (Nat.le_of_ble_eq_true rfl) eX5_readLink_102 (kI fun r29 h30 hw => ?_)
            obtain ⟨hw1, hw2⟩ := hw
            refine q_if_ne (tgt := 110) eX5_readLink_105 (by decide) (fun c => ?_) (fun c => ?_)
            · have hw := hw1 c
              refine q_aload_nr eX5_readLink_110 rfl ?_
              refine q_iconst (v := nI 0) eX5_readLink_111 (by decide) ?_
              refine q_iconst (v := nI 2) eX5_readLink_112 (by decide) ?_
              refine q_iconst (v := nI 0) eX5_readLink_113 (by decide) ?_
              obtain ⟨hs31, hw⟩ := hw
              refine q_callV (b := 0) (t := 0) (gX5_readNumber _ _ _ _ _ _ hw) mlX5_73 kX5_readNumber vX5_readNumber rfl hs31 ⟨rfl, rfl⟩ (by decide) rfl (Nat.le_of_ble_eq_true rfl) eX5_readLink_114 (kI fun r32 h33 hw => ?_)
              refine x_istore (ls' := [_, _, _, _, _]) eX5_readLink_117 (by decide) rfl rfl ?_
              refine q_iload eX5_readLink_119 rfl ?_
              obtain ⟨hw1, hw2⟩ := hw
              refine q_if_ge (tgt := 126) eX5_readLink_121 (by decide) (fun c => ?_) (fun c => ?_)
              · have hw := hw1 c
                refine q_aload_nr eX5_readLink_126 rfl ?_
                obtain ⟨hs34, hw⟩ := hw
                obtain ⟨a35, hr36, hw⟩ := hw
                refine q_getR flX5_41 rfl hs34 hr36 eX5_readLink_127 ?_
                refine q_iload_n eX5_readLink_130 rfl ?_
                refine q_iload_n eX5_readLink_131 rfl ?_
                refine q_iload_n eX5_readLink_132 rfl ?_
                refine q_iload eX5_readLink_133 rfl ?_
                obtain ⟨hs37, hw⟩ := hw
                refine q_callV (b := 0) (t := 0) (gX4_addLink _ _ _ _ _ _ _ hw) mlX5_120 kX4_addLink vX4_addLink rfl hs37 ⟨rfl, rfl⟩ (by decide) rfl (Nat.le_of_ble_eq_true rfl) eX5_readLink_135 (kV fun h39 hw => ?_)
                refine q_iconst (v := nI 1) eX5_readLink_138 (by decide) ?_
                exact q_retZ rfl (by decide) eX5_readLink_139 ⟨_, rfl, hw⟩
              · have hw := hw2 c
                refine q_iconst (v := nI 0) eX5_readLink_124 (by decide) ?_
                exact q_retZ rfl (by decide) eX5_readLink_125 ⟨_, rfl, hw⟩
            · have hw := hw2 c
              refine q_iconst (v := nI 0) eX5_readLink_108 (by decide) ?_
              exact q_retZ rfl (by decide) eX5_readLink_109 ⟨_, rfl, hw⟩
        · have hw := hw2 c
          refine q_iconst (v := nI 0) eX5_readLink_84 (by decide) ?_
          exact q_retZ rfl (by decide) eX5_readLink_85 ⟨_, rfl, hw⟩
    · have hw := hw2 c
      refine q_iconst (v := nI 0) eX5_readLink_42 (by decide) ?_
      exact q_retZ rfl (by decide) eX5_readLink_43 ⟨_, rfl, hw⟩
  · have hw := hw2 c
    refine q_aload_nr eX5_readLink_12 rfl ?_
    refine q_iconst (v := nI 4) eX5_readLink_13 (by decide) ?_
    refine q_callV (b := 0) (t := 0) (gX5_refuse _ _ _ _ hw) mlX5_105 kX5_refuse vX5_refuse rfl hs1 ⟨rfl, rfl⟩ (by decide) rfl (Nat.le_of_ble_eq_true rfl) eX5_readLink_14 (kI fun r40 h41 hw => ?_)
    obtain ⟨hz42, hw⟩ := hw
    exact q_retZ rfl hz42 eX5_readLink_17 ⟨_, rfl, hw⟩
def wX5_readLine_59 (Q : Int32 → MH → Prop) (x0 : Nat) (x1 : Int32) (h : MH) : Prop := (x1 = 0 → Q (nI 0) h) ∧ (¬ (x1 = 0) → hS h x0 = (1, 5) ∧ wX5_pass x0 4 h (fun r14 h15 => (¬ (r14 = 0) → hS h15 x0 = (1, 5) ∧ ∃ a17, hR h15 x0 5 = some a17 ∧ hS h15 a17 = (1, 4) ∧ ∀ h20, h20 = sI h15 a17 2 ((hI h15 a17 2 + nI 1)) → Q (nI 1) h20) ∧ (r14 = 0 → Q (nI 0) h15)))
set_option maxHeartbeats 4000000 in
set_option maxRecDepth 100000 in
theorem tX5_readLine_59 {Q : Int32 → MH → Prop} (h : MH) (x0 : Nat) (x1 : Int32) (hw : wX5_readLine_59 Q x0 x1 h) : Wm MX5_readLine 302 0 0 59 [some (.ref (x0)), some (.int (x1))] [] h (pI Q) := by
  unfold wX5_readLine_59 at hw
  refine q_iload_n eX5_readLine_59 rfl ?_
  obtain ⟨hw1, hw2⟩ := hw
  refine q_if_eq (tgt := 72) eX5_readLine_60 (by decide) (fun c => ?_) (fun c => ?_)
  · have hw := hw1 c
    refine q_iconst (v := nI 0) eX5_readLine_72 (by decide) ?_
    exact q_retZ rfl (by decide) eX5_readLine_73 ⟨_, rfl, hw⟩
  · have hw := hw2 c
    refine q_aload_nr eX5_readLine_63 rfl ?_
    refine q_ldcS (x := 4) (tx := ";") (by decide +kernel) (by decide) eX5_readLine_64 ?_
    obtain ⟨hs13, hw⟩ := hw
    refine q_callV (b := 0) (t := 0) (gX5_pass _ _ _ _ hw) mlX5_67 kX5_pass vX5_pass rfl hs13 ⟨rfl, rfl⟩ (by decide) rfl (Nat.le_of_ble_eq_true rfl) eX5_readLine_66 (kI fun r14 h15 hw => ?_)
    obtain ⟨hw1, hw2⟩ := hw
    refine q_if_ne (tgt := 74) eX5_readLine_69 (by decide) (fun c => ?_) (fun c => ?_)
    · have hw := hw1 c
      refine q_aload_nr eX5_readLine_74 rfl ?_
      obtain ⟨hs16, hw⟩ := hw
      obtain ⟨a17, hr18, hw⟩ := hw
      refine q_getR flX5_41 rfl hs16 hr18 eX5_readLine_75 ?_
      refine q_dup eX5_readLine_78 rfl ?_
      obtain ⟨hs19, hw⟩ := hw
      refine q_getI flX5_86 rfl hs19 eX5_readLine_79 ?_
      refine q_iconst (v := nI 1) eX5_readLine_82 (by decide) ?_
      refine q_iadd eX5_readLine_83 ?_
      have hw := hw _ rfl
      refine q_putI (fwX5_86 _) rfl hs19 eX5_readLine_84 ?_
      refine q_iconst (v := nI 1) eX5_readLine_87 (by decide) ?_
      exact q_retZ rfl (by decide) eX5_readLine_88 ⟨_, rfl, hw⟩
    · have hw := hw2 c
      refine q_iconst (v := nI 0) eX5_readLine_72 (by decide) ?_
      exact q_retZ rfl (by decide) eX5_readLine_73 ⟨_, rfl, hw⟩
def wX5_readLine (x0 : Nat) (h : MH) (Q : Int32 → MH → Prop) : Prop := hS h x0 = (1, 5) ∧ wX5_isAt x0 5 h (fun r2 h3 => (r2 = 0 → hS h3 x0 = (1, 5) ∧ wX5_isAt x0 8 h3 (fun r5 h6 => (r5 = 0 → hS h6 x0 = (1, 5) ∧ wX5_isAt x0 31 h6 (fun r8 h9 => (r8 = 0 → hS h9 x0 = (1, 5) ∧ wX5_refuse x0 (nI 2) h9 (fun r11 h12 => wX5_readLine_59 Q x0 r11 h12)) ∧ (¬ (r8 = 0) → hS h9 x0 = (1, 5) ∧ wX5_readLaw x0 (nI 1) h9 (fun r22 h23 => wX5_readLine_59 Q x0 r22 h23)))) ∧ (¬ (r5 = 0) → hS h6 x0 = (1, 5) ∧ wX5_readLaw x0 (nI 0) h6 (fun r25 h26 => wX5_readLine_59 Q x0 r25 h26)))) ∧ (¬ (r2 = 0) → hS h3 x0 = (1, 5) ∧ wX5_readLink x0 h3 (fun r28 h29 => wX5_readLine_59 Q x0 r28 h29)))
set_option maxHeartbeats 4000000 in
set_option maxRecDepth 100000 in
theorem gX5_readLine (x0 : Nat) (h : MH) (Q : Int32 → MH → Prop) (hw : wX5_readLine x0 h Q) : Cm MX5_readLine 302 0 0 [.ref (x0)] h (pI Q) := by
  refine cm_of [some (.ref (x0)), none] rfl pnX5 (Nat.le_of_ble_eq_true rfl) rfl ?_
  unfold wX5_readLine at hw
  refine q_aload_nr eX5_readLine_0 rfl ?_
  refine q_ldcS (x := 5) (tx := "link") (by decide +kernel) (by decide) eX5_readLine_1 ?_
  obtain ⟨hs1, hw⟩ := hw
  refine q_callV (b := 0) (t := 0) (gX5_isAt _ _ _ _ hw) mlX5_91 kX5_isAt vX5_isAt rfl hs1 ⟨rfl, rfl⟩ (by decide) rfl (Nat.le_of_ble_eq_true rfl) eX5_readLine_3 (kI fun r2 h3 hw => ?_)
  obtain ⟨hw1, hw2⟩ := hw
  refine q_if_eq (tgt := 17) eX5_readLine_6 (by decide) (fun c => ?_) (fun c => ?_)
  · have hw := hw1 c
    refine q_aload_nr eX5_readLine_17 rfl ?_
    refine q_ldcS (x := 8) (tx := "costs") (by decide +kernel) (by decide) eX5_readLine_18 ?_
    obtain ⟨hs4, hw⟩ := hw
    refine q_callV (b := 0) (t := 0) (gX5_isAt _ _ _ _ hw) mlX5_91 kX5_isAt vX5_isAt rfl hs4 ⟨rfl, rfl⟩ (by decide) rfl (Nat.le_of_ble_eq_true rfl) eX5_readLine_20 (kI fun r5 h6 hw => ?_)
    obtain ⟨hw1, hw2⟩ := hw
    refine q_if_eq (tgt := 35) eX5_readLine_23 (by decide) (fun c => ?_) (fun c => ?_)
    · have hw := hw1 c
      refine q_aload_nr eX5_readLine_35 rfl ?_
      refine q_ldcS (x := 31) (tx := "may") (by decide +kernel) (by decide) eX5_readLine_36 ?_
      obtain ⟨hs7, hw⟩ := hw
      refine q_callV (b := 0) (t := 0) (gX5_isAt _ _ _ _ hw) mlX5_91 kX5_isAt vX5_isAt rfl hs7 ⟨rfl, rfl⟩ (by decide) rfl (Nat.le_of_ble_eq_true rfl) eX5_readLine_38 (kI fun r8 h9 hw => ?_)
      obtain ⟨hw1, hw2⟩ := hw
      refine q_if_eq (tgt := 53) eX5_readLine_41 (by decide) (fun c => ?_) (fun c => ?_)
      · have hw := hw1 c
        refine q_aload_nr eX5_readLine_53 rfl ?_
        refine q_iconst (v := nI 2) eX5_readLine_54 (by decide) ?_
        obtain ⟨hs10, hw⟩ := hw
        refine q_callV (b := 0) (t := 0) (gX5_refuse _ _ _ _ hw) mlX5_105 kX5_refuse vX5_refuse rfl hs10 ⟨rfl, rfl⟩ (by decide) rfl (Nat.le_of_ble_eq_true rfl) eX5_readLine_55 (kI fun r11 h12 hw => ?_)
        refine x_istore_n (ls' := [_, _]) eX5_readLine_58 (by decide) rfl rfl ?_
        refine q_le (ls' := [some _, some _]) ⟨rfl, rfl, trivial⟩ ?_
        exact tX5_readLine_59 _ _ _ hw
      · have hw := hw2 c
        refine q_aload_nr eX5_readLine_44 rfl ?_
        refine q_iconst (v := nI 1) eX5_readLine_45 (by decide) ?_
        obtain ⟨hs21, hw⟩ := hw
        refine q_callV (b := 0) (t := 0) (gX5_readLaw _ _ _ _ hw) mlX5_99 kX5_readLaw vX5_readLaw rfl hs21 ⟨rfl, rfl⟩ (by decide) rfl (Nat.le_of_ble_eq_true rfl) eX5_readLine_46 (kI fun r22 h23 hw => ?_)
        refine x_istore_n (ls' := [_, _]) eX5_readLine_49 (by decide) rfl rfl ?_
        refine q_goto (tgt := 59) eX5_readLine_50 (by decide) ?_
        refine q_le (ls' := [some _, some _]) ⟨rfl, rfl, trivial⟩ ?_
        exact tX5_readLine_59 _ _ _ hw
    · have hw := hw2 c
      refine q_aload_nr eX5_readLine_26 rfl ?_
      refine q_iconst (v := nI 0) eX5_readLine_27 (by decide) ?_
      obtain ⟨hs24, hw⟩ := hw
      refine q_callV (b := 0) (t := 0) (gX5_readLaw _ _ _ _ hw) mlX5_99 kX5_readLaw vX5_readLaw rfl hs24 ⟨rfl, rfl⟩ (by decide) rfl (Nat.le_of_ble_eq_true rfl) eX5_readLine_28 (kI fun r25 h26 hw => ?_)
      refine x_istore_n (ls' := [_, _]) eX5_readLine_31 (by decide) rfl rfl ?_
      refine q_goto (tgt := 59) eX5_readLine_32 (by decide) ?_
      refine q_le (ls' := [some _, some _]) ⟨rfl, rfl, trivial⟩ ?_
      exact tX5_readLine_59 _ _ _ hw
  · have hw := hw2 c
    refine q_aload_nr eX5_readLine_9 rfl ?_
    obtain ⟨hs27, hw⟩ := hw
    refine q_callV (b := 0) (t := 0) (gX5_readLink _ _ _ hw) mlX5_94 kX5_readLink vX5_readLink rfl hs27 ⟨rfl, rfl⟩ (by decide) rfl (Nat.le_of_ble_eq_true rfl) eX5_readLine_10 (kI fun r28 h29 hw => ?_)
    refine x_istore_n (ls' := [_, _]) eX5_readLine_13 (by decide) rfl rfl ?_
    refine q_goto (tgt := 59) eX5_readLine_14 (by decide) ?_
    refine q_le (ls' := [some _, some _]) ⟨rfl, rfl, trivial⟩ ?_
    exact tX5_readLine_59 _ _ _ hw
