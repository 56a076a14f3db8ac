/-! ===== methods: what each needs and does (by program) ===== -/
def wX10_next_34 (Q : MH → Prop) (K8 : Nat → MH → Prop) (x0 : Nat) (h : MH) : Prop := hS h x0 = (1, 10) ∧ ∀ h7, h7 = sI h x0 6 ((hI h x0 6 + nI 1)) → K8 x0 h7
set_option maxHeartbeats 4000000 in
set_option maxRecDepth 100000 in
theorem tX10_next_34 {Q : MH → Prop} {K8 : Nat → MH → Prop} (hK8 : ∀ (h : MH) (x0 : Nat), K8 x0 h → Wm MX10_next 5 0 0 8 [some (.ref (x0)), none] [] h (pV Q)) (h : MH) (x0 : Nat) (hw : wX10_next_34 Q K8 x0 h) : Wm MX10_next 5 0 0 34 [some (.ref (x0)), none] [] h (pV Q) := by
  unfold wX10_next_34 at hw
  refine q_aload_nr eX10_next_34 rfl ?_
  refine q_dup eX10_next_35 rfl ?_
  obtain ⟨hs6, hw⟩ := hw
  refine q_getI flX10_105 rfl hs6 eX10_next_36 ?_
  refine q_iconst (v := nI 1) eX10_next_39 (by decide) ?_
  refine q_iadd eX10_next_40 ?_
  have hw := hw _ rfl
  refine q_putI (fwX10_105 _) rfl hs6 eX10_next_41 ?_
  refine q_goto (tgt := 8) eX10_next_44 (by decide) ?_
  refine q_le (ls' := [some _, none]) ⟨rfl, trivial⟩ ?_
  exact hK8 _ _ hw
def wX10_next_254 (Q : MH → Prop) : Nat → Nat → Int32 → MH → Prop
  | 0, _, _, _ => False
  | n + 1, x0, x1, h => 0 < 33 ∧ (nI (strLen.getD 0 0) ≤ x1 → Q h) ∧ (¬ (nI (strLen.getD 0 0) ≤ x1) → hS h x0 = (1, 10) ∧ wX10_see x0 (hI h x0 6) h (fun r27 h28 => 0 < 33 ∧ vp_in (x1) (strLen.getD 0 0) ∧ (¬ (r27 = strCh 0 (x1).toNatClampNeg) → wX10_next_254 Q n x0 (x1 + nI 1) h28) ∧ (r27 = strCh 0 (x1).toNatClampNeg → hS h28 x0 = (1, 10) ∧ ∀ h32, h32 = sI h28 x0 9 ((nI 30 + x1)) → wX10_next_254 Q n x0 (x1 + nI 1) h32)))
set_option maxHeartbeats 4000000 in
set_option maxRecDepth 100000 in
theorem tX10_next_254 {Q : MH → Prop} : ∀ (n : Nat) (h : MH) (x0 : Nat) (x1 : Int32), wX10_next_254 Q n x0 x1 h → Wm MX10_next 5 0 0 254 [some (.ref (x0)), some (.int (x1))] [] h (pV Q) := by
  intro n
  induction n with
  | zero => intro h x0 x1 hw; exact hw.elim
  | succ n ih =>
    intro h x0 x1 hw
    unfold wX10_next_254 at hw
    refine q_iload_n eX10_next_254 rfl ?_
    refine q_ldcS (x := 0) (tx := ";:+-*()[]=<>") (by decide +kernel) (by decide) eX10_next_255 ?_
    obtain ⟨hx25, hw⟩ := hw
    refine q_callVS (b := 0) (t := 0) hx25 (cS_length hx25) mlX10_95 kJ0_length_8abf5 vJ0_length_8abf5 rfl rfl (by decide) rfl (Nat.le_of_ble_eq_true rfl) eX10_next_257 (kI fun r h2 hq => ?_)
    obtain ⟨rfl, rfl⟩ := hq
    obtain ⟨hw1, hw2⟩ := hw
    refine q_icmp_ge (tgt := 294) eX10_next_260 (by decide) (fun c => ?_) (fun c => ?_)
    · have hw := hw1 c
      exact q_retV rfl eX10_next_294 ⟨rfl, hw⟩
    · have hw := hw2 c
      refine q_aload_nr eX10_next_263 rfl ?_
      refine q_aload_nr eX10_next_264 rfl ?_
      obtain ⟨hs26, hw⟩ := hw
      refine q_getI flX10_105 rfl hs26 eX10_next_265 ?_
      refine q_callV (b := 0) (t := 0) (gX10_see _ _ _ _ hw) mlX10_111 kX10_see vX10_see rfl hs26 ⟨rfl, rfl⟩ (by decide) rfl (Nat.le_of_ble_eq_true rfl) eX10_next_268 (kI fun r27 h28 hw => ?_)
      refine q_ldcS (x := 0) (tx := ";:+-*()[]=<>") (by decide +kernel) (by decide) eX10_next_271 ?_
      refine q_iload_n eX10_next_273 rfl ?_
      obtain ⟨hx29, hw⟩ := hw
      obtain ⟨hi30, hw⟩ := hw
      refine q_callVS (b := 0) (t := 0) hx29 (cS_charAt hx29 hi30) mlX10_101 kJ0_charAt_5068e vJ0_charAt_5068e rfl rfl (by decide) rfl (Nat.le_of_ble_eq_true rfl) eX10_next_274 (kI fun r h2 hq => ?_)
      obtain ⟨rfl, rfl⟩ := hq
      obtain ⟨hw1, hw2⟩ := hw
      refine q_icmp_ne (tgt := 288) eX10_next_277 (by decide) (fun c => ?_) (fun c => ?_)
      · have hw := hw1 c
        refine x_iinc (v := (x1 + nI 1)) (ls' := [_, _]) eX10_next_288 rfl rfl rfl rfl ?_
        refine q_goto (tgt := 254) eX10_next_291 (by decide) ?_
        refine q_le (ls' := [some _, some _]) ⟨rfl, rfl, trivial⟩ ?_
        exact ih _ _ _ hw
      · have hw := hw2 c
        refine q_aload_nr eX10_next_280 rfl ?_
        refine q_bipush (v := nI 30) eX10_next_281 (by decide) ?_
        refine q_iload_n eX10_next_283 rfl ?_
        refine q_iadd eX10_next_284 ?_
        obtain ⟨hs31, hw⟩ := hw
        have hw := hw _ rfl
        refine q_putI (fwX10_115 _) rfl hs31 eX10_next_285 ?_
        refine x_iinc (v := (x1 + nI 1)) (ls' := [_, _]) eX10_next_288 rfl rfl rfl rfl ?_
        refine q_goto (tgt := 254) eX10_next_291 (by decide) ?_
        refine q_le (ls' := [some _, some _]) ⟨rfl, rfl, trivial⟩ ?_
        exact ih _ _ _ hw
def wX10_next_196 (Q : MH → Prop) (K146 : Nat → MH → Prop) (x0 : Nat) (h : MH) : Prop := hS h x0 = (1, 10) ∧ ∀ h47, h47 = sI h x0 7 ((hI h x0 7 + nI 1)) → K146 x0 h47
set_option maxHeartbeats 4000000 in
set_option maxRecDepth 100000 in
theorem tX10_next_196 {Q : MH → Prop} {K146 : Nat → MH → Prop} (hK146 : ∀ (h : MH) (x0 : Nat), K146 x0 h → Wm MX10_next 5 0 0 146 [some (.ref (x0)), none] [] h (pV Q)) (h : MH) (x0 : Nat) (hw : wX10_next_196 Q K146 x0 h) : Wm MX10_next 5 0 0 196 [some (.ref (x0)), none] [] h (pV Q) := by
  unfold wX10_next_196 at hw
  refine q_aload_nr eX10_next_196 rfl ?_
  refine q_dup eX10_next_197 rfl ?_
  obtain ⟨hs46, hw⟩ := hw
  refine q_getI flX10_108 rfl hs46 eX10_next_198 ?_
  refine q_iconst (v := nI 1) eX10_next_201 (by decide) ?_
  refine q_iadd eX10_next_202 ?_
  have hw := hw _ rfl
  refine q_putI (fwX10_108 _) rfl hs46 eX10_next_203 ?_
  refine q_goto (tgt := 146) eX10_next_206 (by decide) ?_
  refine q_le (ls' := [some _, none]) ⟨rfl, trivial⟩ ?_
  exact hK146 _ _ hw
def wX10_next_146 (Q : MH → Prop) : Nat → Nat → MH → Prop
  | 0, _, _ => False
  | n + 1, x0, h => hS h x0 = (1, 10) ∧ wX10_see x0 (hI h x0 7) h (fun r37 h38 => wX10_isDigit r37 h38 (fun r39 h40 => (r39 = 0 → hS h40 x0 = (1, 10) ∧ ∀ h43, h43 = sI h40 x0 9 ((if (hI h40 x0 7 - hI h40 x0 6) ≤ nI 3 then nI 23 else nI 25)) → Q h43) ∧ (¬ (r39 = 0) → hS h40 x0 = (1, 10) ∧ (nI 3 ≤ (hI h40 x0 7 - hI h40 x0 6) → wX10_next_196 Q (wX10_next_146 Q n) x0 h40) ∧ (¬ (nI 3 ≤ (hI h40 x0 7 - hI h40 x0 6)) → wX10_see x0 (hI h40 x0 7) h40 (fun r48 h49 => hS h49 x0 = (1, 10) ∧ ∀ h51, h51 = sI h49 x0 10 ((((nI 10 * hI h40 x0 10) + r48) - nI 48)) → wX10_next_196 Q (wX10_next_146 Q n) x0 h51)))))
set_option maxHeartbeats 4000000 in
set_option maxRecDepth 100000 in
theorem tX10_next_146 {Q : MH → Prop} : ∀ (n : Nat) (h : MH) (x0 : Nat), wX10_next_146 Q n x0 h → Wm MX10_next 5 0 0 146 [some (.ref (x0)), none] [] h (pV Q) := by
  intro n
  induction n with
  | zero => intro h x0 hw; exact hw.elim
  | succ n ih =>
    intro h x0 hw
    unfold wX10_next_146 at hw
    refine q_aload_nr eX10_next_146 rfl ?_
    refine q_aload_nr eX10_next_147 rfl ?_
    obtain ⟨hs36, hw⟩ := hw
    refine q_getI flX10_108 rfl hs36 eX10_next_148 ?_
    refine q_callV (b := 0) (t := 0) (gX10_see _ _ _ _ hw) mlX10_111 kX10_see vX10_see rfl hs36 ⟨rfl, rfl⟩ (by decide) rfl (Nat.le_of_ble_eq_true rfl) eX10_next_151 (kI fun r37 h38 hw => ?_)
    refine q_callS (b := 0) (t := 0) (gX10_isDigit _ _ _ hw) mlX10_125 kX10_isDigit sX10_isDigit rfl (by decide) rfl (Nat.le_of_ble_eq_true rfl) eX10_next_154 (kI fun r39 h40 hw => ?_)
    obtain ⟨hw1, hw2⟩ := hw
    refine q_if_eq (tgt := 209) eX10_next_157 (by decide) (fun c => ?_) (fun c => ?_)
    · have hw := hw1 c
      refine q_aload_nr eX10_next_209 rfl ?_
      refine q_aload_nr eX10_next_210 rfl ?_
      obtain ⟨hs41, hw⟩ := hw
      refine q_getI flX10_108 rfl hs41 eX10_next_211 ?_
      refine q_aload_nr eX10_next_214 rfl ?_
      refine q_getI flX10_105 rfl hs41 eX10_next_215 ?_
      refine q_isub eX10_next_218 ?_
      refine q_iconst (v := nI 3) eX10_next_219 (by decide) ?_
      have hj44 : Wm MX10_next 5 0 0 230 [some (.ref (x0)), none] [.int ((if (hI h40 x0 7 - hI h40 x0 6) ≤ nI 3 then nI 23 else nI 25)), .ref (x0)] h40 (pV Q) := by
        have hw := hw _ rfl
        refine q_putI (fwX10_115 _) rfl hs41 eX10_next_230 ?_
        refine q_goto (tgt := 294) eX10_next_233 (by decide) ?_
        exact q_retV rfl eX10_next_294 ⟨rfl, hw⟩
      refine q_icmp_le (tgt := 228) eX10_next_220 (by decide) (fun c => ?_) (fun c => ?_)
      · refine q_bipush (v := nI 23) eX10_next_228 (by decide) ?_
        rw [if_pos c] at hj44
        exact hj44
      · refine q_bipush (v := nI 25) eX10_next_223 (by decide) ?_
        refine q_goto (tgt := 230) eX10_next_225 (by decide) ?_
        rw [if_neg c] at hj44
        exact hj44
    · have hw := hw2 c
      refine q_aload_nr eX10_next_160 rfl ?_
      obtain ⟨hs45, hw⟩ := hw
      refine q_getI flX10_108 rfl hs45 eX10_next_161 ?_
      refine q_aload_nr eX10_next_164 rfl ?_
      refine q_getI flX10_105 rfl hs45 eX10_next_165 ?_
      refine q_isub eX10_next_168 ?_
      refine q_iconst (v := nI 3) eX10_next_169 (by decide) ?_
      obtain ⟨hw1, hw2⟩ := hw
      refine q_icmp_ge (tgt := 196) eX10_next_170 (by decide) (fun c => ?_) (fun c => ?_)
      · have hw := hw1 c
        refine q_le (ls' := [some _, none]) ⟨rfl, trivial⟩ ?_
        exact tX10_next_196 ih _ _ hw
      · have hw := hw2 c
        refine q_aload_nr eX10_next_173 rfl ?_
        refine q_bipush (v := nI 10) eX10_next_174 (by decide) ?_
        refine q_aload_nr eX10_next_176 rfl ?_
        refine q_getI flX10_128 rfl hs45 eX10_next_177 ?_
        refine q_imul eX10_next_180 ?_
        refine q_aload_nr eX10_next_181 rfl ?_
        refine q_aload_nr eX10_next_182 rfl ?_
        refine q_getI flX10_108 rfl hs45 eX10_next_183 ?_
        refine q_callV (b := 0) (t := 0) (gX10_see _ _ _ _ hw) mlX10_111 kX10_see vX10_see rfl hs45 ⟨rfl, rfl⟩ (by decide) rfl (Nat.le_of_ble_eq_true rfl) eX10_next_186 (kI fun r48 h49 hw => ?_)
        refine q_iadd eX10_next_189 ?_
        refine q_bipush (v := nI 48) eX10_next_190 (by decide) ?_
        refine q_isub eX10_next_192 ?_
        obtain ⟨hs50, hw⟩ := hw
        have hw := hw _ rfl
        refine q_putI (fwX10_128 _) rfl hs50 eX10_next_193 ?_
        refine q_le (ls' := [some _, none]) ⟨rfl, trivial⟩ ?_
        exact tX10_next_196 ih _ _ hw
def wX10_next_89 (Q : MH → Prop) : Nat → Nat → MH → Prop
  | 0, _, _ => False
  | n + 1, x0, h => hS h x0 = (1, 10) ∧ wX10_see x0 (hI h x0 7) h (fun r54 h55 => wX10_isSmall r54 h55 (fun r56 h57 => (r56 = 0 → hS h57 x0 = (1, 10) ∧ wX10_keyAt x0 h57 (fun r59 h60 => hS h60 x0 = (1, 10) ∧ ∀ h62, h62 = sI h60 x0 9 (r59) → Q h62)) ∧ (¬ (r56 = 0) → hS h57 x0 = (1, 10) ∧ ∀ h64, h64 = sI h57 x0 7 ((hI h57 x0 7 + nI 1)) → wX10_next_89 Q n x0 h64)))
set_option maxHeartbeats 4000000 in
set_option maxRecDepth 100000 in
theorem tX10_next_89 {Q : MH → Prop} : ∀ (n : Nat) (h : MH) (x0 : Nat), wX10_next_89 Q n x0 h → Wm MX10_next 5 0 0 89 [some (.ref (x0)), none] [] h (pV Q) := by
  intro n
  induction n with
  | zero => intro h x0 hw; exact hw.elim
  | succ n ih =>
    intro h x0 hw
    unfold wX10_next_89 at hw
    refine q_aload_nr eX10_next_89 rfl ?_
    refine q_aload_nr eX10_next_90 rfl ?_
    obtain ⟨hs53, hw⟩ := hw
    refine q_getI flX10_108 rfl hs53 eX10_next_91 ?_
    refine q_callV (b := 0) (t := 0) (gX10_see _ _ _ _ hw) mlX10_111 kX10_see vX10_see rfl hs53 ⟨rfl, rfl⟩ (by decide) rfl (Nat.le_of_ble_eq_true rfl) eX10_next_94 (kI fun r54 h55 hw => ?_)
    refine q_callS (b := 0) (t := 0) (gX10_isSmall _ _ _ hw) mlX10_118 kX10_isSmall sX10_isSmall rfl (by decide) rfl (Nat.le_of_ble_eq_true rfl) eX10_next_97 (kI fun r56 h57 hw => ?_)
    obtain ⟨hw1, hw2⟩ := hw
    refine q_if_eq (tgt := 116) eX10_next_100 (by decide) (fun c => ?_) (fun c => ?_)
    · have hw := hw1 c
      refine q_aload_nr eX10_next_116 rfl ?_
      refine q_aload_nr eX10_next_117 rfl ?_
      obtain ⟨hs58, hw⟩ := hw
      refine q_callV (b := 0) (t := 0) (gX10_keyAt _ _ _ hw) mlX10_122 kX10_keyAt vX10_keyAt rfl hs58 ⟨rfl, rfl⟩ (by decide) rfl (Nat.le_of_ble_eq_true rfl) eX10_next_118 (kI fun r59 h60 hw => ?_)
      obtain ⟨hs61, hw⟩ := hw
      have hw := hw _ rfl
      refine q_putI (fwX10_115 _) rfl hs61 eX10_next_121 ?_
      refine q_goto (tgt := 294) eX10_next_124 (by decide) ?_
      exact q_retV rfl eX10_next_294 ⟨rfl, hw⟩
    · have hw := hw2 c
      refine q_aload_nr eX10_next_103 rfl ?_
      refine q_dup eX10_next_104 rfl ?_
      obtain ⟨hs63, hw⟩ := hw
      refine q_getI flX10_108 rfl hs63 eX10_next_105 ?_
      refine q_iconst (v := nI 1) eX10_next_108 (by decide) ?_
      refine q_iadd eX10_next_109 ?_
      have hw := hw _ rfl
      refine q_putI (fwX10_108 _) rfl hs63 eX10_next_110 ?_
      refine q_goto (tgt := 89) eX10_next_113 (by decide) ?_
      refine q_le (ls' := [some _, none]) ⟨rfl, trivial⟩ ?_
      exact ih _ _ hw
def wX10_next_8 (Q : MH → Prop) : Nat → Nat → MH → Prop
  | 0, _, _ => False
  | n + 1, x0, h => hS h x0 = (1, 10) ∧ wX10_see x0 (hI h x0 6) h (fun r4 h5 => (r4 = nI 10 → wX10_next_34 Q (wX10_next_8 Q n) x0 h5) ∧ (¬ (r4 = nI 10) → hS h5 x0 = (1, 10) ∧ wX10_see x0 (hI h5 x0 6) h5 (fun r9 h10 => (¬ (r9 = nI 32) → hS h10 x0 = (1, 10) ∧ ∀ h12, h12 = sI h10 x0 7 (hI h10 x0 6) → (hI h12 x0 6 < hI h12 x0 8 → wX10_see x0 (hI h12 x0 6) h12 (fun r13 h14 => wX10_isSmall r13 h14 (fun r15 h16 => (r15 = 0 → hS h16 x0 = (1, 10) ∧ wX10_see x0 (hI h16 x0 6) h16 (fun r18 h19 => wX10_isDigit r18 h19 (fun r20 h21 => (r20 = 0 → hS h21 x0 = (1, 10) ∧ ∀ h23, h23 = sI h21 x0 7 ((hI h21 x0 7 + nI 1)) → ∀ h24, h24 = sI h23 x0 9 (nI 25) → ∃ m33, wX10_next_254 Q m33 x0 (nI 0) h24) ∧ (¬ (r20 = 0) → hS h21 x0 = (1, 10) ∧ ∀ h35, h35 = sI h21 x0 10 (nI 0) → ∃ m52, wX10_next_146 Q m52 x0 h35)))) ∧ (¬ (r15 = 0) → ∃ m65, wX10_next_89 Q m65 x0 h16)))) ∧ (¬ (hI h12 x0 6 < hI h12 x0 8) → ∀ h66, h66 = sI h12 x0 9 (nI 24) → Q h66)) ∧ (r9 = nI 32 → wX10_next_34 Q (wX10_next_8 Q n) x0 h10))))
set_option maxHeartbeats 4000000 in
set_option maxRecDepth 100000 in
theorem tX10_next_8 {Q : MH → Prop} : ∀ (n : Nat) (h : MH) (x0 : Nat), wX10_next_8 Q n x0 h → Wm MX10_next 5 0 0 8 [some (.ref (x0)), none] [] h (pV Q) := by
  intro n
  induction n with
  | zero => intro h x0 hw; exact hw.elim
  | succ n ih =>
    intro h x0 hw
    unfold wX10_next_8 at hw
    refine q_aload_nr eX10_next_8 rfl ?_
    refine q_aload_nr eX10_next_9 rfl ?_
    obtain ⟨hs3, hw⟩ := hw
    refine q_getI flX10_105 rfl hs3 eX10_next_10 ?_
    refine q_callV (b := 0) (t := 0) (gX10_see _ _ _ _ hw) mlX10_111 kX10_see vX10_see rfl hs3 ⟨rfl, rfl⟩ (by decide) rfl (Nat.le_of_ble_eq_true rfl) eX10_next_13 (kI fun r4 h5 hw => ?_)
    refine q_bipush (v := nI 10) eX10_next_16 (by decide) ?_
    obtain ⟨hw1, hw2⟩ := hw
    refine q_icmp_eq (tgt := 34) eX10_next_18 (by decide) (fun c => ?_) (fun c => ?_)
    · have hw := hw1 c
      refine q_le (ls' := [some _, none]) ⟨rfl, trivial⟩ ?_
      exact tX10_next_34 ih _ _ hw
    · have hw := hw2 c
      refine q_aload_nr eX10_next_21 rfl ?_
      refine q_aload_nr eX10_next_22 rfl ?_
      obtain ⟨hs8, hw⟩ := hw
      refine q_getI flX10_105 rfl hs8 eX10_next_23 ?_
      refine q_callV (b := 0) (t := 0) (gX10_see _ _ _ _ hw) mlX10_111 kX10_see vX10_see rfl hs8 ⟨rfl, rfl⟩ (by decide) rfl (Nat.le_of_ble_eq_true rfl) eX10_next_26 (kI fun r9 h10 hw => ?_)
      refine q_bipush (v := nI 32) eX10_next_29 (by decide) ?_
      obtain ⟨hw1, hw2⟩ := hw
      refine q_icmp_ne (tgt := 47) eX10_next_31 (by decide) (fun c => ?_) (fun c => ?_)
      · have hw := hw1 c
        refine q_aload_nr eX10_next_47 rfl ?_
        refine q_aload_nr eX10_next_48 rfl ?_
        obtain ⟨hs11, hw⟩ := hw
        refine q_getI flX10_105 rfl hs11 eX10_next_49 ?_
        have hw := hw _ rfl
        refine q_putI (fwX10_108 _) rfl hs11 eX10_next_52 ?_
        refine q_aload_nr eX10_next_55 rfl ?_
        refine q_getI flX10_105 rfl hs11 eX10_next_56 ?_
        refine q_aload_nr eX10_next_59 rfl ?_
        refine q_getI flX10_90 rfl hs11 eX10_next_60 ?_
        obtain ⟨hw1, hw2⟩ := hw
        refine q_icmp_lt (tgt := 75) eX10_next_63 (by decide) (fun c => ?_) (fun c => ?_)
        · have hw := hw1 c
          refine q_aload_nr eX10_next_75 rfl ?_
          refine q_aload_nr eX10_next_76 rfl ?_
          refine q_getI flX10_105 rfl hs11 eX10_next_77 ?_
          refine q_callV (b := 0) (t := 0) (gX10_see _ _ _ _ hw) mlX10_111 kX10_see vX10_see rfl hs11 ⟨rfl, rfl⟩ (by decide) rfl (Nat.le_of_ble_eq_true rfl) eX10_next_80 (kI fun r13 h14 hw => ?_)
          refine q_callS (b := 0) (t := 0) (gX10_isSmall _ _ _ hw) mlX10_118 kX10_isSmall sX10_isSmall rfl (by decide) rfl (Nat.le_of_ble_eq_true rfl) eX10_next_83 (kI fun r15 h16 hw => ?_)
          obtain ⟨hw1, hw2⟩ := hw
          refine q_if_eq (tgt := 127) eX10_next_86 (by decide) (fun c => ?_) (fun c => ?_)
          · have hw := hw1 c
            refine q_aload_nr eX10_next_127 rfl ?_
            refine q_aload_nr eX10_next_128 rfl ?_
            obtain ⟨hs17, hw⟩ := hw
            refine q_getI flX10_105 rfl hs17 eX10_next_129 ?_
            refine q_callV (b := 0) (t := 0) (gX10_see _ _ _ _ hw) mlX10_111 kX10_see vX10_see rfl hs17 ⟨rfl, rfl⟩ (by decide) rfl (Nat.le_of_ble_eq_true rfl) eX10_next_132 (kI fun r18 h19 hw => ?_)
            refine q_callS (b := 0) (t := 0) (gX10_isDigit _ _ _ hw) mlX10_125 kX10_isDigit sX10_isDigit rfl (by decide) rfl (Nat.le_of_ble_eq_true rfl) eX10_next_135 (kI fun r20 h21 hw => ?_)
            obtain ⟨hw1, hw2⟩ := hw
            refine q_if_eq (tgt := 236) eX10_next_138 (by decide) (fun c => ?_) (fun c => ?_)
            · have hw := hw1 c
              refine q_aload_nr eX10_next_236 rfl ?_
              refine q_dup eX10_next_237 rfl ?_
              obtain ⟨hs22, hw⟩ := hw
              refine q_getI flX10_108 rfl hs22 eX10_next_238 ?_
              refine q_iconst (v := nI 1) eX10_next_241 (by decide) ?_
              refine q_iadd eX10_next_242 ?_
              have hw := hw _ rfl
              refine q_putI (fwX10_108 _) rfl hs22 eX10_next_243 ?_
              refine q_aload_nr eX10_next_246 rfl ?_
              refine q_bipush (v := nI 25) eX10_next_247 (by decide) ?_
              have hw := hw _ rfl
              refine q_putI (fwX10_115 _) rfl hs22 eX10_next_249 ?_
              refine q_iconst (v := nI 0) eX10_next_252 (by decide) ?_
              refine x_istore_n (ls' := [_, _]) eX10_next_253 (by decide) rfl rfl ?_
              refine q_le (ls' := [some _, some _]) ⟨rfl, rfl, trivial⟩ ?_
              obtain ⟨m33, hw⟩ := hw
              exact tX10_next_254 m33 _ _ _ hw
            · have hw := hw2 c
              refine q_aload_nr eX10_next_141 rfl ?_
              refine q_iconst (v := nI 0) eX10_next_142 (by decide) ?_
              obtain ⟨hs34, hw⟩ := hw
              have hw := hw _ rfl
              refine q_putI (fwX10_128 _) rfl hs34 eX10_next_143 ?_
              refine q_le (ls' := [some _, none]) ⟨rfl, trivial⟩ ?_
              obtain ⟨m52, hw⟩ := hw
              exact tX10_next_146 m52 _ _ hw
          · have hw := hw2 c
            refine q_le (ls' := [some _, none]) ⟨rfl, trivial⟩ ?_
            obtain ⟨m65, hw⟩ := hw
            exact tX10_next_89 m65 _ _ hw
        · have hw := hw2 c
          refine q_aload_nr eX10_next_66 rfl ?_
          refine q_bipush (v := nI 24) eX10_next_67 (by decide) ?_
          have hw := hw _ rfl
          refine q_putI (fwX10_115 _) rfl hs11 eX10_next_69 ?_
          refine q_goto (tgt := 294) eX10_next_72 (by decide) ?_
          exact q_retV rfl eX10_next_294 ⟨rfl, hw⟩
      · have hw := hw2 c
        refine q_le (ls' := [some _, none]) ⟨rfl, trivial⟩ ?_
        exact tX10_next_34 ih _ _ hw
def wX10_next (x0 : Nat) (h : MH) (Q : MH → Prop) : Prop := hS h x0 = (1, 10) ∧ ∀ h2, h2 = sI h x0 6 (hI h x0 7) → ∃ m67, wX10_next_8 Q m67 x0 h2
set_option maxHeartbeats 4000000 in
set_option maxRecDepth 100000 in
theorem gX10_next (x0 : Nat) (h : MH) (Q : MH → Prop) (hw : wX10_next x0 h Q) : Cm MX10_next 5 0 0 [.ref (x0)] h (pV Q) := by
  refine cm_of [some (.ref (x0)), none] rfl pnX10 (Nat.le_of_ble_eq_true rfl) rfl ?_
  unfold wX10_next at hw
  refine q_aload_nr eX10_next_0 rfl ?_
  refine q_aload_nr eX10_next_1 rfl ?_
  obtain ⟨hs1, hw⟩ := hw
  refine q_getI flX10_108 rfl hs1 eX10_next_2 ?_
  have hw := hw _ rfl
  refine q_putI (fwX10_105 _) rfl hs1 eX10_next_5 ?_
  refine q_le (ls' := [some _, none]) ⟨rfl, trivial⟩ ?_
  obtain ⟨m67, hw⟩ := hw
  exact tX10_next_8 m67 _ _ hw
def wX10_fails_23 (Q : MH → Prop) (x0 : Nat) (s0 : Int32) (s1 : Nat) (h : MH) : Prop := hS h s1 = (1, 10) ∧ ∀ h4, h4 = sI h s1 11 (s0) → hS h4 x0 = (1, 10) ∧ ∀ h6, h6 = sI h4 x0 12 (hI h4 x0 6) → Q h6
set_option maxHeartbeats 4000000 in
set_option maxRecDepth 100000 in
theorem tX10_fails_23 {Q : MH → Prop} (h : MH) (x0 : Nat) (s0 : Int32) (s1 : Nat) (hw : wX10_fails_23 Q x0 s0 s1 h) : Wm MX10_fails 0 0 0 23 [some (.ref (x0)), none] [.int (s0), .ref (s1)] h (pV Q) := by
  unfold wX10_fails_23 at hw
  obtain ⟨hs3, hw⟩ := hw
  have hw := hw _ rfl
  refine q_putI (fwX10_133 _) rfl hs3 eX10_fails_23 ?_
  refine q_aload_nr eX10_fails_26 rfl ?_
  refine q_aload_nr eX10_fails_27 rfl ?_
  obtain ⟨hs5, hw⟩ := hw
  refine q_getI flX10_105 rfl hs5 eX10_fails_28 ?_
  have hw := hw _ rfl
  refine q_putI (fwX10_136 _) rfl hs5 eX10_fails_31 ?_
  exact q_retV rfl eX10_fails_34 ⟨rfl, hw⟩
def wX10_fails (x0 : Nat) (x1 : Int32) (h : MH) (Q : MH → Prop) : Prop := hS h x0 = (1, 10) ∧ (hI h x0 11 = 0 → wX10_fails_23 Q x0 (if hI h x0 9 = nI 25 then nI 1 else x1) x0 h) ∧ (¬ (hI h x0 11 = 0) → Q h)
set_option maxHeartbeats 4000000 in
set_option maxRecDepth 100000 in
theorem gX10_fails (x0 : Nat) (x1 : Int32) (h : MH) (Q : MH → Prop) (hw : wX10_fails x0 x1 h Q) : Cm MX10_fails 0 0 0 [.ref (x0), .int (x1)] h (pV Q) := by
  refine cm_of [some (.ref (x0)), some (.int (x1))] rfl pnX10 (Nat.le_of_ble_eq_true rfl) rfl ?_
  unfold wX10_fails at hw
  refine q_aload_nr eX10_fails_0 rfl ?_
  obtain ⟨hs1, hw⟩ := hw
  refine q_getI flX10_133 rfl hs1 eX10_fails_1 ?_
  obtain ⟨hw1, hw2⟩ := hw
  refine q_if_eq (tgt := 8) eX10_fails_4 (by decide) (fun c => ?_) (fun c => ?_)
  · have hw := hw1 c
    refine q_aload_nr eX10_fails_8 rfl ?_
    refine q_aload_nr eX10_fails_9 rfl ?_
    refine q_getI flX10_115 rfl hs1 eX10_fails_10 ?_
    refine q_bipush (v := nI 25) eX10_fails_13 (by decide) ?_
    have hj7 : Wm MX10_fails 0 0 0 23 [some (.ref (x0)), some (.int (x1))] [.int ((if hI h x0 9 = nI 25 then nI 1 else x1)), .ref (x0)] h (pV Q) := by
      refine q_le (ls' := [some _, none]) ⟨rfl, trivial⟩ ?_
      exact tX10_fails_23 _ _ _ _ hw
    refine q_icmp_ne (tgt := 22) eX10_fails_15 (by decide) (fun c => ?_) (fun c => ?_)
    · refine q_iload_n eX10_fails_22 rfl ?_
      rw [if_neg c] at hj7
      exact hj7
    · refine q_iconst (v := nI 1) eX10_fails_18 (by decide) ?_
      refine q_goto (tgt := 23) eX10_fails_19 (by decide) ?_
      rw [if_pos c] at hj7
      exact hj7
  · have hw := hw2 c
    exact q_retV rfl eX10_fails_7 ⟨rfl, hw⟩
def wX10_is (x0 : Nat) (x1 : Int32) (h : MH) (Q : Int32 → MH → Prop) : Prop := hS h x0 = (1, 10) ∧ (¬ (hI h x0 11 = 0) → Q (nI 0) h) ∧ (hI h x0 11 = 0 → ((if hI h x0 9 = x1 then nI 1 else nI 0) = 0 ∨ (if hI h x0 9 = x1 then nI 1 else nI 0) = 1) ∧ Q ((if hI h x0 9 = x1 then nI 1 else nI 0)) h)
set_option maxHeartbeats 4000000 in
set_option maxRecDepth 100000 in
theorem gX10_is (x0 : Nat) (x1 : Int32) (h : MH) (Q : Int32 → MH → Prop) (hw : wX10_is x0 x1 h Q) : Cm MX10_is 0 0 0 [.ref (x0), .int (x1)] h (pI Q) := by
  refine cm_of [some (.ref (x0)), some (.int (x1))] rfl pnX10 (Nat.le_of_ble_eq_true rfl) rfl ?_
  unfold wX10_is at hw
  refine q_aload_nr eX10_is_0 rfl ?_
  obtain ⟨hs1, hw⟩ := hw
  refine q_getI flX10_133 rfl hs1 eX10_is_1 ?_
  obtain ⟨hw1, hw2⟩ := hw
  refine q_if_ne (tgt := 19) eX10_is_4 (by decide) (fun c => ?_) (fun c => ?_)
  · have hw := hw1 c
    refine q_iconst (v := nI 0) eX10_is_19 (by decide) ?_
    exact q_retZ rfl (by decide) eX10_is_20 ⟨_, rfl, hw⟩
  · have hw := hw2 c
    refine q_aload_nr eX10_is_7 rfl ?_
    refine q_getI flX10_115 rfl hs1 eX10_is_8 ?_
    refine q_iload_n eX10_is_11 rfl ?_
    have hj4 : Wm MX10_is 0 0 0 20 [some (.ref (x0)), some (.int (x1))] [.int ((if hI h x0 9 = x1 then nI 1 else nI 0))] h (pI Q) := by
      obtain ⟨hz3, hw⟩ := hw
      exact q_retZ rfl hz3 eX10_is_20 ⟨_, rfl, hw⟩
    refine q_icmp_ne (tgt := 19) eX10_is_12 (by decide) (fun c => ?_) (fun c => ?_)
    · refine q_iconst (v := nI 0) eX10_is_19 (by decide) ?_
      rw [if_neg c] at hj4
      exact hj4
    · refine q_iconst (v := nI 1) eX10_is_15 (by decide) ?_
      refine q_goto (tgt := 20) eX10_is_16 (by decide) ?_
      rw [if_pos c] at hj4
      exact hj4
def wX10_eats (x0 : Nat) (x1 : Int32) (h : MH) (Q : Int32 → MH → Prop) : Prop := hS h x0 = (1, 10) ∧ wX10_is x0 x1 h (fun r2 h3 => (¬ (r2 = 0) → hS h3 x0 = (1, 10) ∧ wX10_next x0 h3 (fun h6 => Q (nI 1) h6)) ∧ (r2 = 0 → Q (nI 0) h3))
set_option maxHeartbeats 4000000 in
set_option maxRecDepth 100000 in
theorem gX10_eats (x0 : Nat) (x1 : Int32) (h : MH) (Q : Int32 → MH → Prop) (hw : wX10_eats x0 x1 h Q) : Cm MX10_eats 6 0 0 [.ref (x0), .int (x1)] h (pI Q) := by
  refine cm_of [some (.ref (x0)), some (.int (x1))] rfl pnX10 (Nat.le_of_ble_eq_true rfl) rfl ?_
  unfold wX10_eats at hw
  refine q_aload_nr eX10_eats_0 rfl ?_
  refine q_iload_n eX10_eats_1 rfl ?_
  obtain ⟨hs1, hw⟩ := hw
  refine q_callV (b := 0) (t := 0) (gX10_is _ _ _ _ hw) mlX10_139 kX10_is vX10_is rfl hs1 ⟨rfl, rfl⟩ (by decide) rfl (Nat.le_of_ble_eq_true rfl) eX10_eats_2 (kI fun r2 h3 hw => ?_)
  obtain ⟨hw1, hw2⟩ := hw
  refine q_if_ne (tgt := 10) eX10_eats_5 (by decide) (fun c => ?_) (fun c => ?_)
  · have hw := hw1 c
    refine q_aload_nr eX10_eats_10 rfl ?_
    obtain ⟨hs4, hw⟩ := hw
    refine q_callV (b := 0) (t := 0) (gX10_next _ _ _ hw) mlX10_142 kX10_next vX10_next rfl hs4 ⟨rfl, rfl⟩ (by decide) rfl (Nat.le_of_ble_eq_true rfl) eX10_eats_11 (kV fun h6 hw => ?_)
    refine q_iconst (v := nI 1) eX10_eats_14 (by decide) ?_
    exact q_retZ rfl (by decide) eX10_eats_15 ⟨_, rfl, hw⟩
  · have hw := hw2 c
    refine q_iconst (v := nI 0) eX10_eats_8 (by decide) ?_
    exact q_retZ rfl (by decide) eX10_eats_9 ⟨_, rfl, hw⟩
def wX10_takes_37 (Q : Int32 → MH → Prop) (x0 : Nat) (h : MH) : Prop := hS h x0 = (1, 10) ∧ (¬ (hI h x0 11 = 0) → Q (hI h x0 10) h) ∧ (hI h x0 11 = 0 → wX10_next x0 h (fun h9 => Q (hI h x0 10) h9))
set_option maxHeartbeats 4000000 in
set_option maxRecDepth 100000 in
theorem tX10_takes_37 {Q : Int32 → MH → Prop} (h : MH) (x0 : Nat) (hw : wX10_takes_37 Q x0 h) : Wm MX10_takes 6 0 0 37 [some (.ref (x0)), none, none, none] [] h (pI Q) := by
  unfold wX10_takes_37 at hw
  refine q_aload_nr eX10_takes_37 rfl ?_
  obtain ⟨hs7, hw⟩ := hw
  refine q_getI flX10_128 rfl hs7 eX10_takes_38 ?_
  refine x_istore_n (ls' := [_, _, _, _]) eX10_takes_41 (by decide) rfl rfl ?_
  refine q_aload_nr eX10_takes_42 rfl ?_
  refine q_getI flX10_133 rfl hs7 eX10_takes_43 ?_
  obtain ⟨hw1, hw2⟩ := hw
  refine q_if_ne (tgt := 53) eX10_takes_46 (by decide) (fun c => ?_) (fun c => ?_)
  · have hw := hw1 c
    refine q_iload_n eX10_takes_53 rfl ?_
    exact q_ret rfl eX10_takes_54 ⟨_, rfl, hw⟩
  · have hw := hw2 c
    refine q_aload_nr eX10_takes_49 rfl ?_
    refine q_callV (b := 0) (t := 0) (gX10_next _ _ _ hw) mlX10_142 kX10_next vX10_next rfl hs7 ⟨rfl, rfl⟩ (by decide) rfl (Nat.le_of_ble_eq_true rfl) eX10_takes_50 (kV fun h9 hw => ?_)
    refine q_iload_n eX10_takes_53 rfl ?_
    exact q_ret rfl eX10_takes_54 ⟨_, rfl, hw⟩
def wX10_takes (x0 : Nat) (x1 : Int32) (x2 : Int32) (h : MH) (Q : Int32 → MH → Prop) : Prop := hS h x0 = (1, 10) ∧ wX10_is x0 (nI 23) h (fun r2 h3 => (¬ (r2 = 0) → hS h3 x0 = (1, 10) ∧ wX10_within ((hI h3 x0 10).toInt64) ((x1).toInt64) ((x2).toInt64) h3 (fun r5 h6 => (¬ (r5 = 0) → wX10_takes_37 Q x0 h6) ∧ (r5 = 0 → hS h6 x0 = (1, 10) ∧ wX10_fails x0 (nI 3) h6 (fun h12 => wX10_takes_37 Q x0 h12)))) ∧ (r2 = 0 → hS h3 x0 = (1, 10) ∧ wX10_fails x0 (nI 2) h3 (fun h15 => wX10_takes_37 Q x0 h15)))
set_option maxHeartbeats 4000000 in
set_option maxRecDepth 100000 in
theorem gX10_takes (x0 : Nat) (x1 : Int32) (x2 : Int32) (h : MH) (Q : Int32 → MH → Prop) (hw : wX10_takes x0 x1 x2 h Q) : Cm MX10_takes 6 0 0 [.ref (x0), .int (x1), .int (x2)] h (pI Q) := by
  refine cm_of [some (.ref (x0)), some (.int (x1)), some (.int (x2)), none] rfl pnX10 (Nat.le_of_ble_eq_true rfl) rfl ?_
  unfold wX10_takes at hw
  refine q_aload_nr eX10_takes_0 rfl ?_
  refine q_bipush (v := nI 23) eX10_takes_1 (by decide) ?_
  obtain ⟨hs1, hw⟩ := hw
  refine q_callV (b := 0) (t := 0) (gX10_is _ _ _ _ hw) mlX10_139 kX10_is vX10_is rfl hs1 ⟨rfl, rfl⟩ (by decide) rfl (Nat.le_of_ble_eq_true rfl) eX10_takes_3 (kI fun r2 h3 hw => ?_)
  obtain ⟨hw1, hw2⟩ := hw
  refine q_if_ne (tgt := 17) eX10_takes_6 (by decide) (fun c => ?_) (fun c => ?_)
  · have hw := hw1 c
    refine q_aload_nr eX10_takes_17 rfl ?_
    obtain ⟨hs4, hw⟩ := hw
    refine q_getI flX10_128 rfl hs4 eX10_takes_18 ?_
    refine q_i2l eX10_takes_21 ?_
    refine q_iload_n eX10_takes_22 rfl ?_
    refine q_i2l eX10_takes_23 ?_
    refine q_iload_n eX10_takes_24 rfl ?_
    refine q_i2l eX10_takes_25 ?_
    refine q_callS (b := 0) (t := 0) (gX10_within _ _ _ _ _ hw) mlX10_149 kX10_within sX10_within rfl (by decide) rfl (Nat.le_of_ble_eq_true rfl) eX10_takes_26 (kI fun r5 h6 hw => ?_)
    obtain ⟨hw1, hw2⟩ := hw
    refine q_if_ne (tgt := 37) eX10_takes_29 (by decide) (fun c => ?_) (fun c => ?_)
    · have hw := hw1 c
      refine q_le (ls' := [some _, none, none, none]) ⟨rfl, trivial⟩ ?_
      exact tX10_takes_37 _ _ hw
    · have hw := hw2 c
      refine q_aload_nr eX10_takes_32 rfl ?_
      refine q_iconst (v := nI 3) eX10_takes_33 (by decide) ?_
      obtain ⟨hs10, hw⟩ := hw
      refine q_callV (b := 0) (t := 0) (gX10_fails _ _ _ _ hw) mlX10_145 kX10_fails vX10_fails rfl hs10 ⟨rfl, rfl⟩ (by decide) rfl (Nat.le_of_ble_eq_true rfl) eX10_takes_34 (kV fun h12 hw => ?_)
      refine q_le (ls' := [some _, none, none, none]) ⟨rfl, trivial⟩ ?_
      exact tX10_takes_37 _ _ hw
  · have hw := hw2 c
    refine q_aload_nr eX10_takes_9 rfl ?_
    refine q_iconst (v := nI 2) eX10_takes_10 (by decide) ?_
    obtain ⟨hs13, hw⟩ := hw
    refine q_callV (b := 0) (t := 0) (gX10_fails _ _ _ _ hw) mlX10_145 kX10_fails vX10_fails rfl hs13 ⟨rfl, rfl⟩ (by decide) rfl (Nat.le_of_ble_eq_true rfl) eX10_takes_11 (kV fun h15 hw => ?_)
    refine q_goto (tgt := 37) eX10_takes_14 (by decide) ?_
    refine q_le (ls' := [some _, none, none, none]) ⟨rfl, trivial⟩ ?_
    exact tX10_takes_37 _ _ hw
def wX10_wordOf (x0 : Nat) (x1 : Int32) (h : MH) (Q : Int32 → MH → Prop) : Prop := ((x1).toInt < 2 ∨ 15 < (x1).toInt → Q ((-1 : Int32)) h) ∧ (x1 = nI 2 → Q (nI 0) h) ∧ (x1 = nI 3 → Q ((-1 : Int32)) h) ∧ (x1 = nI 4 → Q (nI 1) h) ∧ (x1 = nI 5 → Q (nI 2) h) ∧ (x1 = nI 6 → Q ((-1 : Int32)) h) ∧ (x1 = nI 7 → Q ((-1 : Int32)) h) ∧ (x1 = nI 8 → Q ((-1 : Int32)) h) ∧ (x1 = nI 9 → Q ((-1 : Int32)) h) ∧ (x1 = nI 10 → Q ((-1 : Int32)) h) ∧ (x1 = nI 11 → Q ((-1 : Int32)) h) ∧ (x1 = nI 12 → hS h x0 = (1, 10) ∧ Q ((if hI h x0 15 = 0 then nI 3 else (-1 : Int32))) h) ∧ (x1 = nI 13 → hS h x0 = (1, 10) ∧ Q ((if hI h x0 15 = 0 then nI 4 else (-1 : Int32))) h) ∧ (x1 = nI 14 → hS h x0 = (1, 10) ∧ Q ((if hI h x0 15 = nI 1 then nI 5 else (-1 : Int32))) h) ∧ (x1 = nI 15 → hS h x0 = (1, 10) ∧ Q ((if hI h x0 15 = nI 1 then nI 6 else (-1 : Int32))) h)
set_option maxHeartbeats 4000000 in
set_option maxRecDepth 100000 in
theorem gX10_wordOf (x0 : Nat) (x1 : Int32) (h : MH) (Q : Int32 → MH → Prop) (hw : wX10_wordOf x0 x1 h Q) : Cm MX10_wordOf 0 0 0 [.ref (x0), .int (x1)] h (pI Q) := by
  refine cm_of [some (.ref (x0)), some (.int (x1))] rfl pnX10 (Nat.le_of_ble_eq_true rfl) rfl ?_
  unfold wX10_wordOf at hw
  refine q_iload_n eX10_wordOf_0 rfl ?_
  obtain ⟨hw0, hw1, hw2, hw3, hw4, hw5, hw6, hw7, hw8, hw9, hw10, hw11, hw12, hw13, hw14⟩ := hw
  by_cases hx : (x1).toInt < 2 ∨ 15 < (x1).toInt
  · have hw := hw0 hx
    refine q_tabOut (tgt := 133) eX10_wordOf_1 hx (by decide) ?_
    refine q_iconst (v := (-1 : Int32)) eX10_wordOf_133 (by decide) ?_
    exact q_ret rfl eX10_wordOf_134 ⟨_, rfl, hw⟩
  · have hk : (x1).toInt = 2 ∨ (x1).toInt = 3 ∨ (x1).toInt = 4 ∨ (x1).toInt = 5 ∨ (x1).toInt = 6 ∨ (x1).toInt = 7 ∨ (x1).toInt = 8 ∨ (x1).toInt = 9 ∨ (x1).toInt = 10 ∨ (x1).toInt = 11 ∨ (x1).toInt = 12 ∨ (x1).toInt = 13 ∨ (x1).toInt = 14 ∨ (x1).toInt = 15 := by omega
    rcases hk with hk | hk | hk | hk | hk | hk | hk | hk | hk | hk | hk | hk | hk | hk
    · have hw := hw1 (x_toInt (by decide) hk)
      refine q_tabIn (off := 71) (tgt := 72) eX10_wordOf_1 (by omega) (by omega) (by rw [hk]; rfl) (by decide) ?_
      refine q_iconst (v := nI 0) eX10_wordOf_72 (by decide) ?_
      exact q_ret rfl eX10_wordOf_73 ⟨_, rfl, hw⟩
    · have hw := hw2 (x_toInt (by decide) hk)
      refine q_tabIn (off := 132) (tgt := 133) eX10_wordOf_1 (by omega) (by omega) (by rw [hk]; rfl) (by decide) ?_
      refine q_iconst (v := (-1 : Int32)) eX10_wordOf_133 (by decide) ?_
      exact q_ret rfl eX10_wordOf_134 ⟨_, rfl, hw⟩
    · have hw := hw3 (x_toInt (by decide) hk)
      refine q_tabIn (off := 73) (tgt := 74) eX10_wordOf_1 (by omega) (by omega) (by rw [hk]; rfl) (by decide) ?_
      refine q_iconst (v := nI 1) eX10_wordOf_74 (by decide) ?_
      exact q_ret rfl eX10_wordOf_75 ⟨_, rfl, hw⟩
    · have hw := hw4 (x_toInt (by decide) hk)
      refine q_tabIn (off := 75) (tgt := 76) eX10_wordOf_1 (by omega) (by omega) (by rw [hk]; rfl) (by decide) ?_
      refine q_iconst (v := nI 2) eX10_wordOf_76 (by decide) ?_
      exact q_ret rfl eX10_wordOf_77 ⟨_, rfl, hw⟩
    · have hw := hw5 (x_toInt (by decide) hk)
      refine q_tabIn (off := 132) (tgt := 133) eX10_wordOf_1 (by omega) (by omega) (by rw [hk]; rfl) (by decide) ?_
      refine q_iconst (v := (-1 : Int32)) eX10_wordOf_133 (by decide) ?_
      exact q_ret rfl eX10_wordOf_134 ⟨_, rfl, hw⟩
    · have hw := hw6 (x_toInt (by decide) hk)
      refine q_tabIn (off := 132) (tgt := 133) eX10_wordOf_1 (by omega) (by omega) (by rw [hk]; rfl) (by decide) ?_
      refine q_iconst (v := (-1 : Int32)) eX10_wordOf_133 (by decide) ?_
      exact q_ret rfl eX10_wordOf_134 ⟨_, rfl, hw⟩
    · have hw := hw7 (x_toInt (by decide) hk)
      refine q_tabIn (off := 132) (tgt := 133) eX10_wordOf_1 (by omega) (by omega) (by rw [hk]; rfl) (by decide) ?_
      refine q_iconst (v := (-1 : Int32)) eX10_wordOf_133 (by decide) ?_
      exact q_ret rfl eX10_wordOf_134 ⟨_, rfl, hw⟩
    · have hw := hw8 (x_toInt (by decide) hk)
      refine q_tabIn (off := 132) (tgt := 133) eX10_wordOf_1 (by omega) (by omega) (by rw [hk]; rfl) (by decide) ?_
      refine q_iconst (v := (-1 : Int32)) eX10_wordOf_133 (by decide) ?_
      exact q_ret rfl eX10_wordOf_134 ⟨_, rfl, hw⟩
    · have hw := hw9 (x_toInt (by decide) hk)
      refine q_tabIn (off := 132) (tgt := 133) eX10_wordOf_1 (by omega) (by omega) (by rw [hk]; rfl) (by decide) ?_
      refine q_iconst (v := (-1 : Int32)) eX10_wordOf_133 (by decide) ?_
      exact q_ret rfl eX10_wordOf_134 ⟨_, rfl, hw⟩
    · have hw := hw10 (x_toInt (by decide) hk)
      refine q_tabIn (off := 132) (tgt := 133) eX10_wordOf_1 (by omega) (by omega) (by rw [hk]; rfl) (by decide) ?_
      refine q_iconst (v := (-1 : Int32)) eX10_wordOf_133 (by decide) ?_
      exact q_ret rfl eX10_wordOf_134 ⟨_, rfl, hw⟩
    · have hw := hw11 (x_toInt (by decide) hk)
      refine q_tabIn (off := 77) (tgt := 78) eX10_wordOf_1 (by omega) (by omega) (by rw [hk]; rfl) (by decide) ?_
      refine q_aload_nr eX10_wordOf_78 rfl ?_
      obtain ⟨hs1, hw⟩ := hw
      refine q_getI flX10_153 rfl hs1 eX10_wordOf_79 ?_
      have hj3 : Wm MX10_wordOf 0 0 0 90 [some (.ref (x0)), some (.int (x1))] [.int ((if hI h x0 15 = 0 then nI 3 else (-1 : Int32)))] h (pI Q) := by
        exact q_ret rfl eX10_wordOf_90 ⟨_, rfl, hw⟩
      refine q_if_ne (tgt := 89) eX10_wordOf_82 (by decide) (fun c => ?_) (fun c => ?_)
      · refine q_iconst (v := (-1 : Int32)) eX10_wordOf_89 (by decide) ?_
        rw [if_neg c] at hj3
        exact hj3
      · refine q_iconst (v := nI 3) eX10_wordOf_85 (by decide) ?_
        refine q_goto (tgt := 90) eX10_wordOf_86 (by decide) ?_
        rw [if_pos c] at hj3
        exact hj3
    · have hw := hw12 (x_toInt (by decide) hk)
      refine q_tabIn (off := 90) (tgt := 91) eX10_wordOf_1 (by omega) (by omega) (by rw [hk]; rfl) (by decide) ?_
      refine q_aload_nr eX10_wordOf_91 rfl ?_
      obtain ⟨hs4, hw⟩ := hw
      refine q_getI flX10_153 rfl hs4 eX10_wordOf_92 ?_
      have hj6 : Wm MX10_wordOf 0 0 0 103 [some (.ref (x0)), some (.int (x1))] [.int ((if hI h x0 15 = 0 then nI 4 else (-1 : Int32)))] h (pI Q) := by
        exact q_ret rfl eX10_wordOf_103 ⟨_, rfl, hw⟩
      refine q_if_ne (tgt := 102) eX10_wordOf_95 (by decide) (fun c => ?_) (fun c => ?_)
      · refine q_iconst (v := (-1 : Int32)) eX10_wordOf_102 (by decide) ?_
        rw [if_neg c] at hj6
        exact hj6
      · refine q_iconst (v := nI 4) eX10_wordOf_98 (by decide) ?_
        refine q_goto (tgt := 103) eX10_wordOf_99 (by decide) ?_
        rw [if_pos c] at hj6
        exact hj6
    · have hw := hw13 (x_toInt (by decide) hk)
      refine q_tabIn (off := 103) (tgt := 104) eX10_wordOf_1 (by omega) (by omega) (by rw [hk]; rfl) (by decide) ?_
      refine q_aload_nr eX10_wordOf_104 rfl ?_
      obtain ⟨hs7, hw⟩ := hw
      refine q_getI flX10_153 rfl hs7 eX10_wordOf_105 ?_
      refine q_iconst (v := nI 1) eX10_wordOf_108 (by decide) ?_
      have hj9 : Wm MX10_wordOf 0 0 0 117 [some (.ref (x0)), some (.int (x1))] [.int ((if hI h x0 15 = nI 1 then nI 5 else (-1 : Int32)))] h (pI Q) := by
        exact q_ret rfl eX10_wordOf_117 ⟨_, rfl, hw⟩
      refine q_icmp_ne (tgt := 116) eX10_wordOf_109 (by decide) (fun c => ?_) (fun c => ?_)
      · refine q_iconst (v := (-1 : Int32)) eX10_wordOf_116 (by decide) ?_
        rw [if_neg c] at hj9
        exact hj9
      · refine q_iconst (v := nI 5) eX10_wordOf_112 (by decide) ?_
        refine q_goto (tgt := 117) eX10_wordOf_113 (by decide) ?_
        rw [if_pos c] at hj9
        exact hj9
    · have hw := hw14 (x_toInt (by decide) hk)
      refine q_tabIn (off := 117) (tgt := 118) eX10_wordOf_1 (by omega) (by omega) (by rw [hk]; rfl) (by decide) ?_
      refine q_aload_nr eX10_wordOf_118 rfl ?_
      obtain ⟨hs10, hw⟩ := hw
      refine q_getI flX10_153 rfl hs10 eX10_wordOf_119 ?_
      refine q_iconst (v := nI 1) eX10_wordOf_122 (by decide) ?_
      have hj12 : Wm MX10_wordOf 0 0 0 132 [some (.ref (x0)), some (.int (x1))] [.int ((if hI h x0 15 = nI 1 then nI 6 else (-1 : Int32)))] h (pI Q) := by
        exact q_ret rfl eX10_wordOf_132 ⟨_, rfl, hw⟩
      refine q_icmp_ne (tgt := 131) eX10_wordOf_123 (by decide) (fun c => ?_) (fun c => ?_)
      · refine q_iconst (v := (-1 : Int32)) eX10_wordOf_131 (by decide) ?_
        rw [if_neg c] at hj12
        exact hj12
      · refine q_bipush (v := nI 6) eX10_wordOf_126 (by decide) ?_
        refine q_goto (tgt := 132) eX10_wordOf_128 (by decide) ?_
        rw [if_pos c] at hj12
        exact hj12
def wX10_codes (x0 : Nat) (x1 : Int32) (h : MH) (Q : MH → Prop) : Prop := hS h x0 = (1, 10) ∧ (hI h x0 11 = 0 → ∃ a2, hR h x0 4 = some a2 ∧ ∃ n5, hS h a2 = (2, n5) ∧ vp_in (nI 1436) n5 ∧ vp_in ((nI 1437 + hI h a2 (nI 1436).toNatClampNeg)) n5 ∧ ∀ h8, h8 = sI h a2 ((nI 1437 + hI h a2 (nI 1436).toNatClampNeg)).toNatClampNeg (x1) → vp_in (nI 1436) n5 ∧ vp_in (nI 1436) n5 ∧ ∀ h11, h11 = sI h8 a2 (nI 1436).toNatClampNeg ((hI h8 a2 (nI 1436).toNatClampNeg + nI 1)) → Q h11) ∧ (¬ (hI h x0 11 = 0) → Q h)
set_option maxHeartbeats 4000000 in
set_option maxRecDepth 100000 in
theorem gX10_codes (x0 : Nat) (x1 : Int32) (h : MH) (Q : MH → Prop) (hw : wX10_codes x0 x1 h Q) : Cm MX10_codes 0 0 0 [.ref (x0), .int (x1)] h (pV Q) := by
  refine cm_of [some (.ref (x0)), some (.int (x1))] rfl pnX10 (Nat.le_of_ble_eq_true rfl) rfl ?_
  unfold wX10_codes at hw
  refine q_aload_nr eX10_codes_0 rfl ?_
  obtain ⟨hs1, hw⟩ := hw
  refine q_getI flX10_133 rfl hs1 eX10_codes_1 ?_
  obtain ⟨hw1, hw2⟩ := hw
  refine q_if_eq (tgt := 8) eX10_codes_4 (by decide) (fun c => ?_) (fun c => ?_)
  · have hw := hw1 c
    refine q_aload_nr eX10_codes_8 rfl ?_
    obtain ⟨a2, hr3, hw⟩ := hw
    refine q_getR flX10_24 rfl hs1 hr3 eX10_codes_9 ?_
    refine q_sipush (v := nI 1437) eX10_codes_12 (by decide) ?_
    refine q_aload_nr eX10_codes_15 rfl ?_
    refine q_getR flX10_24 rfl hs1 hr3 eX10_codes_16 ?_
    refine q_sipush (v := nI 1436) eX10_codes_19 (by decide) ?_
    obtain ⟨n5, hs4, hw⟩ := hw
    obtain ⟨hi6, hw⟩ := hw
    refine q_iald hs4 hi6 eX10_codes_22 ?_
    refine q_iadd eX10_codes_23 ?_
    refine q_iload_n eX10_codes_24 rfl ?_
    obtain ⟨hi7, hw⟩ := hw
    have hw := hw _ rfl
    refine q_iast hs4 hi7 eX10_codes_25 ?_
    refine q_aload_nr eX10_codes_26 rfl ?_
    refine q_getR flX10_24 rfl hs1 hr3 eX10_codes_27 ?_
    refine q_sipush (v := nI 1436) eX10_codes_30 (by decide) ?_
    refine q_dup2 eX10_codes_33 rfl rfl ?_
    obtain ⟨hi9, hw⟩ := hw
    refine q_iald hs4 hi9 eX10_codes_34 ?_
    refine q_iconst (v := nI 1) eX10_codes_35 (by decide) ?_
    refine q_iadd eX10_codes_36 ?_
    obtain ⟨hi10, hw⟩ := hw
    have hw := hw _ rfl
    refine q_iast hs4 hi10 eX10_codes_37 ?_
    exact q_retV rfl eX10_codes_38 ⟨rfl, hw⟩
  · have hw := hw2 c
    exact q_retV rfl eX10_codes_7 ⟨rfl, hw⟩
def wX10_goesIn_22 (Q : Int32 → MH → Prop) (x0 : Nat) (h : MH) : Prop := hS h x0 = (1, 10) ∧ ((if hI h x0 11 = 0 then nI 1 else nI 0) = 0 ∨ (if hI h x0 11 = 0 then nI 1 else nI 0) = 1) ∧ Q ((if hI h x0 11 = 0 then nI 1 else nI 0)) h
set_option maxHeartbeats 4000000 in
set_option maxRecDepth 100000 in
theorem tX10_goesIn_22 {Q : Int32 → MH → Prop} (h : MH) (x0 : Nat) (hw : wX10_goesIn_22 Q x0 h) : Wm MX10_goesIn 6 0 0 22 [some (.ref (x0)), none] [] h (pI Q) := by
  unfold wX10_goesIn_22 at hw
  refine q_aload_nr eX10_goesIn_22 rfl ?_
  obtain ⟨hs2, hw⟩ := hw
  refine q_getI flX10_133 rfl hs2 eX10_goesIn_23 ?_
  have hj5 : Wm MX10_goesIn 6 0 0 34 [some (.ref (x0)), none] [.int ((if hI h x0 11 = 0 then nI 1 else nI 0))] h (pI Q) := by
    obtain ⟨hz4, hw⟩ := hw
    exact q_retZ rfl hz4 eX10_goesIn_34 ⟨_, rfl, hw⟩
  refine q_if_ne (tgt := 33) eX10_goesIn_26 (by decide) (fun c => ?_) (fun c => ?_)
  · refine q_iconst (v := nI 0) eX10_goesIn_33 (by decide) ?_
    rw [if_neg c] at hj5
    exact hj5
  · refine q_iconst (v := nI 1) eX10_goesIn_29 (by decide) ?_
    refine q_goto (tgt := 34) eX10_goesIn_30 (by decide) ?_
    rw [if_pos c] at hj5
    exact hj5
def wX10_goesIn_11 (Q : Int32 → MH → Prop) (x0 : Nat) (h : MH) : Prop := hS h x0 = (1, 10) ∧ (¬ (hI h x0 11 = 0) → wX10_goesIn_22 Q x0 h) ∧ (hI h x0 11 = 0 → wX10_next x0 h (fun h7 => wX10_goesIn_22 Q x0 h7))
set_option maxHeartbeats 4000000 in
set_option maxRecDepth 100000 in
theorem tX10_goesIn_11 {Q : Int32 → MH → Prop} (h : MH) (x0 : Nat) (hw : wX10_goesIn_11 Q x0 h) : Wm MX10_goesIn 6 0 0 11 [some (.ref (x0)), none] [] h (pI Q) := by
  unfold wX10_goesIn_11 at hw
  refine q_aload_nr eX10_goesIn_11 rfl ?_
  obtain ⟨hs1, hw⟩ := hw
  refine q_getI flX10_133 rfl hs1 eX10_goesIn_12 ?_
  obtain ⟨hw1, hw2⟩ := hw
  refine q_if_ne (tgt := 22) eX10_goesIn_15 (by decide) (fun c => ?_) (fun c => ?_)
  · have hw := hw1 c
    refine q_le (ls' := [some _, none]) ⟨rfl, trivial⟩ ?_
    exact tX10_goesIn_22 _ _ hw
  · have hw := hw2 c
    refine q_aload_nr eX10_goesIn_18 rfl ?_
    refine q_callV (b := 0) (t := 0) (gX10_next _ _ _ hw) mlX10_142 kX10_next vX10_next rfl hs1 ⟨rfl, rfl⟩ (by decide) rfl (Nat.le_of_ble_eq_true rfl) eX10_goesIn_19 (kV fun h7 hw => ?_)
    refine q_le (ls' := [some _, none]) ⟨rfl, trivial⟩ ?_
    exact tX10_goesIn_22 _ _ hw
def wX10_goesIn (x0 : Nat) (x1 : Int32) (h : MH) (Q : Int32 → MH → Prop) : Prop := (¬ (x1 = nI 6) → wX10_goesIn_11 Q x0 h) ∧ (x1 = nI 6 → hS h x0 = (1, 10) ∧ wX10_fails x0 (nI 4) h (fun h10 => wX10_goesIn_11 Q x0 h10))
set_option maxHeartbeats 4000000 in
set_option maxRecDepth 100000 in
theorem gX10_goesIn (x0 : Nat) (x1 : Int32) (h : MH) (Q : Int32 → MH → Prop) (hw : wX10_goesIn x0 x1 h Q) : Cm MX10_goesIn 6 0 0 [.ref (x0), .int (x1)] h (pI Q) := by
  refine cm_of [some (.ref (x0)), some (.int (x1))] rfl pnX10 (Nat.le_of_ble_eq_true rfl) rfl ?_
  unfold wX10_goesIn at hw
  refine q_iload_n eX10_goesIn_0 rfl ?_
  refine q_bipush (v := nI 6) eX10_goesIn_1 (by decide) ?_
  obtain ⟨hw1, hw2⟩ := hw
  refine q_icmp_ne (tgt := 11) eX10_goesIn_3 (by decide) (fun c => ?_) (fun c => ?_)
  · have hw := hw1 c
    refine q_le (ls' := [some _, none]) ⟨rfl, trivial⟩ ?_
    exact tX10_goesIn_11 _ _ hw
  · have hw := hw2 c
    refine q_aload_nr eX10_goesIn_6 rfl ?_
    refine q_iconst (v := nI 4) eX10_goesIn_7 (by decide) ?_
    obtain ⟨hs8, hw⟩ := hw
    refine q_callV (b := 0) (t := 0) (gX10_fails _ _ _ _ hw) mlX10_145 kX10_fails vX10_fails rfl hs8 ⟨rfl, rfl⟩ (by decide) rfl (Nat.le_of_ble_eq_true rfl) eX10_goesIn_8 (kV fun h10 hw => ?_)
    refine q_le (ls' := [some _, none]) ⟨rfl, trivial⟩ ?_
    exact tX10_goesIn_11 _ _ hw
def wX10_readAtom_66 (Q : MH → Prop) (PX10_readIf : Nat → Int32 → MH → (MH → Prop) → Prop) (PX10_readSum : Nat → Int32 → MH → (MH → Prop) → Prop) (x0 : Nat) (x1 : Int32) (h : MH) : Prop := hS h x0 = (1, 10) ∧ wX10_is x0 (nI 35) h (fun r6 h7 => (r6 = 0 → hS h7 x0 = (1, 10) ∧ wX10_is x0 (nI 8) h7 (fun r9 h10 => (r9 = 0 → hS h10 x0 = (1, 10) ∧ wX10_fails x0 (nI 2) h10 (fun h13 => Q h13)) ∧ (¬ (r9 = 0) → hS h10 x0 = (1, 10) ∧ PX10_readIf x0 x1 h10 (fun h16 => Q h16)))) ∧ (¬ (r6 = 0) → hS h7 x0 = (1, 10) ∧ wX10_goesIn x0 x1 h7 (fun r18 h19 => (¬ (r18 = 0) → hS h19 x0 = (1, 10) ∧ PX10_readSum x0 (x1 + nI 1) h19 (fun h22 => hS h22 x0 = (1, 10) ∧ wX10_eats x0 (nI 36) h22 (fun r24 h25 => (¬ (r24 = 0) → Q h25) ∧ (r24 = 0 → hS h25 x0 = (1, 10) ∧ wX10_fails x0 (nI 2) h25 (fun h28 => Q h28))))) ∧ (r18 = 0 → Q h19))))
set_option maxHeartbeats 4000000 in
set_option maxRecDepth 100000 in
theorem tX10_readAtom_66 {Q : MH → Prop} {PX10_readIf : Nat → Int32 → MH → (MH → Prop) → Prop} {PX10_readSum : Nat → Int32 → MH → (MH → Prop) → Prop} {d d2 : Nat} (hd : 7 ≤ d) (hd2 : d2 < d) (hPX10_readIf : ∀ (y0 : Nat) (y1 : Int32) (h : MH) (Q : MH → Prop), PX10_readIf y0 y1 h Q → Cm MX10_readIf d2 0 0 [.ref (y0), .int (y1)] h (pV Q)) (hPX10_readSum : ∀ (y0 : Nat) (y1 : Int32) (h : MH) (Q : MH → Prop), PX10_readSum y0 y1 h Q → Cm MX10_readSum d2 0 0 [.ref (y0), .int (y1)] h (pV Q)) (h : MH) (x0 : Nat) (x1 : Int32) (hw : wX10_readAtom_66 Q PX10_readIf PX10_readSum x0 x1 h) : Wm MX10_readAtom d 0 0 66 [some (.ref (x0)), some (.int (x1))] [] h (pV Q) := by
  unfold wX10_readAtom_66 at hw
  refine q_aload_nr eX10_readAtom_66 rfl ?_
  refine q_bipush (v := nI 35) eX10_readAtom_67 (by decide) ?_
  obtain ⟨hs5, hw⟩ := hw
  refine q_callV (b := 0) (t := 0) (gX10_is _ _ _ _ hw) mlX10_139 kX10_is vX10_is rfl hs5 ⟨rfl, rfl⟩ (by omega) rfl (Nat.le_of_ble_eq_true rfl) eX10_readAtom_69 (kI fun r6 h7 hw => ?_)
  obtain ⟨hw1, hw2⟩ := hw
  refine q_if_eq (tgt := 108) eX10_readAtom_72 (by decide) (fun c => ?_) (fun c => ?_)
  · have hw := hw1 c
    refine q_aload_nr eX10_readAtom_108 rfl ?_
    refine q_bipush (v := nI 8) eX10_readAtom_109 (by decide) ?_
    obtain ⟨hs8, hw⟩ := hw
    refine q_callV (b := 0) (t := 0) (gX10_is _ _ _ _ hw) mlX10_139 kX10_is vX10_is rfl hs8 ⟨rfl, rfl⟩ (by omega) rfl (Nat.le_of_ble_eq_true rfl) eX10_readAtom_111 (kI fun r9 h10 hw => ?_)
    obtain ⟨hw1, hw2⟩ := hw
    refine q_if_eq (tgt := 125) eX10_readAtom_114 (by decide) (fun c => ?_) (fun c => ?_)
    · have hw := hw1 c
      refine q_aload_nr eX10_readAtom_125 rfl ?_
      refine q_iconst (v := nI 2) eX10_readAtom_126 (by decide) ?_
      obtain ⟨hs11, hw⟩ := hw
      refine q_callV (b := 0) (t := 0) (gX10_fails _ _ _ _ hw) mlX10_145 kX10_fails vX10_fails rfl hs11 ⟨rfl, rfl⟩ (by omega) rfl (Nat.le_of_ble_eq_true rfl) eX10_readAtom_127 (kV fun h13 hw => ?_)
      exact q_retV rfl eX10_readAtom_130 ⟨rfl, hw⟩
    · have hw := hw2 c
      refine q_aload_nr eX10_readAtom_117 rfl ?_
      refine q_iload_n eX10_readAtom_118 rfl ?_
      obtain ⟨hs14, hw⟩ := hw
      refine q_callV (b := 0) (t := 0) (hPX10_readIf _ _ _ _ hw) mlX10_171 kX10_readIf vX10_readIf rfl hs14 ⟨rfl, rfl⟩ (by omega) rfl (Nat.le_of_ble_eq_true rfl) eX10_readAtom_119 (kV fun h16 hw => ?_)
      refine q_goto (tgt := 130) eX10_readAtom_122 (by decide) ?_
      exact q_retV rfl eX10_readAtom_130 ⟨rfl, hw⟩
  · have hw := hw2 c
    refine q_aload_nr eX10_readAtom_75 rfl ?_
    refine q_iload_n eX10_readAtom_76 rfl ?_
    obtain ⟨hs17, hw⟩ := hw
    refine q_callV (b := 0) (t := 0) (gX10_goesIn _ _ _ _ hw) mlX10_162 kX10_goesIn vX10_goesIn rfl hs17 ⟨rfl, rfl⟩ (by omega) rfl (Nat.le_of_ble_eq_true rfl) eX10_readAtom_77 (kI fun r18 h19 hw => ?_)
    obtain ⟨hw1, hw2⟩ := hw
    refine q_if_ne (tgt := 84) eX10_readAtom_80 (by decide) (fun c => ?_) (fun c => ?_)
    · have hw := hw1 c
      refine q_aload_nr eX10_readAtom_84 rfl ?_
      refine q_iload_n eX10_readAtom_85 rfl ?_
      refine q_iconst (v := nI 1) eX10_readAtom_86 (by decide) ?_
      refine q_iadd eX10_readAtom_87 ?_
      obtain ⟨hs20, hw⟩ := hw
      refine q_callV (b := 0) (t := 0) (hPX10_readSum _ _ _ _ hw) mlX10_165 kX10_readSum vX10_readSum rfl hs20 ⟨rfl, rfl⟩ (by omega) rfl (Nat.le_of_ble_eq_true rfl) eX10_readAtom_88 (kV fun h22 hw => ?_)
      refine q_aload_nr eX10_readAtom_91 rfl ?_
      refine q_bipush (v := nI 36) eX10_readAtom_92 (by decide) ?_
      obtain ⟨hs23, hw⟩ := hw
      refine q_callV (b := 0) (t := 0) (gX10_eats _ _ _ _ hw) mlX10_168 kX10_eats vX10_eats rfl hs23 ⟨rfl, rfl⟩ (by omega) rfl (Nat.le_of_ble_eq_true rfl) eX10_readAtom_94 (kI fun r24 h25 hw => ?_)
      obtain ⟨hw1, hw2⟩ := hw
      refine q_if_ne (tgt := 130) eX10_readAtom_97 (by decide) (fun c => ?_) (fun c => ?_)
      · have hw := hw1 c
        exact q_retV rfl eX10_readAtom_130 ⟨rfl, hw⟩
      · have hw := hw2 c
        refine q_aload_nr eX10_readAtom_100 rfl ?_
        refine q_iconst (v := nI 2) eX10_readAtom_101 (by decide) ?_
        obtain ⟨hs26, hw⟩ := hw
        refine q_callV (b := 0) (t := 0) (gX10_fails _ _ _ _ hw) mlX10_145 kX10_fails vX10_fails rfl hs26 ⟨rfl, rfl⟩ (by omega) rfl (Nat.le_of_ble_eq_true rfl) eX10_readAtom_102 (kV fun h28 hw => ?_)
        refine q_goto (tgt := 130) eX10_readAtom_105 (by decide) ?_
        exact q_retV rfl eX10_readAtom_130 ⟨rfl, hw⟩
    · have hw := hw2 c
      exact q_retV rfl eX10_readAtom_83 ⟨rfl, hw⟩
def wX10_readAtom (PX10_readIf : Nat → Int32 → MH → (MH → Prop) → Prop) (PX10_readSum : Nat → Int32 → MH → (MH → Prop) → Prop) (x0 : Nat) (x1 : Int32) (h : MH) (Q : MH → Prop) : Prop := hS h x0 = (1, 10) ∧ wX10_is x0 (nI 23) h (fun r2 h3 => (r2 = 0 → hS h3 x0 = (1, 10) ∧ (¬ (hI h3 x0 11 = 0) → wX10_readAtom_66 Q PX10_readIf PX10_readSum x0 x1 h3) ∧ (hI h3 x0 11 = 0 → wX10_wordOf x0 (hI h3 x0 9) h3 (fun r29 h30 => (r29 = (-1 : Int32) → wX10_readAtom_66 Q PX10_readIf PX10_readSum x0 x1 h30) ∧ (¬ (r29 = (-1 : Int32)) → hS h30 x0 = (1, 10) ∧ wX10_wordOf x0 (hI h30 x0 9) h30 (fun r32 h33 => hS h33 x0 = (1, 10) ∧ wX10_codes x0 (nI 1000 + r32) h33 (fun h36 => hS h36 x0 = (1, 10) ∧ wX10_next x0 h36 (fun h39 => Q h39))))))) ∧ (¬ (r2 = 0) → hS h3 x0 = (1, 10) ∧ wX10_codes x0 (hI h3 x0 10) h3 (fun h42 => hS h42 x0 = (1, 10) ∧ wX10_next x0 h42 (fun h45 => Q h45))))
set_option maxHeartbeats 4000000 in
set_option maxRecDepth 100000 in
theorem gX10_readAtom {PX10_readIf : Nat → Int32 → MH → (MH → Prop) → Prop} {PX10_readSum : Nat → Int32 → MH → (MH → Prop) → Prop} {d d2 : Nat} (hd : 7 ≤ d) (hd2 : d2 < d) (hPX10_readIf : ∀ (y0 : Nat) (y1 : Int32) (h : MH) (Q : MH → Prop), PX10_readIf y0 y1 h Q → Cm MX10_readIf d2 0 0 [.ref (y0), .int (y1)] h (pV Q)) (hPX10_readSum : ∀ (y0 : Nat) (y1 : Int32) (h : MH) (Q : MH → Prop), PX10_readSum y0 y1 h Q → Cm MX10_readSum d2 0 0 [.ref (y0), .int (y1)] h (pV Q)) (x0 : Nat) (x1 : Int32) (h : MH) (Q : MH → Prop) (hw : wX10_readAtom PX10_readIf PX10_readSum x0 x1 h Q) : Cm MX10_readAtom d 0 0 [.ref (x0), .int (x1)] h (pV Q) := by
  refine cm_of [some (.ref (x0)), some (.int (x1))] rfl pnX10 (Nat.le_of_ble_eq_true rfl) rfl ?_
  unfold wX10_readAtom at hw
  refine q_aload_nr eX10_readAtom_0 rfl ?_
  refine q_bipush (v := nI 23) eX10_readAtom_1 (by decide) ?_
  obtain ⟨hs1, hw⟩ := hw
  refine q_callV (b := 0) (t := 0) (gX10_is _ _ _ _ hw) mlX10_139 kX10_is vX10_is rfl hs1 ⟨rfl, rfl⟩ (by omega) rfl (Nat.le_of_ble_eq_true rfl) eX10_readAtom_3 (kI fun r2 h3 hw => ?_)
  obtain ⟨hw1, hw2⟩ := hw
  refine q_if_eq (tgt := 24) eX10_readAtom_6 (by decide) (fun c => ?_) (fun c => ?_)
  · have hw := hw1 c
    refine q_aload_nr eX10_readAtom_24 rfl ?_
    obtain ⟨hs4, hw⟩ := hw
    refine q_getI flX10_133 rfl hs4 eX10_readAtom_25 ?_
    obtain ⟨hw1, hw2⟩ := hw
    refine q_if_ne (tgt := 66) eX10_readAtom_28 (by decide) (fun c => ?_) (fun c => ?_)
    · have hw := hw1 c
      refine q_le (ls' := [some _, some _]) ⟨rfl, rfl, trivial⟩ ?_
      exact tX10_readAtom_66 hd hd2 hPX10_readIf hPX10_readSum _ _ _ hw
    · have hw := hw2 c
      refine q_aload_nr eX10_readAtom_31 rfl ?_
      refine q_aload_nr eX10_readAtom_32 rfl ?_
      refine q_getI flX10_115 rfl hs4 eX10_readAtom_33 ?_
      refine q_callV (b := 0) (t := 0) (gX10_wordOf _ _ _ _ hw) mlX10_159 kX10_wordOf vX10_wordOf rfl hs4 ⟨rfl, rfl⟩ (by omega) rfl (Nat.le_of_ble_eq_true rfl) eX10_readAtom_36 (kI fun r29 h30 hw => ?_)
      refine q_iconst (v := (-1 : Int32)) eX10_readAtom_39 (by decide) ?_
      obtain ⟨hw1, hw2⟩ := hw
      refine q_icmp_eq (tgt := 66) eX10_readAtom_40 (by decide) (fun c => ?_) (fun c => ?_)
      · have hw := hw1 c
        refine q_le (ls' := [some _, some _]) ⟨rfl, rfl, trivial⟩ ?_
        exact tX10_readAtom_66 hd hd2 hPX10_readIf hPX10_readSum _ _ _ hw
      · have hw := hw2 c
        refine q_aload_nr eX10_readAtom_43 rfl ?_
        refine q_sipush (v := nI 1000) eX10_readAtom_44 (by decide) ?_
        refine q_aload_nr eX10_readAtom_47 rfl ?_
        refine q_aload_nr eX10_readAtom_48 rfl ?_
        obtain ⟨hs31, hw⟩ := hw
        refine q_getI flX10_115 rfl hs31 eX10_readAtom_49 ?_
        refine q_callV (b := 0) (t := 0) (gX10_wordOf _ _ _ _ hw) mlX10_159 kX10_wordOf vX10_wordOf rfl hs31 ⟨rfl, rfl⟩ (by omega) rfl (Nat.le_of_ble_eq_true rfl) eX10_readAtom_52 (kI fun r32 h33 hw => ?_)
        refine q_iadd eX10_readAtom_55 ?_
        obtain ⟨hs34, hw⟩ := hw
        refine q_callV (b := 0) (t := 0) (gX10_codes _ _ _ _ hw) mlX10_156 kX10_codes vX10_codes rfl hs34 ⟨rfl, rfl⟩ (by omega) rfl (Nat.le_of_ble_eq_true rfl) eX10_readAtom_56 (kV fun h36 hw => ?_)
        refine q_aload_nr eX10_readAtom_59 rfl ?_
        obtain ⟨hs37, hw⟩ := hw
        refine q_callV (b := 0) (t := 0) (gX10_next _ _ _ hw) mlX10_142 kX10_next vX10_next rfl hs37 ⟨rfl, rfl⟩ (by omega) rfl (Nat.le_of_ble_eq_true rfl) eX10_readAtom_60 (kV fun h39 hw => ?_)
        refine q_goto (tgt := 130) eX10_readAtom_63 (by decide) ?_
        exact q_retV rfl eX10_readAtom_130 ⟨rfl, hw⟩
  · have hw := hw2 c
    refine q_aload_nr eX10_readAtom_9 rfl ?_
    refine q_aload_nr eX10_readAtom_10 rfl ?_
    obtain ⟨hs40, hw⟩ := hw
    refine q_getI flX10_128 rfl hs40 eX10_readAtom_11 ?_
    refine q_callV (b := 0) (t := 0) (gX10_codes _ _ _ _ hw) mlX10_156 kX10_codes vX10_codes rfl hs40 ⟨rfl, rfl⟩ (by omega) rfl (Nat.le_of_ble_eq_true rfl) eX10_readAtom_14 (kV fun h42 hw => ?_)
    refine q_aload_nr eX10_readAtom_17 rfl ?_
    obtain ⟨hs43, hw⟩ := hw
    refine q_callV (b := 0) (t := 0) (gX10_next _ _ _ hw) mlX10_142 kX10_next vX10_next rfl hs43 ⟨rfl, rfl⟩ (by omega) rfl (Nat.le_of_ble_eq_true rfl) eX10_readAtom_18 (kV fun h45 hw => ?_)
    refine q_goto (tgt := 130) eX10_readAtom_21 (by decide) ?_
    exact q_retV rfl eX10_readAtom_130 ⟨rfl, hw⟩
def wX10_readIf_72 (Q : MH → Prop) (PX10_readSum : Nat → Int32 → MH → (MH → Prop) → Prop) (PX10_readTruth : Nat → Int32 → MH → (MH → Prop) → Prop) (x0 : Nat) (h : MH) : Prop := hS h x0 = (1, 10) ∧ wX10_codes x0 (nI 3009) h (fun h24 => Q h24)
set_option maxHeartbeats 4000000 in
set_option maxRecDepth 100000 in
theorem tX10_readIf_72 {Q : MH → Prop} {PX10_readSum : Nat → Int32 → MH → (MH → Prop) → Prop} {PX10_readTruth : Nat → Int32 → MH → (MH → Prop) → Prop} {d d2 : Nat} (hd : 7 ≤ d) (hd2 : d2 < d) (hPX10_readSum : ∀ (y0 : Nat) (y1 : Int32) (h : MH) (Q : MH → Prop), PX10_readSum y0 y1 h Q → Cm MX10_readSum d2 0 0 [.ref (y0), .int (y1)] h (pV Q)) (hPX10_readTruth : ∀ (y0 : Nat) (y1 : Int32) (h : MH) (Q : MH → Prop), PX10_readTruth y0 y1 h Q → Cm MX10_readTruth d2 0 0 [.ref (y0), .int (y1)] h (pV Q)) (h : MH) (x0 : Nat) (hw : wX10_readIf_72 Q PX10_readSum PX10_readTruth x0 h) : Wm MX10_readIf d 0 0 72 [some (.ref (x0)), none] [] h (pV Q) := by
  unfold wX10_readIf_72 at hw
  refine q_aload_nr eX10_readIf_72 rfl ?_
  refine q_sipush (v := nI 3009) eX10_readIf_73 (by decide) ?_
  obtain ⟨hs22, hw⟩ := hw
  refine q_callV (b := 0) (t := 0) (gX10_codes _ _ _ _ hw) mlX10_156 kX10_codes vX10_codes rfl hs22 ⟨rfl, rfl⟩ (by omega) rfl (Nat.le_of_ble_eq_true rfl) eX10_readIf_76 (kV fun h24 hw => ?_)
  exact q_retV rfl eX10_readIf_79 ⟨rfl, hw⟩
def wX10_readIf_51 (Q : MH → Prop) (PX10_readSum : Nat → Int32 → MH → (MH → Prop) → Prop) (PX10_readTruth : Nat → Int32 → MH → (MH → Prop) → Prop) (x0 : Nat) (x1 : Int32) (h : MH) : Prop := hS h x0 = (1, 10) ∧ PX10_readSum x0 (x1 + nI 1) h (fun h18 => hS h18 x0 = (1, 10) ∧ wX10_eats x0 (nI 11) h18 (fun r20 h21 => (¬ (r20 = 0) → wX10_readIf_72 Q PX10_readSum PX10_readTruth x0 h21) ∧ (r20 = 0 → hS h21 x0 = (1, 10) ∧ wX10_fails x0 (nI 2) h21 (fun h27 => wX10_readIf_72 Q PX10_readSum PX10_readTruth x0 h27))))
set_option maxHeartbeats 4000000 in
set_option maxRecDepth 100000 in
theorem tX10_readIf_51 {Q : MH → Prop} {PX10_readSum : Nat → Int32 → MH → (MH → Prop) → Prop} {PX10_readTruth : Nat → Int32 → MH → (MH → Prop) → Prop} {d d2 : Nat} (hd : 7 ≤ d) (hd2 : d2 < d) (hPX10_readSum : ∀ (y0 : Nat) (y1 : Int32) (h : MH) (Q : MH → Prop), PX10_readSum y0 y1 h Q → Cm MX10_readSum d2 0 0 [.ref (y0), .int (y1)] h (pV Q)) (hPX10_readTruth : ∀ (y0 : Nat) (y1 : Int32) (h : MH) (Q : MH → Prop), PX10_readTruth y0 y1 h Q → Cm MX10_readTruth d2 0 0 [.ref (y0), .int (y1)] h (pV Q)) (h : MH) (x0 : Nat) (x1 : Int32) (hw : wX10_readIf_51 Q PX10_readSum PX10_readTruth x0 x1 h) : Wm MX10_readIf d 0 0 51 [some (.ref (x0)), some (.int (x1))] [] h (pV Q) := by
  unfold wX10_readIf_51 at hw
  refine q_aload_nr eX10_readIf_51 rfl ?_
  refine q_iload_n eX10_readIf_52 rfl ?_
  refine q_iconst (v := nI 1) eX10_readIf_53 (by decide) ?_
  refine q_iadd eX10_readIf_54 ?_
  obtain ⟨hs16, hw⟩ := hw
  refine q_callV (b := 0) (t := 0) (hPX10_readSum _ _ _ _ hw) mlX10_165 kX10_readSum vX10_readSum rfl hs16 ⟨rfl, rfl⟩ (by omega) rfl (Nat.le_of_ble_eq_true rfl) eX10_readIf_55 (kV fun h18 hw => ?_)
  refine q_aload_nr eX10_readIf_58 rfl ?_
  refine q_bipush (v := nI 11) eX10_readIf_59 (by decide) ?_
  obtain ⟨hs19, hw⟩ := hw
  refine q_callV (b := 0) (t := 0) (gX10_eats _ _ _ _ hw) mlX10_168 kX10_eats vX10_eats rfl hs19 ⟨rfl, rfl⟩ (by omega) rfl (Nat.le_of_ble_eq_true rfl) eX10_readIf_61 (kI fun r20 h21 hw => ?_)
  obtain ⟨hw1, hw2⟩ := hw
  refine q_if_ne (tgt := 72) eX10_readIf_64 (by decide) (fun c => ?_) (fun c => ?_)
  · have hw := hw1 c
    refine q_le (ls' := [some _, none]) ⟨rfl, trivial⟩ ?_
    exact tX10_readIf_72 hd hd2 hPX10_readSum hPX10_readTruth _ _ hw
  · have hw := hw2 c
    refine q_aload_nr eX10_readIf_67 rfl ?_
    refine q_iconst (v := nI 2) eX10_readIf_68 (by decide) ?_
    obtain ⟨hs25, hw⟩ := hw
    refine q_callV (b := 0) (t := 0) (gX10_fails _ _ _ _ hw) mlX10_145 kX10_fails vX10_fails rfl hs25 ⟨rfl, rfl⟩ (by omega) rfl (Nat.le_of_ble_eq_true rfl) eX10_readIf_69 (kV fun h27 hw => ?_)
    refine q_le (ls' := [some _, none]) ⟨rfl, trivial⟩ ?_
    exact tX10_readIf_72 hd hd2 hPX10_readSum hPX10_readTruth _ _ hw
def wX10_readIf_30 (Q : MH → Prop) (PX10_readSum : Nat → Int32 → MH → (MH → Prop) → Prop) (PX10_readTruth : Nat → Int32 → MH → (MH → Prop) → Prop) (x0 : Nat) (x1 : Int32) (h : MH) : Prop := hS h x0 = (1, 10) ∧ PX10_readSum x0 (x1 + nI 1) h (fun h12 => hS h12 x0 = (1, 10) ∧ wX10_eats x0 (nI 10) h12 (fun r14 h15 => (¬ (r14 = 0) → wX10_readIf_51 Q PX10_readSum PX10_readTruth x0 x1 h15) ∧ (r14 = 0 → hS h15 x0 = (1, 10) ∧ wX10_fails x0 (nI 2) h15 (fun h30 => wX10_readIf_51 Q PX10_readSum PX10_readTruth x0 x1 h30))))
set_option maxHeartbeats 4000000 in
set_option maxRecDepth 100000 in
theorem tX10_readIf_30 {Q : MH → Prop} {PX10_readSum : Nat → Int32 → MH → (MH → Prop) → Prop} {PX10_readTruth : Nat → Int32 → MH → (MH → Prop) → Prop} {d d2 : Nat} (hd : 7 ≤ d) (hd2 : d2 < d) (hPX10_readSum : ∀ (y0 : Nat) (y1 : Int32) (h : MH) (Q : MH → Prop), PX10_readSum y0 y1 h Q → Cm MX10_readSum d2 0 0 [.ref (y0), .int (y1)] h (pV Q)) (hPX10_readTruth : ∀ (y0 : Nat) (y1 : Int32) (h : MH) (Q : MH → Prop), PX10_readTruth y0 y1 h Q → Cm MX10_readTruth d2 0 0 [.ref (y0), .int (y1)] h (pV Q)) (h : MH) (x0 : Nat) (x1 : Int32) (hw : wX10_readIf_30 Q PX10_readSum PX10_readTruth x0 x1 h) : Wm MX10_readIf d 0 0 30 [some (.ref (x0)), some (.int (x1))] [] h (pV Q) := by
  unfold wX10_readIf_30 at hw
  refine q_aload_nr eX10_readIf_30 rfl ?_
  refine q_iload_n eX10_readIf_31 rfl ?_
  refine q_iconst (v := nI 1) eX10_readIf_32 (by decide) ?_
  refine q_iadd eX10_readIf_33 ?_
  obtain ⟨hs10, hw⟩ := hw
  refine q_callV (b := 0) (t := 0) (hPX10_readSum _ _ _ _ hw) mlX10_165 kX10_readSum vX10_readSum rfl hs10 ⟨rfl, rfl⟩ (by omega) rfl (Nat.le_of_ble_eq_true rfl) eX10_readIf_34 (kV fun h12 hw => ?_)
  refine q_aload_nr eX10_readIf_37 rfl ?_
  refine q_bipush (v := nI 10) eX10_readIf_38 (by decide) ?_
  obtain ⟨hs13, hw⟩ := hw
  refine q_callV (b := 0) (t := 0) (gX10_eats _ _ _ _ hw) mlX10_168 kX10_eats vX10_eats rfl hs13 ⟨rfl, rfl⟩ (by omega) rfl (Nat.le_of_ble_eq_true rfl) eX10_readIf_40 (kI fun r14 h15 hw => ?_)
  obtain ⟨hw1, hw2⟩ := hw
  refine q_if_ne (tgt := 51) eX10_readIf_43 (by decide) (fun c => ?_) (fun c => ?_)
  · have hw := hw1 c
    refine q_le (ls' := [some _, some _]) ⟨rfl, rfl, trivial⟩ ?_
    exact tX10_readIf_51 hd hd2 hPX10_readSum hPX10_readTruth _ _ _ hw
  · have hw := hw2 c
    refine q_aload_nr eX10_readIf_46 rfl ?_
    refine q_iconst (v := nI 2) eX10_readIf_47 (by decide) ?_
    obtain ⟨hs28, hw⟩ := hw
    refine q_callV (b := 0) (t := 0) (gX10_fails _ _ _ _ hw) mlX10_145 kX10_fails vX10_fails rfl hs28 ⟨rfl, rfl⟩ (by omega) rfl (Nat.le_of_ble_eq_true rfl) eX10_readIf_48 (kV fun h30 hw => ?_)
    refine q_le (ls' := [some _, some _]) ⟨rfl, rfl, trivial⟩ ?_
    exact tX10_readIf_51 hd hd2 hPX10_readSum hPX10_readTruth _ _ _ hw
def wX10_readIf (PX10_readSum : Nat → Int32 → MH → (MH → Prop) → Prop) (PX10_readTruth : Nat → Int32 → MH → (MH → Prop) → Prop) (x0 : Nat) (x1 : Int32) (h : MH) (Q : MH → Prop) : Prop := hS h x0 = (1, 10) ∧ wX10_goesIn x0 x1 h (fun r2 h3 => (¬ (r2 = 0) → hS h3 x0 = (1, 10) ∧ PX10_readTruth x0 (x1 + nI 1) h3 (fun h6 => hS h6 x0 = (1, 10) ∧ wX10_eats x0 (nI 9) h6 (fun r8 h9 => (¬ (r8 = 0) → wX10_readIf_30 Q PX10_readSum PX10_readTruth x0 x1 h9) ∧ (r8 = 0 → hS h9 x0 = (1, 10) ∧ wX10_fails x0 (nI 2) h9 (fun h33 => wX10_readIf_30 Q PX10_readSum PX10_readTruth x0 x1 h33))))) ∧ (r2 = 0 → Q h3))
set_option maxHeartbeats 4000000 in
set_option maxRecDepth 100000 in
theorem gX10_readIf {PX10_readSum : Nat → Int32 → MH → (MH → Prop) → Prop} {PX10_readTruth : Nat → Int32 → MH → (MH → Prop) → Prop} {d d2 : Nat} (hd : 7 ≤ d) (hd2 : d2 < d) (hPX10_readSum : ∀ (y0 : Nat) (y1 : Int32) (h : MH) (Q : MH → Prop), PX10_readSum y0 y1 h Q → Cm MX10_readSum d2 0 0 [.ref (y0), .int (y1)] h (pV Q)) (hPX10_readTruth : ∀ (y0 : Nat) (y1 : Int32) (h : MH) (Q : MH → Prop), PX10_readTruth y0 y1 h Q → Cm MX10_readTruth d2 0 0 [.ref (y0), .int (y1)] h (pV Q)) (x0 : Nat) (x1 : Int32) (h : MH) (Q : MH → Prop) (hw : wX10_readIf PX10_readSum PX10_readTruth x0 x1 h Q) : Cm MX10_readIf d 0 0 [.ref (x0), .int (x1)] h (pV Q) := by
  refine cm_of [some (.ref (x0)), some (.int (x1))] rfl pnX10 (Nat.le_of_ble_eq_true rfl) rfl ?_
  unfold wX10_readIf at hw
  refine q_aload_nr eX10_readIf_0 rfl ?_
  refine q_iload_n eX10_readIf_1 rfl ?_
  obtain ⟨hs1, hw⟩ := hw
  refine q_callV (b := 0) (t := 0) (gX10_goesIn _ _ _ _ hw) mlX10_162 kX10_goesIn vX10_goesIn rfl hs1 ⟨rfl, rfl⟩ (by omega) rfl (Nat.le_of_ble_eq_true rfl) eX10_readIf_2 (kI fun r2 h3 hw => ?_)
  obtain ⟨hw1, hw2⟩ := hw
  refine q_if_ne (tgt := 9) eX10_readIf_5 (by decide) (fun c => ?_) (fun c => ?_)
  · have hw := hw1 c
    refine q_aload_nr eX10_readIf_9 rfl ?_
    refine q_iload_n eX10_readIf_10 rfl ?_
    refine q_iconst (v := nI 1) eX10_readIf_11 (by decide) ?_
    refine q_iadd eX10_readIf_12 ?_
    obtain ⟨hs4, hw⟩ := hw
    refine q_callV (b := 0) (t := 0) (hPX10_readTruth _ _ _ _ hw) mlX10_174 kX10_readTruth vX10_readTruth rfl hs4 ⟨rfl, rfl⟩ (by omega) rfl (Nat.le_of_ble_eq_true rfl) eX10_readIf_13 (kV fun h6 hw => ?_)
    refine q_aload_nr eX10_readIf_16 rfl ?_
    refine q_bipush (v := nI 9) eX10_readIf_17 (by decide) ?_
    obtain ⟨hs7, hw⟩ := hw
    refine q_callV (b := 0) (t := 0) (gX10_eats _ _ _ _ hw) mlX10_168 kX10_eats vX10_eats rfl hs7 ⟨rfl, rfl⟩ (by omega) rfl (Nat.le_of_ble_eq_true rfl) eX10_readIf_19 (kI fun r8 h9 hw => ?_)
    obtain ⟨hw1, hw2⟩ := hw
    refine q_if_ne (tgt := 30) eX10_readIf_22 (by decide) (fun c => ?_) (fun c => ?_)
    · have hw := hw1 c
      refine q_le (ls' := [some _, some _]) ⟨rfl, rfl, trivial⟩ ?_
      exact tX10_readIf_30 hd hd2 hPX10_readSum hPX10_readTruth _ _ _ hw
    · have hw := hw2 c
      refine q_aload_nr eX10_readIf_25 rfl ?_
      refine q_iconst (v := nI 2) eX10_readIf_26 (by decide) ?_
      obtain ⟨hs31, hw⟩ := hw
      refine q_callV (b := 0) (t := 0) (gX10_fails _ _ _ _ hw) mlX10_145 kX10_fails vX10_fails rfl hs31 ⟨rfl, rfl⟩ (by omega) rfl (Nat.le_of_ble_eq_true rfl) eX10_readIf_27 (kV fun h33 hw => ?_)
      refine q_le (ls' := [some _, some _]) ⟨rfl, rfl, trivial⟩ ?_
      exact tX10_readIf_30 hd hd2 hPX10_readSum hPX10_readTruth _ _ _ hw
  · have hw := hw2 c
    exact q_retV rfl eX10_readIf_8 ⟨rfl, hw⟩
def wX10_readTerm_5 (Q : MH → Prop) (PX10_readAtom : Nat → Int32 → MH → (MH → Prop) → Prop) : Nat → Nat → Int32 → MH → Prop
  | 0, _, _, _ => False
  | n + 1, x0, x1, h => hS h x0 = (1, 10) ∧ wX10_eats x0 (nI 34) h (fun r5 h6 => (r5 = 0 → Q h6) ∧ (¬ (r5 = 0) → hS h6 x0 = (1, 10) ∧ PX10_readAtom x0 x1 h6 (fun h9 => hS h9 x0 = (1, 10) ∧ wX10_codes x0 (nI 3002) h9 (fun h12 => wX10_readTerm_5 Q PX10_readAtom n x0 x1 h12))))
set_option maxHeartbeats 4000000 in
set_option maxRecDepth 100000 in
theorem tX10_readTerm_5 {Q : MH → Prop} {PX10_readAtom : Nat → Int32 → MH → (MH → Prop) → Prop} {d d2 : Nat} (hd : 7 ≤ d) (hd2 : d2 < d) (hPX10_readAtom : ∀ (y0 : Nat) (y1 : Int32) (h : MH) (Q : MH → Prop), PX10_readAtom y0 y1 h Q → Cm MX10_readAtom d2 0 0 [.ref (y0), .int (y1)] h (pV Q)) : ∀ (n : Nat) (h : MH) (x0 : Nat) (x1 : Int32), wX10_readTerm_5 Q PX10_readAtom n x0 x1 h → Wm MX10_readTerm d 0 0 5 [some (.ref (x0)), some (.int (x1))] [] h (pV Q) := by
  intro n
  induction n with
  | zero => intro h x0 x1 hw; exact hw.elim
  | succ n ih =>
    intro h x0 x1 hw
    unfold wX10_readTerm_5 at hw
    refine q_aload_nr eX10_readTerm_5 rfl ?_
    refine q_bipush (v := nI 34) eX10_readTerm_6 (by decide) ?_
    obtain ⟨hs4, hw⟩ := hw
    refine q_callV (b := 0) (t := 0) (gX10_eats _ _ _ _ hw) mlX10_168 kX10_eats vX10_eats rfl hs4 ⟨rfl, rfl⟩ (by omega) rfl (Nat.le_of_ble_eq_true rfl) eX10_readTerm_8 (kI fun r5 h6 hw => ?_)
    obtain ⟨hw1, hw2⟩ := hw
    refine q_if_eq (tgt := 29) eX10_readTerm_11 (by decide) (fun c => ?_) (fun c => ?_)
    · have hw := hw1 c
      exact q_retV rfl eX10_readTerm_29 ⟨rfl, hw⟩
    · have hw := hw2 c
      refine q_aload_nr eX10_readTerm_14 rfl ?_
      refine q_iload_n eX10_readTerm_15 rfl ?_
      obtain ⟨hs7, hw⟩ := hw
      refine q_callV (b := 0) (t := 0) (hPX10_readAtom _ _ _ _ hw) mlX10_177 kX10_readAtom vX10_readAtom rfl hs7 ⟨rfl, rfl⟩ (by omega) rfl (Nat.le_of_ble_eq_true rfl) eX10_readTerm_16 (kV fun h9 hw => ?_)
      refine q_aload_nr eX10_readTerm_19 rfl ?_
      refine q_sipush (v := nI 3002) eX10_readTerm_20 (by decide) ?_
      obtain ⟨hs10, hw⟩ := hw
      refine q_callV (b := 0) (t := 0) (gX10_codes _ _ _ _ hw) mlX10_156 kX10_codes vX10_codes rfl hs10 ⟨rfl, rfl⟩ (by omega) rfl (Nat.le_of_ble_eq_true rfl) eX10_readTerm_23 (kV fun h12 hw => ?_)
      refine q_goto (tgt := 5) eX10_readTerm_26 (by decide) ?_
      refine q_le (ls' := [some _, some _]) ⟨rfl, rfl, trivial⟩ ?_
      exact ih _ _ _ hw
def wX10_readTerm (PX10_readAtom : Nat → Int32 → MH → (MH → Prop) → Prop) (x0 : Nat) (x1 : Int32) (h : MH) (Q : MH → Prop) : Prop := hS h x0 = (1, 10) ∧ PX10_readAtom x0 x1 h (fun h3 => ∃ m13, wX10_readTerm_5 Q PX10_readAtom m13 x0 x1 h3)
set_option maxHeartbeats 4000000 in
set_option maxRecDepth 100000 in
theorem gX10_readTerm {PX10_readAtom : Nat → Int32 → MH → (MH → Prop) → Prop} {d d2 : Nat} (hd : 7 ≤ d) (hd2 : d2 < d) (hPX10_readAtom : ∀ (y0 : Nat) (y1 : Int32) (h : MH) (Q : MH → Prop), PX10_readAtom y0 y1 h Q → Cm MX10_readAtom d2 0 0 [.ref (y0), .int (y1)] h (pV Q)) (x0 : Nat) (x1 : Int32) (h : MH) (Q : MH → Prop) (hw : wX10_readTerm PX10_readAtom x0 x1 h Q) : Cm MX10_readTerm d 0 0 [.ref (x0), .int (x1)] h (pV Q) := by
  refine cm_of [some (.ref (x0)), some (.int (x1))] rfl pnX10 (Nat.le_of_ble_eq_true rfl) rfl ?_
  unfold wX10_readTerm at hw
  refine q_aload_nr eX10_readTerm_0 rfl ?_
  refine q_iload_n eX10_readTerm_1 rfl ?_
  obtain ⟨hs1, hw⟩ := hw
  refine q_callV (b := 0) (t := 0) (hPX10_readAtom _ _ _ _ hw) mlX10_177 kX10_readAtom vX10_readAtom rfl hs1 ⟨rfl, rfl⟩ (by omega) rfl (Nat.le_of_ble_eq_true rfl) eX10_readTerm_2 (kV fun h3 hw => ?_)
  refine q_le (ls' := [some _, some _]) ⟨rfl, rfl, trivial⟩ ?_
  obtain ⟨m13, hw⟩ := hw
  exact tX10_readTerm_5 hd hd2 hPX10_readAtom m13 _ _ _ hw
def wX10_readSum_41 (Q : MH → Prop) (PX10_readTerm : Nat → Int32 → MH → (MH → Prop) → Prop) (K5 : Nat → Int32 → MH → Prop) (x0 : Nat) (x1 : Int32) (s0 : Int32) (h : MH) : Prop := hS h x0 = (1, 10) ∧ wX10_next x0 h (fun h11 => hS h11 x0 = (1, 10) ∧ PX10_readTerm x0 x1 h11 (fun h14 => hS h14 x0 = (1, 10) ∧ wX10_codes x0 s0 h14 (fun h17 => K5 x0 x1 h17)))
set_option maxHeartbeats 4000000 in
set_option maxRecDepth 100000 in
theorem tX10_readSum_41 {Q : MH → Prop} {PX10_readTerm : Nat → Int32 → MH → (MH → Prop) → Prop} {K5 : Nat → Int32 → MH → Prop} {d d2 : Nat} (hd : 6 ≤ d) (hd2 : d2 < d) (hPX10_readTerm : ∀ (y0 : Nat) (y1 : Int32) (h : MH) (Q : MH → Prop), PX10_readTerm y0 y1 h Q → Cm MX10_readTerm d2 0 0 [.ref (y0), .int (y1)] h (pV Q)) (hK5 : ∀ (h : MH) (x0 : Nat) (x1 : Int32), K5 x0 x1 h → Wm MX10_readSum d 0 0 5 [some (.ref (x0)), some (.int (x1)), none] [] h (pV Q)) (h : MH) (x0 : Nat) (x1 : Int32) (s0 : Int32) (hw : wX10_readSum_41 Q PX10_readTerm K5 x0 x1 s0 h) : Wm MX10_readSum d 0 0 41 [some (.ref (x0)), some (.int (x1)), none] [.int (s0)] h (pV Q) := by
  unfold wX10_readSum_41 at hw
  refine x_istore_n (ls' := [_, _, _]) eX10_readSum_41 (by decide) rfl rfl ?_
  refine q_aload_nr eX10_readSum_42 rfl ?_
  obtain ⟨hs9, hw⟩ := hw
  refine q_callV (b := 0) (t := 0) (gX10_next _ _ _ hw) mlX10_142 kX10_next vX10_next rfl hs9 ⟨rfl, rfl⟩ (by omega) rfl (Nat.le_of_ble_eq_true rfl) eX10_readSum_43 (kV fun h11 hw => ?_)
  refine q_aload_nr eX10_readSum_46 rfl ?_
  refine q_iload_n eX10_readSum_47 rfl ?_
  obtain ⟨hs12, hw⟩ := hw
  refine q_callV (b := 0) (t := 0) (hPX10_readTerm _ _ _ _ hw) mlX10_180 kX10_readTerm vX10_readTerm rfl hs12 ⟨rfl, rfl⟩ (by omega) rfl (Nat.le_of_ble_eq_true rfl) eX10_readSum_48 (kV fun h14 hw => ?_)
  refine q_aload_nr eX10_readSum_51 rfl ?_
  refine q_iload_n eX10_readSum_52 rfl ?_
  obtain ⟨hs15, hw⟩ := hw
  refine q_callV (b := 0) (t := 0) (gX10_codes _ _ _ _ hw) mlX10_156 kX10_codes vX10_codes rfl hs15 ⟨rfl, rfl⟩ (by omega) rfl (Nat.le_of_ble_eq_true rfl) eX10_readSum_53 (kV fun h17 hw => ?_)
  refine q_goto (tgt := 5) eX10_readSum_56 (by decide) ?_
  refine q_le (ls' := [some _, some _, none]) ⟨rfl, rfl, trivial⟩ ?_
  exact hK5 _ _ _ hw
def wX10_readSum_23 (Q : MH → Prop) (PX10_readTerm : Nat → Int32 → MH → (MH → Prop) → Prop) (K5 : Nat → Int32 → MH → Prop) (x0 : Nat) (x1 : Int32) (h : MH) : Prop := hS h x0 = (1, 10) ∧ wX10_readSum_41 Q PX10_readTerm K5 x0 x1 (if hI h x0 9 = nI 32 then nI 3000 else nI 3001) h
set_option maxHeartbeats 4000000 in
set_option maxRecDepth 100000 in
theorem tX10_readSum_23 {Q : MH → Prop} {PX10_readTerm : Nat → Int32 → MH → (MH → Prop) → Prop} {K5 : Nat → Int32 → MH → Prop} {d d2 : Nat} (hd : 6 ≤ d) (hd2 : d2 < d) (hPX10_readTerm : ∀ (y0 : Nat) (y1 : Int32) (h : MH) (Q : MH → Prop), PX10_readTerm y0 y1 h Q → Cm MX10_readTerm d2 0 0 [.ref (y0), .int (y1)] h (pV Q)) (hK5 : ∀ (h : MH) (x0 : Nat) (x1 : Int32), K5 x0 x1 h → Wm MX10_readSum d 0 0 5 [some (.ref (x0)), some (.int (x1)), none] [] h (pV Q)) (h : MH) (x0 : Nat) (x1 : Int32) (hw : wX10_readSum_23 Q PX10_readTerm K5 x0 x1 h) : Wm MX10_readSum d 0 0 23 [some (.ref (x0)), some (.int (x1)), none] [] h (pV Q) := by
  unfold wX10_readSum_23 at hw
  refine q_aload_nr eX10_readSum_23 rfl ?_
  obtain ⟨hs7, hw⟩ := hw
  refine q_getI flX10_115 rfl hs7 eX10_readSum_24 ?_
  refine q_bipush (v := nI 32) eX10_readSum_27 (by decide) ?_
  have hj18 : Wm MX10_readSum d 0 0 41 [some (.ref (x0)), some (.int (x1)), none] [.int ((if hI h x0 9 = nI 32 then nI 3000 else nI 3001))] h (pV Q) := by
    refine q_le (ls' := [some _, some _, none]) ⟨rfl, rfl, trivial⟩ ?_
    exact tX10_readSum_41 hd hd2 hPX10_readTerm hK5 _ _ _ _ hw
  refine q_icmp_ne (tgt := 38) eX10_readSum_29 (by decide) (fun c => ?_) (fun c => ?_)
  · refine q_sipush (v := nI 3001) eX10_readSum_38 (by decide) ?_
    rw [if_neg c] at hj18
    exact hj18
  · refine q_sipush (v := nI 3000) eX10_readSum_32 (by decide) ?_
    refine q_goto (tgt := 41) eX10_readSum_35 (by decide) ?_
    rw [if_pos c] at hj18
    exact hj18
def wX10_readSum_5 (Q : MH → Prop) (PX10_readTerm : Nat → Int32 → MH → (MH → Prop) → Prop) : Nat → Nat → Int32 → MH → Prop
  | 0, _, _, _ => False
  | n + 1, x0, x1, h => hS h x0 = (1, 10) ∧ wX10_is x0 (nI 32) h (fun r5 h6 => (¬ (r5 = 0) → wX10_readSum_23 Q PX10_readTerm (wX10_readSum_5 Q PX10_readTerm n) x0 x1 h6) ∧ (r5 = 0 → hS h6 x0 = (1, 10) ∧ wX10_is x0 (nI 33) h6 (fun r20 h21 => (r20 = 0 → Q h21) ∧ (¬ (r20 = 0) → wX10_readSum_23 Q PX10_readTerm (wX10_readSum_5 Q PX10_readTerm n) x0 x1 h21))))
set_option maxHeartbeats 4000000 in
set_option maxRecDepth 100000 in
theorem tX10_readSum_5 {Q : MH → Prop} {PX10_readTerm : Nat → Int32 → MH → (MH → Prop) → Prop} {d d2 : Nat} (hd : 6 ≤ d) (hd2 : d2 < d) (hPX10_readTerm : ∀ (y0 : Nat) (y1 : Int32) (h : MH) (Q : MH → Prop), PX10_readTerm y0 y1 h Q → Cm MX10_readTerm d2 0 0 [.ref (y0), .int (y1)] h (pV Q)) : ∀ (n : Nat) (h : MH) (x0 : Nat) (x1 : Int32), wX10_readSum_5 Q PX10_readTerm n x0 x1 h → Wm MX10_readSum d 0 0 5 [some (.ref (x0)), some (.int (x1)), none] [] h (pV Q) := by
  intro n
  induction n with
  | zero => intro h x0 x1 hw; exact hw.elim
  | succ n ih =>
    intro h x0 x1 hw
    unfold wX10_readSum_5 at hw
    refine q_aload_nr eX10_readSum_5 rfl ?_
    refine q_bipush (v := nI 32) eX10_readSum_6 (by decide) ?_
    obtain ⟨hs4, hw⟩ := hw
    refine q_callV (b := 0) (t := 0) (gX10_is _ _ _ _ hw) mlX10_139 kX10_is vX10_is rfl hs4 ⟨rfl, rfl⟩ (by omega) rfl (Nat.le_of_ble_eq_true rfl) eX10_readSum_8 (kI fun r5 h6 hw => ?_)
    obtain ⟨hw1, hw2⟩ := hw
    refine q_if_ne (tgt := 23) eX10_readSum_11 (by decide) (fun c => ?_) (fun c => ?_)
    · have hw := hw1 c
      refine q_le (ls' := [some _, some _, none]) ⟨rfl, rfl, trivial⟩ ?_
      exact tX10_readSum_23 hd hd2 hPX10_readTerm ih _ _ _ hw
    · have hw := hw2 c
      refine q_aload_nr eX10_readSum_14 rfl ?_
      refine q_bipush (v := nI 33) eX10_readSum_15 (by decide) ?_
      obtain ⟨hs19, hw⟩ := hw
      refine q_callV (b := 0) (t := 0) (gX10_is _ _ _ _ hw) mlX10_139 kX10_is vX10_is rfl hs19 ⟨rfl, rfl⟩ (by omega) rfl (Nat.le_of_ble_eq_true rfl) eX10_readSum_17 (kI fun r20 h21 hw => ?_)
      obtain ⟨hw1, hw2⟩ := hw
      refine q_if_eq (tgt := 59) eX10_readSum_20 (by decide) (fun c => ?_) (fun c => ?_)
      · have hw := hw1 c
        exact q_retV rfl eX10_readSum_59 ⟨rfl, hw⟩
      · have hw := hw2 c
        refine q_le (ls' := [some _, some _, none]) ⟨rfl, rfl, trivial⟩ ?_
        exact tX10_readSum_23 hd hd2 hPX10_readTerm ih _ _ _ hw
def wX10_readSum (PX10_readTerm : Nat → Int32 → MH → (MH → Prop) → Prop) (x0 : Nat) (x1 : Int32) (h : MH) (Q : MH → Prop) : Prop := hS h x0 = (1, 10) ∧ PX10_readTerm x0 x1 h (fun h3 => ∃ m22, wX10_readSum_5 Q PX10_readTerm m22 x0 x1 h3)
set_option maxHeartbeats 4000000 in
set_option maxRecDepth 100000 in
theorem gX10_readSum {PX10_readTerm : Nat → Int32 → MH → (MH → Prop) → Prop} {d d2 : Nat} (hd : 6 ≤ d) (hd2 : d2 < d) (hPX10_readTerm : ∀ (y0 : Nat) (y1 : Int32) (h : MH) (Q : MH → Prop), PX10_readTerm y0 y1 h Q → Cm MX10_readTerm d2 0 0 [.ref (y0), .int (y1)] h (pV Q)) (x0 : Nat) (x1 : Int32) (h : MH) (Q : MH → Prop) (hw : wX10_readSum PX10_readTerm x0 x1 h Q) : Cm MX10_readSum d 0 0 [.ref (x0), .int (x1)] h (pV Q) := by
  refine cm_of [some (.ref (x0)), some (.int (x1)), none] rfl pnX10 (Nat.le_of_ble_eq_true rfl) rfl ?_
  unfold wX10_readSum at hw
  refine q_aload_nr eX10_readSum_0 rfl ?_
  refine q_iload_n eX10_readSum_1 rfl ?_
  obtain ⟨hs1, hw⟩ := hw
  refine q_callV (b := 0) (t := 0) (hPX10_readTerm _ _ _ _ hw) mlX10_180 kX10_readTerm vX10_readTerm rfl hs1 ⟨rfl, rfl⟩ (by omega) rfl (Nat.le_of_ble_eq_true rfl) eX10_readSum_2 (kV fun h3 hw => ?_)
  refine q_le (ls' := [some _, some _, none]) ⟨rfl, rfl, trivial⟩ ?_
  obtain ⟨m22, hw⟩ := hw
  exact tX10_readSum_5 hd hd2 hPX10_readTerm m22 _ _ _ hw
def wX10_readUnit_151 (Q : MH → Prop) (PX10_readSum : Nat → Int32 → MH → (MH → Prop) → Prop) (PX10_readUnit : Nat → Int32 → MH → (MH → Prop) → Prop) (PX10_readTruth : Nat → Int32 → MH → (MH → Prop) → Prop) (x0 : Nat) (x1 : Int32) (x2 : Int32) (h : MH) : Prop := hS h x0 = (1, 10) ∧ PX10_readSum x0 x1 h (fun h25 => hS h25 x0 = (1, 10) ∧ wX10_codes x0 x2 h25 (fun h28 => Q h28))
set_option maxHeartbeats 4000000 in
set_option maxRecDepth 100000 in
theorem tX10_readUnit_151 {Q : MH → Prop} {PX10_readSum : Nat → Int32 → MH → (MH → Prop) → Prop} {PX10_readUnit : Nat → Int32 → MH → (MH → Prop) → Prop} {PX10_readTruth : Nat → Int32 → MH → (MH → Prop) → Prop} {d d2 : Nat} (hd : 7 ≤ d) (hd2 : d2 < d) (hPX10_readSum : ∀ (y0 : Nat) (y1 : Int32) (h : MH) (Q : MH → Prop), PX10_readSum y0 y1 h Q → Cm MX10_readSum d2 0 0 [.ref (y0), .int (y1)] h (pV Q)) (hPX10_readUnit : ∀ (y0 : Nat) (y1 : Int32) (h : MH) (Q : MH → Prop), PX10_readUnit y0 y1 h Q → Cm MX10_readUnit d2 0 0 [.ref (y0), .int (y1)] h (pV Q)) (hPX10_readTruth : ∀ (y0 : Nat) (y1 : Int32) (h : MH) (Q : MH → Prop), PX10_readTruth y0 y1 h Q → Cm MX10_readTruth d2 0 0 [.ref (y0), .int (y1)] h (pV Q)) (h : MH) (x0 : Nat) (x1 : Int32) (x2 : Int32) (hw : wX10_readUnit_151 Q PX10_readSum PX10_readUnit PX10_readTruth x0 x1 x2 h) : Wm MX10_readUnit d 0 0 151 [some (.ref (x0)), some (.int (x1)), some (.int (x2))] [] h (pV Q) := by
  unfold wX10_readUnit_151 at hw
  refine q_aload_nr eX10_readUnit_151 rfl ?_
  refine q_iload_n eX10_readUnit_152 rfl ?_
  obtain ⟨hs23, hw⟩ := hw
  refine q_callV (b := 0) (t := 0) (hPX10_readSum _ _ _ _ hw) mlX10_165 kX10_readSum vX10_readSum rfl hs23 ⟨rfl, rfl⟩ (by omega) rfl (Nat.le_of_ble_eq_true rfl) eX10_readUnit_153 (kV fun h25 hw => ?_)
  refine q_aload_nr eX10_readUnit_156 rfl ?_
  refine q_iload_n eX10_readUnit_157 rfl ?_
  obtain ⟨hs26, hw⟩ := hw
  refine q_callV (b := 0) (t := 0) (gX10_codes _ _ _ _ hw) mlX10_156 kX10_codes vX10_codes rfl hs26 ⟨rfl, rfl⟩ (by omega) rfl (Nat.le_of_ble_eq_true rfl) eX10_readUnit_158 (kV fun h28 hw => ?_)
  exact q_retV rfl eX10_readUnit_161 ⟨rfl, hw⟩
def wX10_readUnit_139 (Q : MH → Prop) (PX10_readSum : Nat → Int32 → MH → (MH → Prop) → Prop) (PX10_readUnit : Nat → Int32 → MH → (MH → Prop) → Prop) (PX10_readTruth : Nat → Int32 → MH → (MH → Prop) → Prop) (x0 : Nat) (x1 : Int32) (x2 : Int32) (h : MH) : Prop := hS h x0 = (1, 10) ∧ wX10_next x0 h (fun h22 => wX10_readUnit_151 Q PX10_readSum PX10_readUnit PX10_readTruth x0 x1 x2 h22)
set_option maxHeartbeats 4000000 in
set_option maxRecDepth 100000 in
theorem tX10_readUnit_139 {Q : MH → Prop} {PX10_readSum : Nat → Int32 → MH → (MH → Prop) → Prop} {PX10_readUnit : Nat → Int32 → MH → (MH → Prop) → Prop} {PX10_readTruth : Nat → Int32 → MH → (MH → Prop) → Prop} {d d2 : Nat} (hd : 7 ≤ d) (hd2 : d2 < d) (hPX10_readSum : ∀ (y0 : Nat) (y1 : Int32) (h : MH) (Q : MH → Prop), PX10_readSum y0 y1 h Q → Cm MX10_readSum d2 0 0 [.ref (y0), .int (y1)] h (pV Q)) (hPX10_readUnit : ∀ (y0 : Nat) (y1 : Int32) (h : MH) (Q : MH → Prop), PX10_readUnit y0 y1 h Q → Cm MX10_readUnit d2 0 0 [.ref (y0), .int (y1)] h (pV Q)) (hPX10_readTruth : ∀ (y0 : Nat) (y1 : Int32) (h : MH) (Q : MH → Prop), PX10_readTruth y0 y1 h Q → Cm MX10_readTruth d2 0 0 [.ref (y0), .int (y1)] h (pV Q)) (h : MH) (x0 : Nat) (x1 : Int32) (x2 : Int32) (hw : wX10_readUnit_139 Q PX10_readSum PX10_readUnit PX10_readTruth x0 x1 x2 h) : Wm MX10_readUnit d 0 0 139 [some (.ref (x0)), some (.int (x1)), some (.int (x2))] [] h (pV Q) := by
  unfold wX10_readUnit_139 at hw
  refine q_aload_nr eX10_readUnit_139 rfl ?_
  obtain ⟨hs20, hw⟩ := hw
  refine q_callV (b := 0) (t := 0) (gX10_next _ _ _ hw) mlX10_142 kX10_next vX10_next rfl hs20 ⟨rfl, rfl⟩ (by omega) rfl (Nat.le_of_ble_eq_true rfl) eX10_readUnit_140 (kV fun h22 hw => ?_)
  refine q_goto (tgt := 151) eX10_readUnit_143 (by decide) ?_
  refine q_le (ls' := [some _, some _, some _]) ⟨rfl, rfl, rfl, trivial⟩ ?_
  exact tX10_readUnit_151 hd hd2 hPX10_readSum hPX10_readUnit hPX10_readTruth _ _ _ _ hw
def wX10_readUnit_111 (Q : MH → Prop) (PX10_readSum : Nat → Int32 → MH → (MH → Prop) → Prop) (PX10_readUnit : Nat → Int32 → MH → (MH → Prop) → Prop) (PX10_readTruth : Nat → Int32 → MH → (MH → Prop) → Prop) (x0 : Nat) (x1 : Int32) (s0 : Int32) (h : MH) : Prop := hS h x0 = (1, 10) ∧ wX10_is x0 (nI 39) h (fun r18 h19 => (¬ (r18 = 0) → wX10_readUnit_139 Q PX10_readSum PX10_readUnit PX10_readTruth x0 x1 s0 h19) ∧ (r18 = 0 → hS h19 x0 = (1, 10) ∧ wX10_is x0 (nI 40) h19 (fun r30 h31 => (¬ (r30 = 0) → wX10_readUnit_139 Q PX10_readSum PX10_readUnit PX10_readTruth x0 x1 s0 h31) ∧ (r30 = 0 → hS h31 x0 = (1, 10) ∧ wX10_is x0 (nI 41) h31 (fun r33 h34 => (r33 = 0 → hS h34 x0 = (1, 10) ∧ wX10_fails x0 (nI 2) h34 (fun h37 => wX10_readUnit_151 Q PX10_readSum PX10_readUnit PX10_readTruth x0 x1 s0 h37)) ∧ (¬ (r33 = 0) → wX10_readUnit_139 Q PX10_readSum PX10_readUnit PX10_readTruth x0 x1 s0 h34))))))
set_option maxHeartbeats 4000000 in
set_option maxRecDepth 100000 in
theorem tX10_readUnit_111 {Q : MH → Prop} {PX10_readSum : Nat → Int32 → MH → (MH → Prop) → Prop} {PX10_readUnit : Nat → Int32 → MH → (MH → Prop) → Prop} {PX10_readTruth : Nat → Int32 → MH → (MH → Prop) → Prop} {d d2 : Nat} (hd : 7 ≤ d) (hd2 : d2 < d) (hPX10_readSum : ∀ (y0 : Nat) (y1 : Int32) (h : MH) (Q : MH → Prop), PX10_readSum y0 y1 h Q → Cm MX10_readSum d2 0 0 [.ref (y0), .int (y1)] h (pV Q)) (hPX10_readUnit : ∀ (y0 : Nat) (y1 : Int32) (h : MH) (Q : MH → Prop), PX10_readUnit y0 y1 h Q → Cm MX10_readUnit d2 0 0 [.ref (y0), .int (y1)] h (pV Q)) (hPX10_readTruth : ∀ (y0 : Nat) (y1 : Int32) (h : MH) (Q : MH → Prop), PX10_readTruth y0 y1 h Q → Cm MX10_readTruth d2 0 0 [.ref (y0), .int (y1)] h (pV Q)) (h : MH) (x0 : Nat) (x1 : Int32) (s0 : Int32) (hw : wX10_readUnit_111 Q PX10_readSum PX10_readUnit PX10_readTruth x0 x1 s0 h) : Wm MX10_readUnit d 0 0 111 [some (.ref (x0)), some (.int (x1)), none] [.int (s0)] h (pV Q) := by
  unfold wX10_readUnit_111 at hw
  refine x_istore_n (ls' := [_, _, _]) eX10_readUnit_111 (by decide) rfl rfl ?_
  refine q_aload_nr eX10_readUnit_112 rfl ?_
  refine q_bipush (v := nI 39) eX10_readUnit_113 (by decide) ?_
  obtain ⟨hs17, hw⟩ := hw
  refine q_callV (b := 0) (t := 0) (gX10_is _ _ _ _ hw) mlX10_139 kX10_is vX10_is rfl hs17 ⟨rfl, rfl⟩ (by omega) rfl (Nat.le_of_ble_eq_true rfl) eX10_readUnit_115 (kI fun r18 h19 hw => ?_)
  obtain ⟨hw1, hw2⟩ := hw
  refine q_if_ne (tgt := 139) eX10_readUnit_118 (by decide) (fun c => ?_) (fun c => ?_)
  · have hw := hw1 c
    refine q_le (ls' := [some _, some _, some _]) ⟨rfl, rfl, rfl, trivial⟩ ?_
    exact tX10_readUnit_139 hd hd2 hPX10_readSum hPX10_readUnit hPX10_readTruth _ _ _ _ hw
  · have hw := hw2 c
    refine q_aload_nr eX10_readUnit_121 rfl ?_
    refine q_bipush (v := nI 40) eX10_readUnit_122 (by decide) ?_
    obtain ⟨hs29, hw⟩ := hw
    refine q_callV (b := 0) (t := 0) (gX10_is _ _ _ _ hw) mlX10_139 kX10_is vX10_is rfl hs29 ⟨rfl, rfl⟩ (by omega) rfl (Nat.le_of_ble_eq_true rfl) eX10_readUnit_124 (kI fun r30 h31 hw => ?_)
    obtain ⟨hw1, hw2⟩ := hw
    refine q_if_ne (tgt := 139) eX10_readUnit_127 (by decide) (fun c => ?_) (fun c => ?_)
    · have hw := hw1 c
      refine q_le (ls' := [some _, some _, some _]) ⟨rfl, rfl, rfl, trivial⟩ ?_
      exact tX10_readUnit_139 hd hd2 hPX10_readSum hPX10_readUnit hPX10_readTruth _ _ _ _ hw
    · have hw := hw2 c
      refine q_aload_nr eX10_readUnit_130 rfl ?_
      refine q_bipush (v := nI 41) eX10_readUnit_131 (by decide) ?_
      obtain ⟨hs32, hw⟩ := hw
      refine q_callV (b := 0) (t := 0) (gX10_is _ _ _ _ hw) mlX10_139 kX10_is vX10_is rfl hs32 ⟨rfl, rfl⟩ (by omega) rfl (Nat.le_of_ble_eq_true rfl) eX10_readUnit_133 (kI fun r33 h34 hw => ?_)
      obtain ⟨hw1, hw2⟩ := hw
      refine q_if_eq (tgt := 146) eX10_readUnit_136 (by decide) (fun c => ?_) (fun c => ?_)
      · have hw := hw1 c
        refine q_aload_nr eX10_readUnit_146 rfl ?_
        refine q_iconst (v := nI 2) eX10_readUnit_147 (by decide) ?_
        obtain ⟨hs35, hw⟩ := hw
        refine q_callV (b := 0) (t := 0) (gX10_fails _ _ _ _ hw) mlX10_145 kX10_fails vX10_fails rfl hs35 ⟨rfl, rfl⟩ (by omega) rfl (Nat.le_of_ble_eq_true rfl) eX10_readUnit_148 (kV fun h37 hw => ?_)
        refine q_le (ls' := [some _, some _, some _]) ⟨rfl, rfl, rfl, trivial⟩ ?_
        exact tX10_readUnit_151 hd hd2 hPX10_readSum hPX10_readUnit hPX10_readTruth _ _ _ _ hw
      · have hw := hw2 c
        refine q_le (ls' := [some _, some _, some _]) ⟨rfl, rfl, rfl, trivial⟩ ?_
        exact tX10_readUnit_139 hd hd2 hPX10_readSum hPX10_readUnit hPX10_readTruth _ _ _ _ hw
def wX10_readUnit (PX10_readSum : Nat → Int32 → MH → (MH → Prop) → Prop) (PX10_readUnit : Nat → Int32 → MH → (MH → Prop) → Prop) (PX10_readTruth : Nat → Int32 → MH → (MH → Prop) → Prop) (x0 : Nat) (x1 : Int32) (h : MH) (Q : MH → Prop) : Prop := hS h x0 = (1, 10) ∧ wX10_is x0 (nI 18) h (fun r2 h3 => (r2 = 0 → hS h3 x0 = (1, 10) ∧ wX10_is x0 (nI 37) h3 (fun r5 h6 => (r5 = 0 → hS h6 x0 = (1, 10) ∧ PX10_readSum x0 x1 h6 (fun h9 => hS h9 x0 = (1, 10) ∧ wX10_is x0 (nI 39) h9 (fun r11 h12 => (r11 = 0 → hS h12 x0 = (1, 10) ∧ wX10_is x0 (nI 40) h12 (fun r14 h15 => wX10_readUnit_111 Q PX10_readSum PX10_readUnit PX10_readTruth x0 x1 (if r14 = 0 then nI 3005 else nI 3004) h15)) ∧ (¬ (r11 = 0) → wX10_readUnit_111 Q PX10_readSum PX10_readUnit PX10_readTruth x0 x1 (nI 3003) h12)))) ∧ (¬ (r5 = 0) → hS h6 x0 = (1, 10) ∧ wX10_goesIn x0 x1 h6 (fun r40 h41 => (¬ (r40 = 0) → hS h41 x0 = (1, 10) ∧ PX10_readTruth x0 (x1 + nI 1) h41 (fun h44 => hS h44 x0 = (1, 10) ∧ wX10_eats x0 (nI 38) h44 (fun r46 h47 => (¬ (r46 = 0) → Q h47) ∧ (r46 = 0 → hS h47 x0 = (1, 10) ∧ wX10_fails x0 (nI 2) h47 (fun h50 => Q h50))))) ∧ (r40 = 0 → Q h41))))) ∧ (¬ (r2 = 0) → hS h3 x0 = (1, 10) ∧ wX10_goesIn x0 x1 h3 (fun r52 h53 => (¬ (r52 = 0) → hS h53 x0 = (1, 10) ∧ PX10_readUnit x0 (x1 + nI 1) h53 (fun h56 => hS h56 x0 = (1, 10) ∧ wX10_codes x0 (nI 3006) h56 (fun h59 => Q h59))) ∧ (r52 = 0 → Q h53))))
set_option maxHeartbeats 4000000 in
set_option maxRecDepth 100000 in
theorem gX10_readUnit {PX10_readSum : Nat → Int32 → MH → (MH → Prop) → Prop} {PX10_readUnit : Nat → Int32 → MH → (MH → Prop) → Prop} {PX10_readTruth : Nat → Int32 → MH → (MH → Prop) → Prop} {d d2 : Nat} (hd : 7 ≤ d) (hd2 : d2 < d) (hPX10_readSum : ∀ (y0 : Nat) (y1 : Int32) (h : MH) (Q : MH → Prop), PX10_readSum y0 y1 h Q → Cm MX10_readSum d2 0 0 [.ref (y0), .int (y1)] h (pV Q)) (hPX10_readUnit : ∀ (y0 : Nat) (y1 : Int32) (h : MH) (Q : MH → Prop), PX10_readUnit y0 y1 h Q → Cm MX10_readUnit d2 0 0 [.ref (y0), .int (y1)] h (pV Q)) (hPX10_readTruth : ∀ (y0 : Nat) (y1 : Int32) (h : MH) (Q : MH → Prop), PX10_readTruth y0 y1 h Q → Cm MX10_readTruth d2 0 0 [.ref (y0), .int (y1)] h (pV Q)) (x0 : Nat) (x1 : Int32) (h : MH) (Q : MH → Prop) (hw : wX10_readUnit PX10_readSum PX10_readUnit PX10_readTruth x0 x1 h Q) : Cm MX10_readUnit d 0 0 [.ref (x0), .int (x1)] h (pV Q) := by
  refine cm_of [some (.ref (x0)), some (.int (x1)), none] rfl pnX10 (Nat.le_of_ble_eq_true rfl) rfl ?_
  unfold wX10_readUnit at hw
  refine q_aload_nr eX10_readUnit_0 rfl ?_
  refine q_bipush (v := nI 18) eX10_readUnit_1 (by decide) ?_
  obtain ⟨hs1, hw⟩ := hw
  refine q_callV (b := 0) (t := 0) (gX10_is _ _ _ _ hw) mlX10_139 kX10_is vX10_is rfl hs1 ⟨rfl, rfl⟩ (by omega) rfl (Nat.le_of_ble_eq_true rfl) eX10_readUnit_3 (kI fun r2 h3 hw => ?_)
  obtain ⟨hw1, hw2⟩ := hw
  refine q_if_eq (tgt := 33) eX10_readUnit_6 (by decide) (fun c => ?_) (fun c => ?_)
  · have hw := hw1 c
    refine q_aload_nr eX10_readUnit_33 rfl ?_
    refine q_bipush (v := nI 37) eX10_readUnit_34 (by decide) ?_
    obtain ⟨hs4, hw⟩ := hw
    refine q_callV (b := 0) (t := 0) (gX10_is _ _ _ _ hw) mlX10_139 kX10_is vX10_is rfl hs4 ⟨rfl, rfl⟩ (by omega) rfl (Nat.le_of_ble_eq_true rfl) eX10_readUnit_36 (kI fun r5 h6 hw => ?_)
    obtain ⟨hw1, hw2⟩ := hw
    refine q_if_eq (tgt := 73) eX10_readUnit_39 (by decide) (fun c => ?_) (fun c => ?_)
    · have hw := hw1 c
      refine q_aload_nr eX10_readUnit_73 rfl ?_
      refine q_iload_n eX10_readUnit_74 rfl ?_
      obtain ⟨hs7, hw⟩ := hw
      refine q_callV (b := 0) (t := 0) (hPX10_readSum _ _ _ _ hw) mlX10_165 kX10_readSum vX10_readSum rfl hs7 ⟨rfl, rfl⟩ (by omega) rfl (Nat.le_of_ble_eq_true rfl) eX10_readUnit_75 (kV fun h9 hw => ?_)
      refine q_aload_nr eX10_readUnit_78 rfl ?_
      refine q_bipush (v := nI 39) eX10_readUnit_79 (by decide) ?_
      obtain ⟨hs10, hw⟩ := hw
      refine q_callV (b := 0) (t := 0) (gX10_is _ _ _ _ hw) mlX10_139 kX10_is vX10_is rfl hs10 ⟨rfl, rfl⟩ (by omega) rfl (Nat.le_of_ble_eq_true rfl) eX10_readUnit_81 (kI fun r11 h12 hw => ?_)
      obtain ⟨hw1, hw2⟩ := hw
      refine q_if_eq (tgt := 93) eX10_readUnit_84 (by decide) (fun c => ?_) (fun c => ?_)
      · have hw := hw1 c
        refine q_aload_nr eX10_readUnit_93 rfl ?_
        refine q_bipush (v := nI 40) eX10_readUnit_94 (by decide) ?_
        obtain ⟨hs13, hw⟩ := hw
        refine q_callV (b := 0) (t := 0) (gX10_is _ _ _ _ hw) mlX10_139 kX10_is vX10_is rfl hs13 ⟨rfl, rfl⟩ (by omega) rfl (Nat.le_of_ble_eq_true rfl) eX10_readUnit_96 (kI fun r14 h15 hw => ?_)
        have hj38 : Wm MX10_readUnit d 0 0 111 [some (.ref (x0)), some (.int (x1)), none] [.int ((if r14 = 0 then nI 3005 else nI 3004))] h15 (pV Q) := by
          refine q_le (ls' := [some _, some _, none]) ⟨rfl, rfl, trivial⟩ ?_
          exact tX10_readUnit_111 hd hd2 hPX10_readSum hPX10_readUnit hPX10_readTruth _ _ _ _ hw
        refine q_if_eq (tgt := 108) eX10_readUnit_99 (by decide) (fun c => ?_) (fun c => ?_)
        · refine q_sipush (v := nI 3005) eX10_readUnit_108 (by decide) ?_
          rw [if_pos c] at hj38
          exact hj38
        · refine q_sipush (v := nI 3004) eX10_readUnit_102 (by decide) ?_
          refine q_goto (tgt := 111) eX10_readUnit_105 (by decide) ?_
          rw [if_neg c] at hj38
          exact hj38
      · have hw := hw2 c
        refine q_sipush (v := nI 3003) eX10_readUnit_87 (by decide) ?_
        refine q_goto (tgt := 111) eX10_readUnit_90 (by decide) ?_
        refine q_le (ls' := [some _, some _, none]) ⟨rfl, rfl, trivial⟩ ?_
        exact tX10_readUnit_111 hd hd2 hPX10_readSum hPX10_readUnit hPX10_readTruth _ _ _ _ hw
    · have hw := hw2 c
      refine q_aload_nr eX10_readUnit_42 rfl ?_
      refine q_iload_n eX10_readUnit_43 rfl ?_
      obtain ⟨hs39, hw⟩ := hw
      refine q_callV (b := 0) (t := 0) (gX10_goesIn _ _ _ _ hw) mlX10_162 kX10_goesIn vX10_goesIn rfl hs39 ⟨rfl, rfl⟩ (by omega) rfl (Nat.le_of_ble_eq_true rfl) eX10_readUnit_44 (kI fun r40 h41 hw => ?_)
      obtain ⟨hw1, hw2⟩ := hw
      refine q_if_ne (tgt := 51) eX10_readUnit_47 (by decide) (fun c => ?_) (fun c => ?_)
      · have hw := hw1 c
        refine q_aload_nr eX10_readUnit_51 rfl ?_
        refine q_iload_n eX10_readUnit_52 rfl ?_
        refine q_iconst (v := nI 1) eX10_readUnit_53 (by decide) ?_
        refine q_iadd eX10_readUnit_54 ?_
        obtain ⟨hs42, hw⟩ := hw
        refine q_callV (b := 0) (t := 0) (hPX10_readTruth _ _ _ _ hw) mlX10_174 kX10_readTruth vX10_readTruth rfl hs42 ⟨rfl, rfl⟩ (by omega) rfl (Nat.le_of_ble_eq_true rfl) eX10_readUnit_55 (kV fun h44 hw => ?_)
        refine q_aload_nr eX10_readUnit_58 rfl ?_
        refine q_bipush (v := nI 38) eX10_readUnit_59 (by decide) ?_
        obtain ⟨hs45, hw⟩ := hw
        refine q_callV (b := 0) (t := 0) (gX10_eats _ _ _ _ hw) mlX10_168 kX10_eats vX10_eats rfl hs45 ⟨rfl, rfl⟩ (by omega) rfl (Nat.le_of_ble_eq_true rfl) eX10_readUnit_61 (kI fun r46 h47 hw => ?_)
        obtain ⟨hw1, hw2⟩ := hw
        refine q_if_ne (tgt := 72) eX10_readUnit_64 (by decide) (fun c => ?_) (fun c => ?_)
        · have hw := hw1 c
          exact q_retV rfl eX10_readUnit_72 ⟨rfl, hw⟩
        · have hw := hw2 c
          refine q_aload_nr eX10_readUnit_67 rfl ?_
          refine q_iconst (v := nI 2) eX10_readUnit_68 (by decide) ?_
          obtain ⟨hs48, hw⟩ := hw
          refine q_callV (b := 0) (t := 0) (gX10_fails _ _ _ _ hw) mlX10_145 kX10_fails vX10_fails rfl hs48 ⟨rfl, rfl⟩ (by omega) rfl (Nat.le_of_ble_eq_true rfl) eX10_readUnit_69 (kV fun h50 hw => ?_)
          exact q_retV rfl eX10_readUnit_72 ⟨rfl, hw⟩
      · have hw := hw2 c
        exact q_retV rfl eX10_readUnit_50 ⟨rfl, hw⟩
  · have hw := hw2 c
    refine q_aload_nr eX10_readUnit_9 rfl ?_
    refine q_iload_n eX10_readUnit_10 rfl ?_
    obtain ⟨hs51, hw⟩ := hw
    refine q_callV (b := 0) (t := 0) (gX10_goesIn _ _ _ _ hw) mlX10_162 kX10_goesIn vX10_goesIn rfl hs51 ⟨rfl, rfl⟩ (by omega) rfl (Nat.le_of_ble_eq_true rfl) eX10_readUnit_11 (kI fun r52 h53 hw => ?_)
    obtain ⟨hw1, hw2⟩ := hw
    refine q_if_ne (tgt := 18) eX10_readUnit_14 (by decide) (fun c => ?_) (fun c => ?_)
    · have hw := hw1 c
      refine q_aload_nr eX10_readUnit_18 rfl ?_
      refine q_iload_n eX10_readUnit_19 rfl ?_
      refine q_iconst (v := nI 1) eX10_readUnit_20 (by decide) ?_
      refine q_iadd eX10_readUnit_21 ?_
      obtain ⟨hs54, hw⟩ := hw
      refine q_callV (b := 0) (t := 0) (hPX10_readUnit _ _ _ _ hw) mlX10_183 kX10_readUnit vX10_readUnit rfl hs54 ⟨rfl, rfl⟩ (by omega) rfl (Nat.le_of_ble_eq_true rfl) eX10_readUnit_22 (kV fun h56 hw => ?_)
      refine q_aload_nr eX10_readUnit_25 rfl ?_
      refine q_sipush (v := nI 3006) eX10_readUnit_26 (by decide) ?_
      obtain ⟨hs57, hw⟩ := hw
      refine q_callV (b := 0) (t := 0) (gX10_codes _ _ _ _ hw) mlX10_156 kX10_codes vX10_codes rfl hs57 ⟨rfl, rfl⟩ (by omega) rfl (Nat.le_of_ble_eq_true rfl) eX10_readUnit_29 (kV fun h59 hw => ?_)
      exact q_retV rfl eX10_readUnit_32 ⟨rfl, hw⟩
    · have hw := hw2 c
      exact q_retV rfl eX10_readUnit_17 ⟨rfl, hw⟩
def wX10_readBoth_5 (Q : MH → Prop) (PX10_readUnit : Nat → Int32 → MH → (MH → Prop) → Prop) : Nat → Nat → Int32 → MH → Prop
  | 0, _, _, _ => False
  | n + 1, x0, x1, h => hS h x0 = (1, 10) ∧ wX10_eats x0 (nI 16) h (fun r5 h6 => (r5 = 0 → Q h6) ∧ (¬ (r5 = 0) → hS h6 x0 = (1, 10) ∧ PX10_readUnit x0 x1 h6 (fun h9 => hS h9 x0 = (1, 10) ∧ wX10_codes x0 (nI 3007) h9 (fun h12 => wX10_readBoth_5 Q PX10_readUnit n x0 x1 h12))))
set_option maxHeartbeats 4000000 in
set_option maxRecDepth 100000 in
theorem tX10_readBoth_5 {Q : MH → Prop} {PX10_readUnit : Nat → Int32 → MH → (MH → Prop) → Prop} {d d2 : Nat} (hd : 7 ≤ d) (hd2 : d2 < d) (hPX10_readUnit : ∀ (y0 : Nat) (y1 : Int32) (h : MH) (Q : MH → Prop), PX10_readUnit y0 y1 h Q → Cm MX10_readUnit d2 0 0 [.ref (y0), .int (y1)] h (pV Q)) : ∀ (n : Nat) (h : MH) (x0 : Nat) (x1 : Int32), wX10_readBoth_5 Q PX10_readUnit n x0 x1 h → Wm MX10_readBoth d 0 0 5 [some (.ref (x0)), some (.int (x1))] [] h (pV Q) := by
  intro n
  induction n with
  | zero => intro h x0 x1 hw; exact hw.elim
  | succ n ih =>
    intro h x0 x1 hw
    unfold wX10_readBoth_5 at hw
    refine q_aload_nr eX10_readBoth_5 rfl ?_
    refine q_bipush (v := nI 16) eX10_readBoth_6 (by decide) ?_
    obtain ⟨hs4, hw⟩ := hw
    refine q_callV (b := 0) (t := 0) (gX10_eats _ _ _ _ hw) mlX10_168 kX10_eats vX10_eats rfl hs4 ⟨rfl, rfl⟩ (by omega) rfl (Nat.le_of_ble_eq_true rfl) eX10_readBoth_8 (kI fun r5 h6 hw => ?_)
    obtain ⟨hw1, hw2⟩ := hw
    refine q_if_eq (tgt := 29) eX10_readBoth_11 (by decide) (fun c => ?_) (fun c => ?_)
    · have hw := hw1 c
      exact q_retV rfl eX10_readBoth_29 ⟨rfl, hw⟩
    · have hw := hw2 c
      refine q_aload_nr eX10_readBoth_14 rfl ?_
      refine q_iload_n eX10_readBoth_15 rfl ?_
      obtain ⟨hs7, hw⟩ := hw
      refine q_callV (b := 0) (t := 0) (hPX10_readUnit _ _ _ _ hw) mlX10_183 kX10_readUnit vX10_readUnit rfl hs7 ⟨rfl, rfl⟩ (by omega) rfl (Nat.le_of_ble_eq_true rfl) eX10_readBoth_16 (kV fun h9 hw => ?_)
      refine q_aload_nr eX10_readBoth_19 rfl ?_
      refine q_sipush (v := nI 3007) eX10_readBoth_20 (by decide) ?_
      obtain ⟨hs10, hw⟩ := hw
      refine q_callV (b := 0) (t := 0) (gX10_codes _ _ _ _ hw) mlX10_156 kX10_codes vX10_codes rfl hs10 ⟨rfl, rfl⟩ (by omega) rfl (Nat.le_of_ble_eq_true rfl) eX10_readBoth_23 (kV fun h12 hw => ?_)
      refine q_goto (tgt := 5) eX10_readBoth_26 (by decide) ?_
      refine q_le (ls' := [some _, some _]) ⟨rfl, rfl, trivial⟩ ?_
      exact ih _ _ _ hw
def wX10_readBoth (PX10_readUnit : Nat → Int32 → MH → (MH → Prop) → Prop) (x0 : Nat) (x1 : Int32) (h : MH) (Q : MH → Prop) : Prop := hS h x0 = (1, 10) ∧ PX10_readUnit x0 x1 h (fun h3 => ∃ m13, wX10_readBoth_5 Q PX10_readUnit m13 x0 x1 h3)
set_option maxHeartbeats 4000000 in
set_option maxRecDepth 100000 in
theorem gX10_readBoth {PX10_readUnit : Nat → Int32 → MH → (MH → Prop) → Prop} {d d2 : Nat} (hd : 7 ≤ d) (hd2 : d2 < d) (hPX10_readUnit : ∀ (y0 : Nat) (y1 : Int32) (h : MH) (Q : MH → Prop), PX10_readUnit y0 y1 h Q → Cm MX10_readUnit d2 0 0 [.ref (y0), .int (y1)] h (pV Q)) (x0 : Nat) (x1 : Int32) (h : MH) (Q : MH → Prop) (hw : wX10_readBoth PX10_readUnit x0 x1 h Q) : Cm MX10_readBoth d 0 0 [.ref (x0), .int (x1)] h (pV Q) := by
  refine cm_of [some (.ref (x0)), some (.int (x1))] rfl pnX10 (Nat.le_of_ble_eq_true rfl) rfl ?_
  unfold wX10_readBoth at hw
  refine q_aload_nr eX10_readBoth_0 rfl ?_
  refine q_iload_n eX10_readBoth_1 rfl ?_
  obtain ⟨hs1, hw⟩ := hw
  refine q_callV (b := 0) (t := 0) (hPX10_readUnit _ _ _ _ hw) mlX10_183 kX10_readUnit vX10_readUnit rfl hs1 ⟨rfl, rfl⟩ (by omega) rfl (Nat.le_of_ble_eq_true rfl) eX10_readBoth_2 (kV fun h3 hw => ?_)
  refine q_le (ls' := [some _, some _]) ⟨rfl, rfl, trivial⟩ ?_
  obtain ⟨m13, hw⟩ := hw
  exact tX10_readBoth_5 hd hd2 hPX10_readUnit m13 _ _ _ hw
def wX10_readTruth_5 (Q : MH → Prop) (PX10_readBoth : Nat → Int32 → MH → (MH → Prop) → Prop) : Nat → Nat → Int32 → MH → Prop
  | 0, _, _, _ => False
  | n + 1, x0, x1, h => hS h x0 = (1, 10) ∧ wX10_eats x0 (nI 17) h (fun r5 h6 => (r5 = 0 → Q h6) ∧ (¬ (r5 = 0) → hS h6 x0 = (1, 10) ∧ PX10_readBoth x0 x1 h6 (fun h9 => hS h9 x0 = (1, 10) ∧ wX10_codes x0 (nI 3008) h9 (fun h12 => wX10_readTruth_5 Q PX10_readBoth n x0 x1 h12))))
set_option maxHeartbeats 4000000 in
set_option maxRecDepth 100000 in
theorem tX10_readTruth_5 {Q : MH → Prop} {PX10_readBoth : Nat → Int32 → MH → (MH → Prop) → Prop} {d d2 : Nat} (hd : 7 ≤ d) (hd2 : d2 < d) (hPX10_readBoth : ∀ (y0 : Nat) (y1 : Int32) (h : MH) (Q : MH → Prop), PX10_readBoth y0 y1 h Q → Cm MX10_readBoth d2 0 0 [.ref (y0), .int (y1)] h (pV Q)) : ∀ (n : Nat) (h : MH) (x0 : Nat) (x1 : Int32), wX10_readTruth_5 Q PX10_readBoth n x0 x1 h → Wm MX10_readTruth d 0 0 5 [some (.ref (x0)), some (.int (x1))] [] h (pV Q) := by
  intro n
  induction n with
  | zero => intro h x0 x1 hw; exact hw.elim
  | succ n ih =>
    intro h x0 x1 hw
    unfold wX10_readTruth_5 at hw
    refine q_aload_nr eX10_readTruth_5 rfl ?_
    refine q_bipush (v := nI 17) eX10_readTruth_6 (by decide) ?_
    obtain ⟨hs4, hw⟩ := hw
    refine q_callV (b := 0) (t := 0) (gX10_eats _ _ _ _ hw) mlX10_168 kX10_eats vX10_eats rfl hs4 ⟨rfl, rfl⟩ (by omega) rfl (Nat.le_of_ble_eq_true rfl) eX10_readTruth_8 (kI fun r5 h6 hw => ?_)
    obtain ⟨hw1, hw2⟩ := hw
    refine q_if_eq (tgt := 29) eX10_readTruth_11 (by decide) (fun c => ?_) (fun c => ?_)
    · have hw := hw1 c
      exact q_retV rfl eX10_readTruth_29 ⟨rfl, hw⟩
    · have hw := hw2 c
      refine q_aload_nr eX10_readTruth_14 rfl ?_
      refine q_iload_n eX10_readTruth_15 rfl ?_
      obtain ⟨hs7, hw⟩ := hw
      refine q_callV (b := 0) (t := 0) (hPX10_readBoth _ _ _ _ hw) mlX10_186 kX10_readBoth vX10_readBoth rfl hs7 ⟨rfl, rfl⟩ (by omega) rfl (Nat.le_of_ble_eq_true rfl) eX10_readTruth_16 (kV fun h9 hw => ?_)
      refine q_aload_nr eX10_readTruth_19 rfl ?_
      refine q_sipush (v := nI 3008) eX10_readTruth_20 (by decide) ?_
      obtain ⟨hs10, hw⟩ := hw
      refine q_callV (b := 0) (t := 0) (gX10_codes _ _ _ _ hw) mlX10_156 kX10_codes vX10_codes rfl hs10 ⟨rfl, rfl⟩ (by omega) rfl (Nat.le_of_ble_eq_true rfl) eX10_readTruth_23 (kV fun h12 hw => ?_)
      refine q_goto (tgt := 5) eX10_readTruth_26 (by decide) ?_
      refine q_le (ls' := [some _, some _]) ⟨rfl, rfl, trivial⟩ ?_
      exact ih _ _ _ hw
def wX10_readTruth (PX10_readBoth : Nat → Int32 → MH → (MH → Prop) → Prop) (x0 : Nat) (x1 : Int32) (h : MH) (Q : MH → Prop) : Prop := hS h x0 = (1, 10) ∧ PX10_readBoth x0 x1 h (fun h3 => ∃ m13, wX10_readTruth_5 Q PX10_readBoth m13 x0 x1 h3)
set_option maxHeartbeats 4000000 in
set_option maxRecDepth 100000 in
theorem gX10_readTruth {PX10_readBoth : Nat → Int32 → MH → (MH → Prop) → Prop} {d d2 : Nat} (hd : 7 ≤ d) (hd2 : d2 < d) (hPX10_readBoth : ∀ (y0 : Nat) (y1 : Int32) (h : MH) (Q : MH → Prop), PX10_readBoth y0 y1 h Q → Cm MX10_readBoth d2 0 0 [.ref (y0), .int (y1)] h (pV Q)) (x0 : Nat) (x1 : Int32) (h : MH) (Q : MH → Prop) (hw : wX10_readTruth PX10_readBoth x0 x1 h Q) : Cm MX10_readTruth d 0 0 [.ref (x0), .int (x1)] h (pV Q) := by
  refine cm_of [some (.ref (x0)), some (.int (x1))] rfl pnX10 (Nat.le_of_ble_eq_true rfl) rfl ?_
  unfold wX10_readTruth at hw
  refine q_aload_nr eX10_readTruth_0 rfl ?_
  refine q_iload_n eX10_readTruth_1 rfl ?_
  obtain ⟨hs1, hw⟩ := hw
  refine q_callV (b := 0) (t := 0) (hPX10_readBoth _ _ _ _ hw) mlX10_186 kX10_readBoth vX10_readBoth rfl hs1 ⟨rfl, rfl⟩ (by omega) rfl (Nat.le_of_ble_eq_true rfl) eX10_readTruth_2 (kV fun h3 hw => ?_)
  refine q_le (ls' := [some _, some _]) ⟨rfl, rfl, trivial⟩ ?_
  obtain ⟨m13, hw⟩ := hw
  exact tX10_readTruth_5 hd hd2 hPX10_readBoth m13 _ _ _ hw
def wX10_named_13 (Q : Int32 → MH → Prop) (x0 : Nat) (x2 : Int32) (x3 : Int32) (h : MH) : Prop := hS h x0 = (1, 10) ∧ wX10_takes x0 x2 x3 h (fun r5 h6 => Q (r5) h6)
set_option maxHeartbeats 4000000 in
set_option maxRecDepth 100000 in
theorem tX10_named_13 {Q : Int32 → MH → Prop} (h : MH) (x0 : Nat) (x2 : Int32) (x3 : Int32) (hw : wX10_named_13 Q x0 x2 x3 h) : Wm MX10_named 7 0 0 13 [some (.ref (x0)), none, some (.int (x2)), some (.int (x3))] [] h (pI Q) := by
  unfold wX10_named_13 at hw
  refine q_aload_nr eX10_named_13 rfl ?_
  refine q_iload_n eX10_named_14 rfl ?_
  refine q_iload_n eX10_named_15 rfl ?_
  obtain ⟨hs4, hw⟩ := hw
  refine q_callV (b := 0) (t := 0) (gX10_takes _ _ _ _ _ hw) mlX10_189 kX10_takes vX10_takes rfl hs4 ⟨rfl, rfl⟩ (by decide) rfl (Nat.le_of_ble_eq_true rfl) eX10_named_16 (kI fun r5 h6 hw => ?_)
  exact q_ret rfl eX10_named_19 ⟨_, rfl, hw⟩
def wX10_named (x0 : Nat) (x1 : Int32) (x2 : Int32) (x3 : Int32) (h : MH) (Q : Int32 → MH → Prop) : Prop := hS h x0 = (1, 10) ∧ wX10_eats x0 x1 h (fun r2 h3 => (¬ (r2 = 0) → wX10_named_13 Q x0 x2 x3 h3) ∧ (r2 = 0 → hS h3 x0 = (1, 10) ∧ wX10_fails x0 (nI 2) h3 (fun h9 => wX10_named_13 Q x0 x2 x3 h9)))
set_option maxHeartbeats 4000000 in
set_option maxRecDepth 100000 in
theorem gX10_named (x0 : Nat) (x1 : Int32) (x2 : Int32) (x3 : Int32) (h : MH) (Q : Int32 → MH → Prop) (hw : wX10_named x0 x1 x2 x3 h Q) : Cm MX10_named 7 0 0 [.ref (x0), .int (x1), .int (x2), .int (x3)] h (pI Q) := by
  refine cm_of [some (.ref (x0)), some (.int (x1)), some (.int (x2)), some (.int (x3))] rfl pnX10 (Nat.le_of_ble_eq_true rfl) rfl ?_
  unfold wX10_named at hw
  refine q_aload_nr eX10_named_0 rfl ?_
  refine q_iload_n eX10_named_1 rfl ?_
  obtain ⟨hs1, hw⟩ := hw
  refine q_callV (b := 0) (t := 0) (gX10_eats _ _ _ _ hw) mlX10_168 kX10_eats vX10_eats rfl hs1 ⟨rfl, rfl⟩ (by decide) rfl (Nat.le_of_ble_eq_true rfl) eX10_named_2 (kI fun r2 h3 hw => ?_)
  obtain ⟨hw1, hw2⟩ := hw
  refine q_if_ne (tgt := 13) eX10_named_5 (by decide) (fun c => ?_) (fun c => ?_)
  · have hw := hw1 c
    refine q_le (ls' := [some _, none, some _, some _]) ⟨rfl, rfl, rfl, trivial⟩ ?_
    exact tX10_named_13 _ _ _ _ hw
  · have hw := hw2 c
    refine q_aload_nr eX10_named_8 rfl ?_
    refine q_iconst (v := nI 2) eX10_named_9 (by decide) ?_
    obtain ⟨hs7, hw⟩ := hw
    refine q_callV (b := 0) (t := 0) (gX10_fails _ _ _ _ hw) mlX10_145 kX10_fails vX10_fails rfl hs7 ⟨rfl, rfl⟩ (by decide) rfl (Nat.le_of_ble_eq_true rfl) eX10_named_10 (kV fun h9 hw => ?_)
    refine q_le (ls' := [some _, none, some _, some _]) ⟨rfl, rfl, rfl, trivial⟩ ?_
    exact tX10_named_13 _ _ _ _ hw
def wX10_areJoined_52 (Q : Int32 → MH → Prop) (K2 : Nat → Int32 → Int32 → Int32 → MH → Prop) (x0 : Nat) (x1 : Int32) (x2 : Int32) (x3 : Int32) (x4 : Int32) (x5 : Int32) (h : MH) : Prop := (¬ (x4 = x2) → K2 x0 x1 x2 (x3 + nI 1) h) ∧ (x4 = x2 → (¬ (x5 = x1) → K2 x0 x1 x2 (x3 + nI 1) h) ∧ (x5 = x1 → Q (nI 1) h))
set_option maxHeartbeats 4000000 in
set_option maxRecDepth 100000 in
theorem tX10_areJoined_52 {Q : Int32 → MH → Prop} {K2 : Nat → Int32 → Int32 → Int32 → MH → Prop} (hK2 : ∀ (h : MH) (x0 : Nat) (x1 : Int32) (x2 : Int32) (x3 : Int32), K2 x0 x1 x2 x3 h → Wm MX10_areJoined 0 0 0 2 [some (.ref (x0)), some (.int (x1)), some (.int (x2)), some (.int (x3)), none, none] [] h (pI Q)) (h : MH) (x0 : Nat) (x1 : Int32) (x2 : Int32) (x3 : Int32) (x4 : Int32) (x5 : Int32) (hw : wX10_areJoined_52 Q K2 x0 x1 x2 x3 x4 x5 h) : Wm MX10_areJoined 0 0 0 52 [some (.ref (x0)), some (.int (x1)), some (.int (x2)), some (.int (x3)), some (.int (x4)), some (.int (x5))] [] h (pI Q) := by
  unfold wX10_areJoined_52 at hw
  refine q_iload eX10_areJoined_52 rfl ?_
  refine q_iload_n eX10_areJoined_54 rfl ?_
  obtain ⟨hw1, hw2⟩ := hw
  refine q_icmp_ne (tgt := 66) eX10_areJoined_55 (by decide) (fun c => ?_) (fun c => ?_)
  · have hw := hw1 c
    refine x_iinc (v := (x3 + nI 1)) (ls' := [_, _, _, _, _, _]) eX10_areJoined_66 rfl rfl rfl rfl ?_
    refine q_goto (tgt := 2) eX10_areJoined_69 (by decide) ?_
    refine q_le (ls' := [some _, some _, some _, some _, none, none]) ⟨rfl, rfl, rfl, rfl, trivial⟩ ?_
    exact hK2 _ _ _ _ _ hw
  · have hw := hw2 c
    refine q_iload eX10_areJoined_58 rfl ?_
    refine q_iload_n eX10_areJoined_60 rfl ?_
    obtain ⟨hw1, hw2⟩ := hw
    refine q_icmp_ne (tgt := 66) eX10_areJoined_61 (by decide) (fun c => ?_) (fun c => ?_)
    · have hw := hw1 c
      refine x_iinc (v := (x3 + nI 1)) (ls' := [_, _, _, _, _, _]) eX10_areJoined_66 rfl rfl rfl rfl ?_
      refine q_goto (tgt := 2) eX10_areJoined_69 (by decide) ?_
      refine q_le (ls' := [some _, some _, some _, some _, none, none]) ⟨rfl, rfl, rfl, rfl, trivial⟩ ?_
      exact hK2 _ _ _ _ _ hw
    · have hw := hw2 c
      refine q_iconst (v := nI 1) eX10_areJoined_64 (by decide) ?_
      exact q_retZ rfl (by decide) eX10_areJoined_65 ⟨_, rfl, hw⟩
def wX10_areJoined_2 (Q : Int32 → MH → Prop) : Nat → Nat → Int32 → Int32 → Int32 → MH → Prop
  | 0, _, _, _, _, _ => False
  | n + 1, x0, x1, x2, x3, h => hS h x0 = (1, 10) ∧ ∃ a2, hR h x0 4 = some a2 ∧ ∃ n5, hS h a2 = (2, n5) ∧ vp_in (nI 2) n5 ∧ (hI h a2 (nI 2).toNatClampNeg ≤ x3 → Q (nI 0) h) ∧ (¬ (hI h a2 (nI 2).toNatClampNeg ≤ x3) → vp_in ((nI 9 + (nI 2 * x3))) n5 ∧ ∀ v8, v8 = hI h a2 ((nI 9 + (nI 2 * x3))).toNatClampNeg → vp_in (((nI 9 + (nI 2 * x3)) + nI 1)) n5 ∧ ∀ v10, v10 = hI h a2 (((nI 9 + (nI 2 * x3)) + nI 1)).toNatClampNeg → (¬ (v8 = x1) → wX10_areJoined_52 Q (wX10_areJoined_2 Q n) x0 x1 x2 x3 v8 v10 h) ∧ (v8 = x1 → (v10 = x2 → Q (nI 1) h) ∧ (¬ (v10 = x2) → wX10_areJoined_52 Q (wX10_areJoined_2 Q n) x0 x1 x2 x3 v8 v10 h)))
set_option maxHeartbeats 4000000 in
set_option maxRecDepth 100000 in
theorem tX10_areJoined_2 {Q : Int32 → MH → Prop} : ∀ (n : Nat) (h : MH) (x0 : Nat) (x1 : Int32) (x2 : Int32) (x3 : Int32), wX10_areJoined_2 Q n x0 x1 x2 x3 h → Wm MX10_areJoined 0 0 0 2 [some (.ref (x0)), some (.int (x1)), some (.int (x2)), some (.int (x3)), none, none] [] h (pI Q) := by
  intro n
  induction n with
  | zero => intro h x0 x1 x2 x3 hw; exact hw.elim
  | succ n ih =>
    intro h x0 x1 x2 x3 hw
    unfold wX10_areJoined_2 at hw
    refine q_iload_n eX10_areJoined_2 rfl ?_
    refine q_aload_nr eX10_areJoined_3 rfl ?_
    obtain ⟨hs1, hw⟩ := hw
    obtain ⟨a2, hr3, hw⟩ := hw
    refine q_getR flX10_24 rfl hs1 hr3 eX10_areJoined_4 ?_
    refine q_iconst (v := nI 2) eX10_areJoined_7 (by decide) ?_
    obtain ⟨n5, hs4, hw⟩ := hw
    obtain ⟨hi6, hw⟩ := hw
    refine q_iald hs4 hi6 eX10_areJoined_8 ?_
    obtain ⟨hw1, hw2⟩ := hw
    refine q_icmp_ge (tgt := 72) eX10_areJoined_9 (by decide) (fun c => ?_) (fun c => ?_)
    · have hw := hw1 c
      refine q_iconst (v := nI 0) eX10_areJoined_72 (by decide) ?_
      exact q_retZ rfl (by decide) eX10_areJoined_73 ⟨_, rfl, hw⟩
    · have hw := hw2 c
      refine q_aload_nr eX10_areJoined_12 rfl ?_
      refine q_getR flX10_24 rfl hs1 hr3 eX10_areJoined_13 ?_
      refine q_bipush (v := nI 9) eX10_areJoined_16 (by decide) ?_
      refine q_iconst (v := nI 2) eX10_areJoined_18 (by decide) ?_
      refine q_iload_n eX10_areJoined_19 rfl ?_
      refine q_imul eX10_areJoined_20 ?_
      refine q_iadd eX10_areJoined_21 ?_
      obtain ⟨hi7, hw⟩ := hw
      refine q_iald hs4 hi7 eX10_areJoined_22 ?_
      have hw := hw _ rfl
      refine x_istore (ls' := [_, _, _, _, _, _]) eX10_areJoined_23 (by decide) rfl rfl ?_
      refine q_aload_nr eX10_areJoined_25 rfl ?_
      refine q_getR flX10_24 rfl hs1 hr3 eX10_areJoined_26 ?_
      refine q_bipush (v := nI 9) eX10_areJoined_29 (by decide) ?_
      refine q_iconst (v := nI 2) eX10_areJoined_31 (by decide) ?_
      refine q_iload_n eX10_areJoined_32 rfl ?_
      refine q_imul eX10_areJoined_33 ?_
      refine q_iadd eX10_areJoined_34 ?_
      refine q_iconst (v := nI 1) eX10_areJoined_35 (by decide) ?_
      refine q_iadd eX10_areJoined_36 ?_
      obtain ⟨hi9, hw⟩ := hw
      refine q_iald hs4 hi9 eX10_areJoined_37 ?_
      have hw := hw _ rfl
      refine x_istore (ls' := [_, _, _, _, _, _]) eX10_areJoined_38 (by decide) rfl rfl ?_
      refine q_iload eX10_areJoined_40 rfl ?_
      refine q_iload_n eX10_areJoined_42 rfl ?_
      obtain ⟨hw1, hw2⟩ := hw
      refine q_icmp_ne (tgt := 52) eX10_areJoined_43 (by decide) (fun c => ?_) (fun c => ?_)
      · have hw := hw1 c
        refine q_le (ls' := [some _, some _, some _, some _, some _, some _]) ⟨rfl, rfl, rfl, rfl, rfl, rfl, trivial⟩ ?_
        exact tX10_areJoined_52 ih _ _ _ _ _ _ _ hw
      · have hw := hw2 c
        refine q_iload eX10_areJoined_46 rfl ?_
        refine q_iload_n eX10_areJoined_48 rfl ?_
        obtain ⟨hw1, hw2⟩ := hw
        refine q_icmp_eq (tgt := 64) eX10_areJoined_49 (by decide) (fun c => ?_) (fun c => ?_)
        · have hw := hw1 c
          refine q_iconst (v := nI 1) eX10_areJoined_64 (by decide) ?_
          exact q_retZ rfl (by decide) eX10_areJoined_65 ⟨_, rfl, hw⟩
        · have hw := hw2 c
          refine q_le (ls' := [some _, some _, some _, some _, some _, some _]) ⟨rfl, rfl, rfl, rfl, rfl, rfl, trivial⟩ ?_
          exact tX10_areJoined_52 ih _ _ _ _ _ _ _ hw
def wX10_areJoined (x0 : Nat) (x1 : Int32) (x2 : Int32) (h : MH) (Q : Int32 → MH → Prop) : Prop := ∃ m11, wX10_areJoined_2 Q m11 x0 x1 x2 (nI 0) h
set_option maxHeartbeats 4000000 in
set_option maxRecDepth 100000 in
theorem gX10_areJoined (x0 : Nat) (x1 : Int32) (x2 : Int32) (h : MH) (Q : Int32 → MH → Prop) (hw : wX10_areJoined x0 x1 x2 h Q) : Cm MX10_areJoined 0 0 0 [.ref (x0), .int (x1), .int (x2)] h (pI Q) := by
  refine cm_of [some (.ref (x0)), some (.int (x1)), some (.int (x2)), none, none, none] rfl pnX10 (Nat.le_of_ble_eq_true rfl) rfl ?_
  unfold wX10_areJoined at hw
  refine q_iconst (v := nI 0) eX10_areJoined_0 (by decide) ?_
  refine x_istore_n (ls' := [_, _, _, _, _, _]) eX10_areJoined_1 (by decide) rfl rfl ?_
  refine q_le (ls' := [some _, some _, some _, some _, none, none]) ⟨rfl, rfl, rfl, rfl, trivial⟩ ?_
  obtain ⟨m11, hw⟩ := hw
  exact tX10_areJoined_2 m11 _ _ _ _ _ hw
def wX10_readLink_78 (Q : MH → Prop) (x0 : Nat) (x1 : Int32) (x2 : Int32) (h : MH) : Prop := hS h x0 = (1, 10) ∧ ∃ a22, hR h x0 4 = some a22 ∧ ∃ n25, hS h a22 = (2, n25) ∧ vp_in (nI 1) n25 ∧ wX10_takes x0 (nI 0) (hI h a22 (nI 1).toNatClampNeg - nI 1) h (fun r27 h28 => hS h28 x0 = (1, 10) ∧ wX10_named x0 (nI 4) (nI 1) (nI 9) h28 (fun r30 h31 => hS h31 x0 = (1, 10) ∧ wX10_named x0 (nI 5) (nI 0) (nI 2) h31 (fun r33 h34 => hS h34 x0 = (1, 10) ∧ (hI h34 x0 11 = 0 → ∃ a36, hR h34 x0 4 = some a36 ∧ ∃ n39, hS h34 a36 = (2, n39) ∧ vp_in ((nI 9 + (nI 2 * x1))) n39 ∧ ∀ h41, h41 = sI h34 a36 ((nI 9 + (nI 2 * x1))).toNatClampNeg (x2) → vp_in (((nI 9 + (nI 2 * x1)) + nI 1)) n39 ∧ ∀ h43, h43 = sI h41 a36 (((nI 9 + (nI 2 * x1)) + nI 1)).toNatClampNeg (r27) → vp_in ((nI 29 + x1)) n39 ∧ ∀ h45, h45 = sI h43 a36 ((nI 29 + x1)).toNatClampNeg (r30) → vp_in ((nI 39 + x1)) n39 ∧ ∀ h47, h47 = sI h45 a36 ((nI 39 + x1)).toNatClampNeg (r33) → vp_in (nI 2) n39 ∧ vp_in (nI 2) n39 ∧ ∀ h50, h50 = sI h47 a36 (nI 2).toNatClampNeg ((hI h47 a36 (nI 2).toNatClampNeg + nI 1)) → Q h50) ∧ (¬ (hI h34 x0 11 = 0) → Q h34))))
set_option maxHeartbeats 4000000 in
set_option maxRecDepth 100000 in
theorem tX10_readLink_78 {Q : MH → Prop} (h : MH) (x0 : Nat) (x1 : Int32) (x2 : Int32) (hw : wX10_readLink_78 Q x0 x1 x2 h) : Wm MX10_readLink 8 0 0 78 [some (.ref (x0)), some (.int (x1)), some (.int (x2)), none, none, none] [] h (pV Q) := by
  unfold wX10_readLink_78 at hw
  refine q_aload_nr eX10_readLink_78 rfl ?_
  refine q_iconst (v := nI 0) eX10_readLink_79 (by decide) ?_
  refine q_aload_nr eX10_readLink_80 rfl ?_
  obtain ⟨hs21, hw⟩ := hw
  obtain ⟨a22, hr23, hw⟩ := hw
  refine q_getR flX10_24 rfl hs21 hr23 eX10_readLink_81 ?_
  refine q_iconst (v := nI 1) eX10_readLink_84 (by decide) ?_
  obtain ⟨n25, hs24, hw⟩ := hw
  obtain ⟨hi26, hw⟩ := hw
  refine q_iald hs24 hi26 eX10_readLink_85 ?_
  refine q_iconst (v := nI 1) eX10_readLink_86 (by decide) ?_
  refine q_isub eX10_readLink_87 ?_
  refine q_callV (b := 0) (t := 0) (gX10_takes _ _ _ _ _ hw) mlX10_189 kX10_takes vX10_takes rfl hs21 ⟨rfl, rfl⟩ (by decide) rfl (Nat.le_of_ble_eq_true rfl) eX10_readLink_88 (kI fun r27 h28 hw => ?_)
  refine x_istore_n (ls' := [_, _, _, _, _, _]) eX10_readLink_91 (by decide) rfl rfl ?_
  refine q_aload_nr eX10_readLink_92 rfl ?_
  refine q_iconst (v := nI 4) eX10_readLink_93 (by decide) ?_
  refine q_iconst (v := nI 1) eX10_readLink_94 (by decide) ?_
  refine q_bipush (v := nI 9) eX10_readLink_95 (by decide) ?_
  obtain ⟨hs29, hw⟩ := hw
  refine q_callV (b := 0) (t := 0) (gX10_named _ _ _ _ _ _ hw) mlX10_197 kX10_named vX10_named rfl hs29 ⟨rfl, rfl⟩ (by decide) rfl (Nat.le_of_ble_eq_true rfl) eX10_readLink_97 (kI fun r30 h31 hw => ?_)
  refine x_istore (ls' := [_, _, _, _, _, _]) eX10_readLink_100 (by decide) rfl rfl ?_
  refine q_aload_nr eX10_readLink_102 rfl ?_
  refine q_iconst (v := nI 5) eX10_readLink_103 (by decide) ?_
  refine q_iconst (v := nI 0) eX10_readLink_104 (by decide) ?_
  refine q_iconst (v := nI 2) eX10_readLink_105 (by decide) ?_
  obtain ⟨hs32, hw⟩ := hw
  refine q_callV (b := 0) (t := 0) (gX10_named _ _ _ _ _ _ hw) mlX10_197 kX10_named vX10_named rfl hs32 ⟨rfl, rfl⟩ (by decide) rfl (Nat.le_of_ble_eq_true rfl) eX10_readLink_106 (kI fun r33 h34 hw => ?_)
  refine x_istore (ls' := [_, _, _, _, _, _]) eX10_readLink_109 (by decide) rfl rfl ?_
  refine q_aload_nr eX10_readLink_111 rfl ?_
  obtain ⟨hs35, hw⟩ := hw
  refine q_getI flX10_133 rfl hs35 eX10_readLink_112 ?_
  obtain ⟨hw1, hw2⟩ := hw
  refine q_if_eq (tgt := 119) eX10_readLink_115 (by decide) (fun c => ?_) (fun c => ?_)
  · have hw := hw1 c
    refine q_aload_nr eX10_readLink_119 rfl ?_
    obtain ⟨a36, hr37, hw⟩ := hw
    refine q_getR flX10_24 rfl hs35 hr37 eX10_readLink_120 ?_
    refine q_bipush (v := nI 9) eX10_readLink_123 (by decide) ?_
    refine q_iconst (v := nI 2) eX10_readLink_125 (by decide) ?_
    refine q_iload_n eX10_readLink_126 rfl ?_
    refine q_imul eX10_readLink_127 ?_
    refine q_iadd eX10_readLink_128 ?_
    refine q_iload_n eX10_readLink_129 rfl ?_
    obtain ⟨n39, hs38, hw⟩ := hw
    obtain ⟨hi40, hw⟩ := hw
    have hw := hw _ rfl
    refine q_iast hs38 hi40 eX10_readLink_130 ?_
    refine q_aload_nr eX10_readLink_131 rfl ?_
    refine q_getR flX10_24 rfl hs35 hr37 eX10_readLink_132 ?_
    refine q_bipush (v := nI 9) eX10_readLink_135 (by decide) ?_
    refine q_iconst (v := nI 2) eX10_readLink_137 (by decide) ?_
    refine q_iload_n eX10_readLink_138 rfl ?_
    refine q_imul eX10_readLink_139 ?_
    refine q_iadd eX10_readLink_140 ?_
    refine q_iconst (v := nI 1) eX10_readLink_141 (by decide) ?_
    refine q_iadd eX10_readLink_142 ?_
    refine q_iload_n eX10_readLink_143 rfl ?_
    obtain ⟨hi42, hw⟩ := hw
    have hw := hw _ rfl
    refine q_iast hs38 hi42 eX10_readLink_144 ?_
    refine q_aload_nr eX10_readLink_145 rfl ?_
    refine q_getR flX10_24 rfl hs35 hr37 eX10_readLink_146 ?_
    refine q_bipush (v := nI 29) eX10_readLink_149 (by decide) ?_
    refine q_iload_n eX10_readLink_151 rfl ?_
    refine q_iadd eX10_readLink_152 ?_
    refine q_iload eX10_readLink_153 rfl ?_
    obtain ⟨hi44, hw⟩ := hw
    have hw := hw _ rfl
    refine q_iast hs38 hi44 eX10_readLink_155 ?_
    refine q_aload_nr eX10_readLink_156 rfl ?_
    refine q_getR flX10_24 rfl hs35 hr37 eX10_readLink_157 ?_
    refine q_bipush (v := nI 39) eX10_readLink_160 (by decide) ?_
    refine q_iload_n eX10_readLink_162 rfl ?_
    refine q_iadd eX10_readLink_163 ?_
    refine q_iload eX10_readLink_164 rfl ?_
    obtain ⟨hi46, hw⟩ := hw
    have hw := hw _ rfl
    refine q_iast hs38 hi46 eX10_readLink_166 ?_
    refine q_aload_nr eX10_readLink_167 rfl ?_
    refine q_getR flX10_24 rfl hs35 hr37 eX10_readLink_168 ?_
    refine q_iconst (v := nI 2) eX10_readLink_171 (by decide) ?_
    refine q_dup2 eX10_readLink_172 rfl rfl ?_
    obtain ⟨hi48, hw⟩ := hw
    refine q_iald hs38 hi48 eX10_readLink_173 ?_
    refine q_iconst (v := nI 1) eX10_readLink_174 (by decide) ?_
    refine q_iadd eX10_readLink_175 ?_
    obtain ⟨hi49, hw⟩ := hw
    have hw := hw _ rfl
    refine q_iast hs38 hi49 eX10_readLink_176 ?_
    exact q_retV rfl eX10_readLink_177 ⟨rfl, hw⟩
  · have hw := hw2 c
    exact q_retV rfl eX10_readLink_118 ⟨rfl, hw⟩
def wX10_readLink_73 (Q : MH → Prop) (x0 : Nat) (x1 : Int32) (x2 : Int32) (h : MH) : Prop := hS h x0 = (1, 10) ∧ wX10_fails x0 (nI 3) h (fun h54 => wX10_readLink_78 Q x0 x1 x2 h54)
set_option maxHeartbeats 4000000 in
set_option maxRecDepth 100000 in
theorem tX10_readLink_73 {Q : MH → Prop} (h : MH) (x0 : Nat) (x1 : Int32) (x2 : Int32) (hw : wX10_readLink_73 Q x0 x1 x2 h) : Wm MX10_readLink 8 0 0 73 [some (.ref (x0)), some (.int (x1)), some (.int (x2)), none, none, none] [] h (pV Q) := by
  unfold wX10_readLink_73 at hw
  refine q_aload_nr eX10_readLink_73 rfl ?_
  refine q_iconst (v := nI 3) eX10_readLink_74 (by decide) ?_
  obtain ⟨hs52, hw⟩ := hw
  refine q_callV (b := 0) (t := 0) (gX10_fails _ _ _ _ hw) mlX10_145 kX10_fails vX10_fails rfl hs52 ⟨rfl, rfl⟩ (by decide) rfl (Nat.le_of_ble_eq_true rfl) eX10_readLink_75 (kV fun h54 hw => ?_)
  refine q_le (ls' := [some _, some _, some _, none, none, none]) ⟨rfl, rfl, rfl, trivial⟩ ?_
  exact tX10_readLink_78 _ _ _ _ hw
def wX10_readLink_18 (Q : MH → Prop) (x0 : Nat) (x1 : Int32) (h : MH) : Prop := hS h x0 = (1, 10) ∧ (hI h x0 11 = 0 → wX10_next x0 h (fun h9 => hS h9 x0 = (1, 10) ∧ ∃ a11, hR h9 x0 4 = some a11 ∧ ∃ n14, hS h9 a11 = (2, n14) ∧ vp_in (nI 1) n14 ∧ wX10_takes x0 (nI 0) (hI h9 a11 (nI 1).toNatClampNeg - nI 1) h9 (fun r16 h17 => hS h17 x0 = (1, 10) ∧ wX10_is x0 (nI 23) h17 (fun r19 h20 => (r19 = 0 → wX10_readLink_78 Q x0 x1 r16 h20) ∧ (¬ (r19 = 0) → hS h20 x0 = (1, 10) ∧ (hI h20 x0 10 = r16 → wX10_readLink_73 Q x0 x1 r16 h20) ∧ (¬ (hI h20 x0 10 = r16) → wX10_areJoined x0 r16 (hI h20 x0 10) h20 (fun r55 h56 => (r55 = 0 → wX10_readLink_78 Q x0 x1 r16 h56) ∧ (¬ (r55 = 0) → wX10_readLink_73 Q x0 x1 r16 h56)))))))) ∧ (¬ (hI h x0 11 = 0) → Q h)
set_option maxHeartbeats 4000000 in
set_option maxRecDepth 100000 in
theorem tX10_readLink_18 {Q : MH → Prop} (h : MH) (x0 : Nat) (x1 : Int32) (hw : wX10_readLink_18 Q x0 x1 h) : Wm MX10_readLink 8 0 0 18 [some (.ref (x0)), some (.int (x1)), none, none, none, none] [] h (pV Q) := by
  unfold wX10_readLink_18 at hw
  refine q_aload_nr eX10_readLink_18 rfl ?_
  obtain ⟨hs7, hw⟩ := hw
  refine q_getI flX10_133 rfl hs7 eX10_readLink_19 ?_
  obtain ⟨hw1, hw2⟩ := hw
  refine q_if_eq (tgt := 26) eX10_readLink_22 (by decide) (fun c => ?_) (fun c => ?_)
  · have hw := hw1 c
    refine q_aload_nr eX10_readLink_26 rfl ?_
    refine q_callV (b := 0) (t := 0) (gX10_next _ _ _ hw) mlX10_142 kX10_next vX10_next rfl hs7 ⟨rfl, rfl⟩ (by decide) rfl (Nat.le_of_ble_eq_true rfl) eX10_readLink_27 (kV fun h9 hw => ?_)
    refine q_aload_nr eX10_readLink_30 rfl ?_
    refine q_iconst (v := nI 0) eX10_readLink_31 (by decide) ?_
    refine q_aload_nr eX10_readLink_32 rfl ?_
    obtain ⟨hs10, hw⟩ := hw
    obtain ⟨a11, hr12, hw⟩ := hw
    refine q_getR flX10_24 rfl hs10 hr12 eX10_readLink_33 ?_
    refine q_iconst (v := nI 1) eX10_readLink_36 (by decide) ?_
    obtain ⟨n14, hs13, hw⟩ := hw
    obtain ⟨hi15, hw⟩ := hw
    refine q_iald hs13 hi15 eX10_readLink_37 ?_
    refine q_iconst (v := nI 1) eX10_readLink_38 (by decide) ?_
    refine q_isub eX10_readLink_39 ?_
    refine q_callV (b := 0) (t := 0) (gX10_takes _ _ _ _ _ hw) mlX10_189 kX10_takes vX10_takes rfl hs10 ⟨rfl, rfl⟩ (by decide) rfl (Nat.le_of_ble_eq_true rfl) eX10_readLink_40 (kI fun r16 h17 hw => ?_)
    refine x_istore_n (ls' := [_, _, _, _, _, _]) eX10_readLink_43 (by decide) rfl rfl ?_
    refine q_aload_nr eX10_readLink_44 rfl ?_
    refine q_bipush (v := nI 23) eX10_readLink_45 (by decide) ?_
    obtain ⟨hs18, hw⟩ := hw
    refine q_callV (b := 0) (t := 0) (gX10_is _ _ _ _ hw) mlX10_139 kX10_is vX10_is rfl hs18 ⟨rfl, rfl⟩ (by decide) rfl (Nat.le_of_ble_eq_true rfl) eX10_readLink_47 (kI fun r19 h20 hw => ?_)
    obtain ⟨hw1, hw2⟩ := hw
    refine q_if_eq (tgt := 78) eX10_readLink_50 (by decide) (fun c => ?_) (fun c => ?_)
    · have hw := hw1 c
      refine q_le (ls' := [some _, some _, some _, none, none, none]) ⟨rfl, rfl, rfl, trivial⟩ ?_
      exact tX10_readLink_78 _ _ _ _ hw
    · have hw := hw2 c
      refine q_aload_nr eX10_readLink_53 rfl ?_
      obtain ⟨hs51, hw⟩ := hw
      refine q_getI flX10_128 rfl hs51 eX10_readLink_54 ?_
      refine q_iload_n eX10_readLink_57 rfl ?_
      obtain ⟨hw1, hw2⟩ := hw
      refine q_icmp_eq (tgt := 73) eX10_readLink_58 (by decide) (fun c => ?_) (fun c => ?_)
      · have hw := hw1 c
        refine q_le (ls' := [some _, some _, some _, none, none, none]) ⟨rfl, rfl, rfl, trivial⟩ ?_
        exact tX10_readLink_73 _ _ _ _ hw
      · have hw := hw2 c
        refine q_aload_nr eX10_readLink_61 rfl ?_
        refine q_iload_n eX10_readLink_62 rfl ?_
        refine q_aload_nr eX10_readLink_63 rfl ?_
        refine q_getI flX10_128 rfl hs51 eX10_readLink_64 ?_
        refine q_callV (b := 0) (t := 0) (gX10_areJoined _ _ _ _ _ hw) mlX10_193 kX10_areJoined vX10_areJoined rfl hs51 ⟨rfl, rfl⟩ (by decide) rfl (Nat.le_of_ble_eq_true rfl) eX10_readLink_67 (kI fun r55 h56 hw => ?_)
        obtain ⟨hw1, hw2⟩ := hw
        refine q_if_eq (tgt := 78) eX10_readLink_70 (by decide) (fun c => ?_) (fun c => ?_)
        · have hw := hw1 c
          refine q_le (ls' := [some _, some _, some _, none, none, none]) ⟨rfl, rfl, rfl, trivial⟩ ?_
          exact tX10_readLink_78 _ _ _ _ hw
        · have hw := hw2 c
          refine q_le (ls' := [some _, some _, some _, none, none, none]) ⟨rfl, rfl, rfl, trivial⟩ ?_
          exact tX10_readLink_73 _ _ _ _ hw
  · have hw := hw2 c
    exact q_retV rfl eX10_readLink_25 ⟨rfl, hw⟩
def wX10_readLink (x0 : Nat) (h : MH) (Q : MH → Prop) : Prop := hS h x0 = (1, 10) ∧ ∃ a2, hR h x0 4 = some a2 ∧ ∃ n5, hS h a2 = (2, n5) ∧ vp_in (nI 2) n5 ∧ (¬ (hI h a2 (nI 2).toNatClampNeg = nI 10) → wX10_readLink_18 Q x0 (hI h a2 (nI 2).toNatClampNeg) h) ∧ (hI h a2 (nI 2).toNatClampNeg = nI 10 → wX10_fails x0 (nI 4) h (fun h58 => wX10_readLink_18 Q x0 (hI h a2 (nI 2).toNatClampNeg) h58))
set_option maxHeartbeats 4000000 in
set_option maxRecDepth 100000 in
theorem gX10_readLink (x0 : Nat) (h : MH) (Q : MH → Prop) (hw : wX10_readLink x0 h Q) : Cm MX10_readLink 8 0 0 [.ref (x0)] h (pV Q) := by
  refine cm_of [some (.ref (x0)), none, none, none, none, none] rfl pnX10 (Nat.le_of_ble_eq_true rfl) rfl ?_
  unfold wX10_readLink at hw
  refine q_aload_nr eX10_readLink_0 rfl ?_
  obtain ⟨hs1, hw⟩ := hw
  obtain ⟨a2, hr3, hw⟩ := hw
  refine q_getR flX10_24 rfl hs1 hr3 eX10_readLink_1 ?_
  refine q_iconst (v := nI 2) eX10_readLink_4 (by decide) ?_
  obtain ⟨n5, hs4, hw⟩ := hw
  obtain ⟨hi6, hw⟩ := hw
  refine q_iald hs4 hi6 eX10_readLink_5 ?_
  refine x_istore_n (ls' := [_, _, _, _, _, _]) eX10_readLink_6 (by decide) rfl rfl ?_
  refine q_iload_n eX10_readLink_7 rfl ?_
  refine q_bipush (v := nI 10) eX10_readLink_8 (by decide) ?_
  obtain ⟨hw1, hw2⟩ := hw
  refine q_icmp_ne (tgt := 18) eX10_readLink_10 (by decide) (fun c => ?_) (fun c => ?_)
  · have hw := hw1 c
    refine q_le (ls' := [some _, some _, none, none, none, none]) ⟨rfl, rfl, trivial⟩ ?_
    exact tX10_readLink_18 _ _ _ hw
  · have hw := hw2 c
    refine q_aload_nr eX10_readLink_13 rfl ?_
    refine q_iconst (v := nI 4) eX10_readLink_14 (by decide) ?_
    refine q_callV (b := 0) (t := 0) (gX10_fails _ _ _ _ hw) mlX10_145 kX10_fails vX10_fails rfl hs1 ⟨rfl, rfl⟩ (by decide) rfl (Nat.le_of_ble_eq_true rfl) eX10_readLink_15 (kV fun h58 hw => ?_)
    refine q_le (ls' := [some _, some _, none, none, none, none]) ⟨rfl, rfl, trivial⟩ ?_
    exact tX10_readLink_18 _ _ _ hw
def wX10_readLaw_49 (Q : MH → Prop) (x0 : Nat) (x1 : Int32) (x2 : Int32) (h : MH) : Prop := hS h x0 = (1, 10) ∧ (hI h x0 11 = 0 → ∃ a17, hR h x0 4 = some a17 ∧ ∃ n20, hS h a17 = (2, n20) ∧ vp_in ((nI 3 + x1)) n20 ∧ ∀ h22, h22 = sI h a17 ((nI 3 + x1)).toNatClampNeg (nI 1) → vp_in ((nI 5 + x1)) n20 ∧ ∀ h24, h24 = sI h22 a17 ((nI 5 + x1)).toNatClampNeg (x2) → vp_in (nI 1436) n20 ∧ vp_in ((nI 7 + x1)) n20 ∧ ∀ h27, h27 = sI h24 a17 ((nI 7 + x1)).toNatClampNeg ((hI h24 a17 (nI 1436).toNatClampNeg - x2)) → Q h27) ∧ (¬ (hI h x0 11 = 0) → Q h)
set_option maxHeartbeats 4000000 in
set_option maxRecDepth 100000 in
theorem tX10_readLaw_49 {Q : MH → Prop} (h : MH) (x0 : Nat) (x1 : Int32) (x2 : Int32) (hw : wX10_readLaw_49 Q x0 x1 x2 h) : Wm MX10_readLaw 301 0 0 49 [some (.ref (x0)), some (.int (x1)), some (.int (x2))] [] h (pV Q) := by
  unfold wX10_readLaw_49 at hw
  refine q_aload_nr eX10_readLaw_49 rfl ?_
  obtain ⟨hs16, hw⟩ := hw
  refine q_getI flX10_133 rfl hs16 eX10_readLaw_50 ?_
  obtain ⟨hw1, hw2⟩ := hw
  refine q_if_eq (tgt := 57) eX10_readLaw_53 (by decide) (fun c => ?_) (fun c => ?_)
  · have hw := hw1 c
    refine q_aload_nr eX10_readLaw_57 rfl ?_
    obtain ⟨a17, hr18, hw⟩ := hw
    refine q_getR flX10_24 rfl hs16 hr18 eX10_readLaw_58 ?_
    refine q_iconst (v := nI 3) eX10_readLaw_61 (by decide) ?_
    refine q_iload_n eX10_readLaw_62 rfl ?_
    refine q_iadd eX10_readLaw_63 ?_
    refine q_iconst (v := nI 1) eX10_readLaw_64 (by decide) ?_
    obtain ⟨n20, hs19, hw⟩ := hw
    obtain ⟨hi21, hw⟩ := hw
    have hw := hw _ rfl
    refine q_iast hs19 hi21 eX10_readLaw_65 ?_
    refine q_aload_nr eX10_readLaw_66 rfl ?_
    refine q_getR flX10_24 rfl hs16 hr18 eX10_readLaw_67 ?_
    refine q_iconst (v := nI 5) eX10_readLaw_70 (by decide) ?_
    refine q_iload_n eX10_readLaw_71 rfl ?_
    refine q_iadd eX10_readLaw_72 ?_
    refine q_iload_n eX10_readLaw_73 rfl ?_
    obtain ⟨hi23, hw⟩ := hw
    have hw := hw _ rfl
    refine q_iast hs19 hi23 eX10_readLaw_74 ?_
    refine q_aload_nr eX10_readLaw_75 rfl ?_
    refine q_getR flX10_24 rfl hs16 hr18 eX10_readLaw_76 ?_
    refine q_bipush (v := nI 7) eX10_readLaw_79 (by decide) ?_
    refine q_iload_n eX10_readLaw_81 rfl ?_
    refine q_iadd eX10_readLaw_82 ?_
    refine q_aload_nr eX10_readLaw_83 rfl ?_
    refine q_getR flX10_24 rfl hs16 hr18 eX10_readLaw_84 ?_
    refine q_sipush (v := nI 1436) eX10_readLaw_87 (by decide) ?_
    obtain ⟨hi25, hw⟩ := hw
    refine q_iald hs19 hi25 eX10_readLaw_90 ?_
    refine q_iload_n eX10_readLaw_91 rfl ?_
    refine q_isub eX10_readLaw_92 ?_
    obtain ⟨hi26, hw⟩ := hw
    have hw := hw _ rfl
    refine q_iast hs19 hi26 eX10_readLaw_93 ?_
    exact q_retV rfl eX10_readLaw_94 ⟨rfl, hw⟩
  · have hw := hw2 c
    exact q_retV rfl eX10_readLaw_56 ⟨rfl, hw⟩
def wX10_readLaw_18 (Q : MH → Prop) (x0 : Nat) (x1 : Int32) (h : MH) : Prop := hS h x0 = (1, 10) ∧ ∃ a8, hR h x0 4 = some a8 ∧ ∃ n11, hS h a8 = (2, n11) ∧ vp_in (nI 1436) n11 ∧ ∀ h13, h13 = sI h x0 15 (x1) → (¬ (x1 = 0) → Cm MX10_readTruth 300 0 0 [.ref (x0), .int (nI 0)] h13 (pV fun h15 => wX10_readLaw_49 Q x0 x1 (hI h a8 (nI 1436).toNatClampNeg) h15)) ∧ (x1 = 0 → Cm MX10_readSum 300 0 0 [.ref (x0), .int (nI 0)] h13 (pV fun h29 => wX10_readLaw_49 Q x0 x1 (hI h a8 (nI 1436).toNatClampNeg) h29))
set_option maxHeartbeats 4000000 in
set_option maxRecDepth 100000 in
theorem tX10_readLaw_18 {Q : MH → Prop} (h : MH) (x0 : Nat) (x1 : Int32) (hw : wX10_readLaw_18 Q x0 x1 h) : Wm MX10_readLaw 301 0 0 18 [some (.ref (x0)), some (.int (x1)), none] [] h (pV Q) := by
  unfold wX10_readLaw_18 at hw
  refine q_aload_nr eX10_readLaw_18 rfl ?_
  obtain ⟨hs7, hw⟩ := hw
  obtain ⟨a8, hr9, hw⟩ := hw
  refine q_getR flX10_24 rfl hs7 hr9 eX10_readLaw_19 ?_
  refine q_sipush (v := nI 1436) eX10_readLaw_22 (by decide) ?_
  obtain ⟨n11, hs10, hw⟩ := hw
  obtain ⟨hi12, hw⟩ := hw
  refine q_iald hs10 hi12 eX10_readLaw_25 ?_
  refine x_istore_n (ls' := [_, _, _]) eX10_readLaw_26 (by decide) rfl rfl ?_
  refine q_aload_nr eX10_readLaw_27 rfl ?_
  refine q_iload_n eX10_readLaw_28 rfl ?_
  have hw := hw _ rfl
  refine q_putI (fwX10_153 _) rfl hs7 eX10_readLaw_29 ?_
  refine q_iload_n eX10_readLaw_32 rfl ?_
  obtain ⟨hw1, hw2⟩ := hw
  refine q_if_ne (tgt := 44) eX10_readLaw_33 (by decide) (fun c => ?_) (fun c => ?_)
  · have hw := hw1 c
    refine q_aload_nr eX10_readLaw_44 rfl ?_
    refine q_iconst (v := nI 0) eX10_readLaw_45 (by decide) ?_
    refine q_callV (b := 0) (t := 0) hw mlX10_174 kX10_readTruth vX10_readTruth rfl hs7 ⟨rfl, rfl⟩ (by decide) rfl (Nat.le_of_ble_eq_true rfl) eX10_readLaw_46 (kV fun h15 hw => ?_)
    refine q_le (ls' := [some _, some _, some _]) ⟨rfl, rfl, rfl, trivial⟩ ?_
    exact tX10_readLaw_49 _ _ _ _ hw
  · have hw := hw2 c
    refine q_aload_nr eX10_readLaw_36 rfl ?_
    refine q_iconst (v := nI 0) eX10_readLaw_37 (by decide) ?_
    refine q_callV (b := 0) (t := 0) hw mlX10_165 kX10_readSum vX10_readSum rfl hs7 ⟨rfl, rfl⟩ (by decide) rfl (Nat.le_of_ble_eq_true rfl) eX10_readLaw_38 (kV fun h29 hw => ?_)
    refine q_goto (tgt := 49) eX10_readLaw_41 (by decide) ?_
    refine q_le (ls' := [some _, some _, some _]) ⟨rfl, rfl, rfl, trivial⟩ ?_
    exact tX10_readLaw_49 _ _ _ _ hw
def wX10_readLaw (x0 : Nat) (x1 : Int32) (h : MH) (Q : MH → Prop) : Prop := hS h x0 = (1, 10) ∧ wX10_next x0 h (fun h3 => hS h3 x0 = (1, 10) ∧ wX10_eats x0 (nI 31) h3 (fun r5 h6 => (¬ (r5 = 0) → wX10_readLaw_18 Q x0 x1 h6) ∧ (r5 = 0 → hS h6 x0 = (1, 10) ∧ wX10_fails x0 (nI 2) h6 (fun h32 => wX10_readLaw_18 Q x0 x1 h32))))
set_option maxHeartbeats 4000000 in
set_option maxRecDepth 100000 in
theorem gX10_readLaw (x0 : Nat) (x1 : Int32) (h : MH) (Q : MH → Prop) (hw : wX10_readLaw x0 x1 h Q) : Cm MX10_readLaw 301 0 0 [.ref (x0), .int (x1)] h (pV Q) := by
  refine cm_of [some (.ref (x0)), some (.int (x1)), none] rfl pnX10 (Nat.le_of_ble_eq_true rfl) rfl ?_
  unfold wX10_readLaw at hw
  refine q_aload_nr eX10_readLaw_0 rfl ?_
  obtain ⟨hs1, hw⟩ := hw
  refine q_callV (b := 0) (t := 0) (gX10_next _ _ _ hw) mlX10_142 kX10_next vX10_next rfl hs1 ⟨rfl, rfl⟩ (by decide) rfl (Nat.le_of_ble_eq_true rfl) eX10_readLaw_1 (kV fun h3 hw => ?_)
  refine q_aload_nr eX10_readLaw_4 rfl ?_
  refine q_bipush (v := nI 31) eX10_readLaw_5 (by decide) ?_
  obtain ⟨hs4, hw⟩ := hw
  refine q_callV (b := 0) (t := 0) (gX10_eats _ _ _ _ hw) mlX10_168 kX10_eats vX10_eats rfl hs4 ⟨rfl, rfl⟩ (by decide) rfl (Nat.le_of_ble_eq_true rfl) eX10_readLaw_7 (kI fun r5 h6 hw => ?_)
  obtain ⟨hw1, hw2⟩ := hw
  refine q_if_ne (tgt := 18) eX10_readLaw_10 (by decide) (fun c => ?_) (fun c => ?_)
  · have hw := hw1 c
    refine q_le (ls' := [some _, some _, none]) ⟨rfl, rfl, trivial⟩ ?_
    exact tX10_readLaw_18 _ _ _ hw
  · have hw := hw2 c
    refine q_aload_nr eX10_readLaw_13 rfl ?_
    refine q_iconst (v := nI 2) eX10_readLaw_14 (by decide) ?_
    obtain ⟨hs30, hw⟩ := hw
    refine q_callV (b := 0) (t := 0) (gX10_fails _ _ _ _ hw) mlX10_145 kX10_fails vX10_fails rfl hs30 ⟨rfl, rfl⟩ (by decide) rfl (Nat.le_of_ble_eq_true rfl) eX10_readLaw_15 (kV fun h32 hw => ?_)
    refine q_le (ls' := [some _, some _, none]) ⟨rfl, rfl, trivial⟩ ?_
    exact tX10_readLaw_18 _ _ _ hw
def wX10_readLine_41 (Q : MH → Prop) (x0 : Nat) (h : MH) : Prop := hS h x0 = (1, 10) ∧ wX10_readLaw x0 (hI h x0 9 - nI 6) h (fun h9 => Q h9)
set_option maxHeartbeats 4000000 in
set_option maxRecDepth 100000 in
theorem tX10_readLine_41 {Q : MH → Prop} (h : MH) (x0 : Nat) (hw : wX10_readLine_41 Q x0 h) : Wm MX10_readLine 302 0 0 41 [some (.ref (x0))] [] h (pV Q) := by
  unfold wX10_readLine_41 at hw
  refine q_aload_nr eX10_readLine_41 rfl ?_
  refine q_aload_nr eX10_readLine_42 rfl ?_
  obtain ⟨hs7, hw⟩ := hw
  refine q_getI flX10_115 rfl hs7 eX10_readLine_43 ?_
  refine q_bipush (v := nI 6) eX10_readLine_46 (by decide) ?_
  refine q_isub eX10_readLine_48 ?_
  refine q_callV (b := 0) (t := 0) (gX10_readLaw _ _ _ _ hw) mlX10_204 kX10_readLaw vX10_readLaw rfl hs7 ⟨rfl, rfl⟩ (by decide) rfl (Nat.le_of_ble_eq_true rfl) eX10_readLine_49 (kV fun h9 hw => ?_)
  refine q_goto (tgt := 60) eX10_readLine_52 (by decide) ?_
  exact q_retV rfl eX10_readLine_60 ⟨rfl, hw⟩
def wX10_readLine (x0 : Nat) (h : MH) (Q : MH → Prop) : Prop := hS h x0 = (1, 10) ∧ (hI h x0 11 = 0 → wX10_is x0 (nI 3) h (fun r2 h3 => (r2 = 0 → hS h3 x0 = (1, 10) ∧ wX10_is x0 (nI 6) h3 (fun r5 h6 => (¬ (r5 = 0) → wX10_readLine_41 Q x0 h6) ∧ (r5 = 0 → hS h6 x0 = (1, 10) ∧ wX10_is x0 (nI 7) h6 (fun r11 h12 => (r11 = 0 → hS h12 x0 = (1, 10) ∧ wX10_fails x0 (nI 2) h12 (fun h15 => Q h15)) ∧ (¬ (r11 = 0) → wX10_readLine_41 Q x0 h12))))) ∧ (¬ (r2 = 0) → hS h3 x0 = (1, 10) ∧ wX10_readLink x0 h3 (fun h18 => Q h18)))) ∧ (¬ (hI h x0 11 = 0) → Q h)
set_option maxHeartbeats 4000000 in
set_option maxRecDepth 100000 in
theorem gX10_readLine (x0 : Nat) (h : MH) (Q : MH → Prop) (hw : wX10_readLine x0 h Q) : Cm MX10_readLine 302 0 0 [.ref (x0)] h (pV Q) := by
  refine cm_of [some (.ref (x0))] rfl pnX10 (Nat.le_of_ble_eq_true rfl) rfl ?_
  unfold wX10_readLine at hw
  refine q_aload_nr eX10_readLine_0 rfl ?_
  obtain ⟨hs1, hw⟩ := hw
  refine q_getI flX10_133 rfl hs1 eX10_readLine_1 ?_
  obtain ⟨hw1, hw2⟩ := hw
  refine q_if_eq (tgt := 8) eX10_readLine_4 (by decide) (fun c => ?_) (fun c => ?_)
  · have hw := hw1 c
    refine q_aload_nr eX10_readLine_8 rfl ?_
    refine q_iconst (v := nI 3) eX10_readLine_9 (by decide) ?_
    refine q_callV (b := 0) (t := 0) (gX10_is _ _ _ _ hw) mlX10_139 kX10_is vX10_is rfl hs1 ⟨rfl, rfl⟩ (by decide) rfl (Nat.le_of_ble_eq_true rfl) eX10_readLine_10 (kI fun r2 h3 hw => ?_)
    obtain ⟨hw1, hw2⟩ := hw
    refine q_if_eq (tgt := 23) eX10_readLine_13 (by decide) (fun c => ?_) (fun c => ?_)
    · have hw := hw1 c
      refine q_aload_nr eX10_readLine_23 rfl ?_
      refine q_bipush (v := nI 6) eX10_readLine_24 (by decide) ?_
      obtain ⟨hs4, hw⟩ := hw
      refine q_callV (b := 0) (t := 0) (gX10_is _ _ _ _ hw) mlX10_139 kX10_is vX10_is rfl hs4 ⟨rfl, rfl⟩ (by decide) rfl (Nat.le_of_ble_eq_true rfl) eX10_readLine_26 (kI fun r5 h6 hw => ?_)
      obtain ⟨hw1, hw2⟩ := hw
      refine q_if_ne (tgt := 41) eX10_readLine_29 (by decide) (fun c => ?_) (fun c => ?_)
      · have hw := hw1 c
        refine q_le (ls' := [some _]) ⟨rfl, trivial⟩ ?_
        exact tX10_readLine_41 _ _ hw
      · have hw := hw2 c
        refine q_aload_nr eX10_readLine_32 rfl ?_
        refine q_bipush (v := nI 7) eX10_readLine_33 (by decide) ?_
        obtain ⟨hs10, hw⟩ := hw
        refine q_callV (b := 0) (t := 0) (gX10_is _ _ _ _ hw) mlX10_139 kX10_is vX10_is rfl hs10 ⟨rfl, rfl⟩ (by decide) rfl (Nat.le_of_ble_eq_true rfl) eX10_readLine_35 (kI fun r11 h12 hw => ?_)
        obtain ⟨hw1, hw2⟩ := hw
        refine q_if_eq (tgt := 55) eX10_readLine_38 (by decide) (fun c => ?_) (fun c => ?_)
        · have hw := hw1 c
          refine q_aload_nr eX10_readLine_55 rfl ?_
          refine q_iconst (v := nI 2) eX10_readLine_56 (by decide) ?_
          obtain ⟨hs13, hw⟩ := hw
          refine q_callV (b := 0) (t := 0) (gX10_fails _ _ _ _ hw) mlX10_145 kX10_fails vX10_fails rfl hs13 ⟨rfl, rfl⟩ (by decide) rfl (Nat.le_of_ble_eq_true rfl) eX10_readLine_57 (kV fun h15 hw => ?_)
          exact q_retV rfl eX10_readLine_60 ⟨rfl, hw⟩
        · have hw := hw2 c
          refine q_le (ls' := [some _]) ⟨rfl, trivial⟩ ?_
          exact tX10_readLine_41 _ _ hw
    · have hw := hw2 c
      refine q_aload_nr eX10_readLine_16 rfl ?_
      obtain ⟨hs16, hw⟩ := hw
      refine q_callV (b := 0) (t := 0) (gX10_readLink _ _ _ hw) mlX10_201 kX10_readLink vX10_readLink rfl hs16 ⟨rfl, rfl⟩ (by decide) rfl (Nat.le_of_ble_eq_true rfl) eX10_readLine_17 (kV fun h18 hw => ?_)
      refine q_goto (tgt := 60) eX10_readLine_20 (by decide) ?_
      exact q_retV rfl eX10_readLine_60 ⟨rfl, hw⟩
  · have hw := hw2 c
    exact q_retV rfl eX10_readLine_7 ⟨rfl, hw⟩
def wX10_closes_14 (Q : MH → Prop) (x0 : Nat) (h : MH) : Prop := hS h x0 = (1, 10) ∧ ∃ a5, hR h x0 4 = some a5 ∧ ∃ n8, hS h a5 = (2, n8) ∧ vp_in (nI 0) n8 ∧ vp_in (nI 0) n8 ∧ ∀ h11, h11 = sI h a5 (nI 0).toNatClampNeg ((hI h a5 (nI 0).toNatClampNeg + nI 1)) → Q h11
set_option maxHeartbeats 4000000 in
set_option maxRecDepth 100000 in
theorem tX10_closes_14 {Q : MH → Prop} (h : MH) (x0 : Nat) (hw : wX10_closes_14 Q x0 h) : Wm MX10_closes 7 0 0 14 [some (.ref (x0))] [] h (pV Q) := by
  unfold wX10_closes_14 at hw
  refine q_aload_nr eX10_closes_14 rfl ?_
  obtain ⟨hs4, hw⟩ := hw
  obtain ⟨a5, hr6, hw⟩ := hw
  refine q_getR flX10_24 rfl hs4 hr6 eX10_closes_15 ?_
  refine q_iconst (v := nI 0) eX10_closes_18 (by decide) ?_
  refine q_dup2 eX10_closes_19 rfl rfl ?_
  obtain ⟨n8, hs7, hw⟩ := hw
  obtain ⟨hi9, hw⟩ := hw
  refine q_iald hs7 hi9 eX10_closes_20 ?_
  refine q_iconst (v := nI 1) eX10_closes_21 (by decide) ?_
  refine q_iadd eX10_closes_22 ?_
  obtain ⟨hi10, hw⟩ := hw
  have hw := hw _ rfl
  refine q_iast hs7 hi10 eX10_closes_23 ?_
  exact q_retV rfl eX10_closes_24 ⟨rfl, hw⟩
def wX10_closes (x0 : Nat) (h : MH) (Q : MH → Prop) : Prop := hS h x0 = (1, 10) ∧ wX10_eats x0 (nI 30) h (fun r2 h3 => (¬ (r2 = 0) → wX10_closes_14 Q x0 h3) ∧ (r2 = 0 → hS h3 x0 = (1, 10) ∧ wX10_fails x0 (nI 2) h3 (fun h14 => wX10_closes_14 Q x0 h14)))
set_option maxHeartbeats 4000000 in
set_option maxRecDepth 100000 in
theorem gX10_closes (x0 : Nat) (h : MH) (Q : MH → Prop) (hw : wX10_closes x0 h Q) : Cm MX10_closes 7 0 0 [.ref (x0)] h (pV Q) := by
  refine cm_of [some (.ref (x0))] rfl pnX10 (Nat.le_of_ble_eq_true rfl) rfl ?_
  unfold wX10_closes at hw
  refine q_aload_nr eX10_closes_0 rfl ?_
  refine q_bipush (v := nI 30) eX10_closes_1 (by decide) ?_
  obtain ⟨hs1, hw⟩ := hw
  refine q_callV (b := 0) (t := 0) (gX10_eats _ _ _ _ hw) mlX10_168 kX10_eats vX10_eats rfl hs1 ⟨rfl, rfl⟩ (by decide) rfl (Nat.le_of_ble_eq_true rfl) eX10_closes_3 (kI fun r2 h3 hw => ?_)
  obtain ⟨hw1, hw2⟩ := hw
  refine q_if_ne (tgt := 14) eX10_closes_6 (by decide) (fun c => ?_) (fun c => ?_)
  · have hw := hw1 c
    refine q_le (ls' := [some _]) ⟨rfl, trivial⟩ ?_
    exact tX10_closes_14 _ _ hw
  · have hw := hw2 c
    refine q_aload_nr eX10_closes_9 rfl ?_
    refine q_iconst (v := nI 2) eX10_closes_10 (by decide) ?_
    obtain ⟨hs12, hw⟩ := hw
    refine q_callV (b := 0) (t := 0) (gX10_fails _ _ _ _ hw) mlX10_145 kX10_fails vX10_fails rfl hs12 ⟨rfl, rfl⟩ (by decide) rfl (Nat.le_of_ble_eq_true rfl) eX10_closes_11 (kV fun h14 hw => ?_)
    refine q_le (ls' := [some _]) ⟨rfl, trivial⟩ ?_
    exact tX10_closes_14 _ _ hw
def wX10_net_170 (Q : Int32 → MH → Prop) : Nat → Nat → Int32 → MH → Prop
  | 0, _, _, _ => False
  | n + 1, x0, x2, h => (nI 2337 ≤ x2 → hS h x0 = (1, 10) ∧ wX10_laysRings x0 h (fun h49 => hS h49 x0 = (1, 10) ∧ ∃ a51, hR h49 x0 1 = some a51 ∧ ∃ n54, hS h49 a51 = (2, n54) ∧ vp_in (nI 0) n54 ∧ Q (hI h49 a51 (nI 0).toNatClampNeg) h49)) ∧ (¬ (nI 2337 ≤ x2) → hS h x0 = (1, 10) ∧ ∃ a57, hR h x0 1 = some a57 ∧ ∃ a59, hR h x0 4 = some a59 ∧ ∃ n62, hS h a59 = (2, n62) ∧ vp_in (x2) n62 ∧ ∃ n65, hS h a57 = (2, n65) ∧ vp_in (x2) n65 ∧ ∀ h67, h67 = sI h a57 (x2).toNatClampNeg (hI h a59 (x2).toNatClampNeg) → wX10_net_170 Q n x0 (x2 + nI 1) h67)
set_option maxHeartbeats 4000000 in
set_option maxRecDepth 100000 in
theorem tX10_net_170 {Q : Int32 → MH → Prop} : ∀ (n : Nat) (h : MH) (x0 : Nat) (x2 : Int32), wX10_net_170 Q n x0 x2 h → Wm MX10_net 303 0 0 170 [some (.ref (x0)), none, some (.int (x2))] [] h (pI Q) := by
  intro n
  induction n with
  | zero => intro h x0 x2 hw; exact hw.elim
  | succ n ih =>
    intro h x0 x2 hw
    unfold wX10_net_170 at hw
    refine q_iload_n eX10_net_170 rfl ?_
    refine q_sipush (v := nI 2337) eX10_net_171 (by decide) ?_
    obtain ⟨hw1, hw2⟩ := hw
    refine q_icmp_ge (tgt := 195) eX10_net_174 (by decide) (fun c => ?_) (fun c => ?_)
    · have hw := hw1 c
      refine q_aload_nr eX10_net_195 rfl ?_
      obtain ⟨hs47, hw⟩ := hw
      refine q_callV (b := 0) (t := 0) (gX10_laysRings _ _ _ hw) mlX10_84 kX10_laysRings vX10_laysRings rfl hs47 ⟨rfl, rfl⟩ (by decide) rfl (Nat.le_of_ble_eq_true rfl) eX10_net_196 (kV fun h49 hw => ?_)
      refine q_aload_nr eX10_net_199 rfl ?_
      obtain ⟨hs50, hw⟩ := hw
      obtain ⟨a51, hr52, hw⟩ := hw
      refine q_getR flX10_13 rfl hs50 hr52 eX10_net_200 ?_
      refine q_iconst (v := nI 0) eX10_net_203 (by decide) ?_
      obtain ⟨n54, hs53, hw⟩ := hw
      obtain ⟨hi55, hw⟩ := hw
      refine q_iald hs53 hi55 eX10_net_204 ?_
      exact q_ret rfl eX10_net_205 ⟨_, rfl, hw⟩
    · have hw := hw2 c
      refine q_aload_nr eX10_net_177 rfl ?_
      obtain ⟨hs56, hw⟩ := hw
      obtain ⟨a57, hr58, hw⟩ := hw
      refine q_getR flX10_13 rfl hs56 hr58 eX10_net_178 ?_
      refine q_iload_n eX10_net_181 rfl ?_
      refine q_aload_nr eX10_net_182 rfl ?_
      obtain ⟨a59, hr60, hw⟩ := hw
      refine q_getR flX10_24 rfl hs56 hr60 eX10_net_183 ?_
      refine q_iload_n eX10_net_186 rfl ?_
      obtain ⟨n62, hs61, hw⟩ := hw
      obtain ⟨hi63, hw⟩ := hw
      refine q_iald hs61 hi63 eX10_net_187 ?_
      obtain ⟨n65, hs64, hw⟩ := hw
      obtain ⟨hi66, hw⟩ := hw
      have hw := hw _ rfl
      refine q_iast hs64 hi66 eX10_net_188 ?_
      refine x_iinc (v := (x2 + nI 1)) (ls' := [_, _, _]) eX10_net_189 rfl rfl rfl rfl ?_
      refine q_goto (tgt := 170) eX10_net_192 (by decide) ?_
      refine q_le (ls' := [some _, none, some _]) ⟨rfl, rfl, trivial⟩ ?_
      exact ih _ _ _ hw
def wX10_net_150 (Q : Int32 → MH → Prop) (x0 : Nat) (s0 : Int32) (s1 : Nat) (h : MH) : Prop := hS h s1 = (1, 10) ∧ ∀ h45, h45 = sI h s1 14 (s0) → hS h45 x0 = (1, 10) ∧ (hI h45 x0 11 = 0 → ∃ m68, wX10_net_170 Q m68 x0 (nI 0) h45) ∧ (¬ (hI h45 x0 11 = 0) → Q (((-30 : Int32) - hI h45 x0 11)) h45)
set_option maxHeartbeats 4000000 in
set_option maxRecDepth 100000 in
theorem tX10_net_150 {Q : Int32 → MH → Prop} (h : MH) (x0 : Nat) (s0 : Int32) (s1 : Nat) (hw : wX10_net_150 Q x0 s0 s1 h) : Wm MX10_net 303 0 0 150 [some (.ref (x0)), none, none] [.int (s0), .ref (s1)] h (pI Q) := by
  unfold wX10_net_150 at hw
  obtain ⟨hs44, hw⟩ := hw
  have hw := hw _ rfl
  refine q_putI (fwX10_27 _) rfl hs44 eX10_net_150 ?_
  refine q_aload_nr eX10_net_153 rfl ?_
  obtain ⟨hs46, hw⟩ := hw
  refine q_getI flX10_133 rfl hs46 eX10_net_154 ?_
  obtain ⟨hw1, hw2⟩ := hw
  refine q_if_eq (tgt := 168) eX10_net_157 (by decide) (fun c => ?_) (fun c => ?_)
  · have hw := hw1 c
    refine q_iconst (v := nI 0) eX10_net_168 (by decide) ?_
    refine x_istore_n (ls' := [_, _, _]) eX10_net_169 (by decide) rfl rfl ?_
    refine q_le (ls' := [some _, none, some _]) ⟨rfl, rfl, trivial⟩ ?_
    obtain ⟨m68, hw⟩ := hw
    exact tX10_net_170 m68 _ _ _ hw
  · have hw := hw2 c
    refine q_bipush (v := (-30 : Int32)) eX10_net_160 (by decide) ?_
    refine q_aload_nr eX10_net_162 rfl ?_
    refine q_getI flX10_133 rfl hs46 eX10_net_163 ?_
    refine q_isub eX10_net_166 ?_
    exact q_ret rfl eX10_net_167 ⟨_, rfl, hw⟩
def wX10_net_126 (Q : Int32 → MH → Prop) (x0 : Nat) (h : MH) : Prop := hS h x0 = (1, 10) ∧ ∀ h43, h43 = sI h x0 13 (hI h x0 11) → (¬ (hI h43 x0 11 = 0) → wX10_net_150 Q x0 (hI h43 x0 12) x0 h43) ∧ (hI h43 x0 11 = 0 → wX10_net_150 Q x0 (-1 : Int32) x0 h43)
set_option maxHeartbeats 4000000 in
set_option maxRecDepth 100000 in
theorem tX10_net_126 {Q : Int32 → MH → Prop} (h : MH) (x0 : Nat) (hw : wX10_net_126 Q x0 h) : Wm MX10_net 303 0 0 126 [some (.ref (x0)), none, none] [] h (pI Q) := by
  unfold wX10_net_126 at hw
  refine q_aload_nr eX10_net_126 rfl ?_
  refine q_aload_nr eX10_net_127 rfl ?_
  obtain ⟨hs42, hw⟩ := hw
  refine q_getI flX10_133 rfl hs42 eX10_net_128 ?_
  have hw := hw _ rfl
  refine q_putI (fwX10_213 _) rfl hs42 eX10_net_131 ?_
  refine q_aload_nr eX10_net_134 rfl ?_
  refine q_aload_nr eX10_net_135 rfl ?_
  refine q_getI flX10_133 rfl hs42 eX10_net_136 ?_
  obtain ⟨hw1, hw2⟩ := hw
  refine q_if_ne (tgt := 146) eX10_net_139 (by decide) (fun c => ?_) (fun c => ?_)
  · have hw := hw1 c
    refine q_aload_nr eX10_net_146 rfl ?_
    refine q_getI flX10_136 rfl hs42 eX10_net_147 ?_
    refine q_le (ls' := [some _, none, none]) ⟨rfl, trivial⟩ ?_
    exact tX10_net_150 _ _ _ _ hw
  · have hw := hw2 c
    refine q_iconst (v := (-1 : Int32)) eX10_net_142 (by decide) ?_
    refine q_goto (tgt := 150) eX10_net_143 (by decide) ?_
    refine q_le (ls' := [some _, none, none]) ⟨rfl, trivial⟩ ?_
    exact tX10_net_150 _ _ _ _ hw
def wX10_net_99 (Q : Int32 → MH → Prop) : Nat → Nat → MH → Prop
  | 0, _, _ => False
  | n + 1, x0, h => hS h x0 = (1, 10) ∧ (¬ (hI h x0 11 = 0) → wX10_net_126 Q x0 h) ∧ (hI h x0 11 = 0 → (hI h x0 9 = nI 24 → wX10_net_126 Q x0 h) ∧ (¬ (hI h x0 9 = nI 24) → wX10_readLine x0 h (fun h70 => hS h70 x0 = (1, 10) ∧ wX10_closes x0 h70 (fun h73 => wX10_net_99 Q n x0 h73))))
set_option maxHeartbeats 4000000 in
set_option maxRecDepth 100000 in
theorem tX10_net_99 {Q : Int32 → MH → Prop} : ∀ (n : Nat) (h : MH) (x0 : Nat), wX10_net_99 Q n x0 h → Wm MX10_net 303 0 0 99 [some (.ref (x0)), none, none] [] h (pI Q) := by
  intro n
  induction n with
  | zero => intro h x0 hw; exact hw.elim
  | succ n ih =>
    intro h x0 hw
    unfold wX10_net_99 at hw
    refine q_aload_nr eX10_net_99 rfl ?_
    obtain ⟨hs41, hw⟩ := hw
    refine q_getI flX10_133 rfl hs41 eX10_net_100 ?_
    obtain ⟨hw1, hw2⟩ := hw
    refine q_if_ne (tgt := 126) eX10_net_103 (by decide) (fun c => ?_) (fun c => ?_)
    · have hw := hw1 c
      refine q_le (ls' := [some _, none, none]) ⟨rfl, trivial⟩ ?_
      exact tX10_net_126 _ _ hw
    · have hw := hw2 c
      refine q_aload_nr eX10_net_106 rfl ?_
      refine q_getI flX10_115 rfl hs41 eX10_net_107 ?_
      refine q_bipush (v := nI 24) eX10_net_110 (by decide) ?_
      obtain ⟨hw1, hw2⟩ := hw
      refine q_icmp_eq (tgt := 126) eX10_net_112 (by decide) (fun c => ?_) (fun c => ?_)
      · have hw := hw1 c
        refine q_le (ls' := [some _, none, none]) ⟨rfl, trivial⟩ ?_
        exact tX10_net_126 _ _ hw
      · have hw := hw2 c
        refine q_aload_nr eX10_net_115 rfl ?_
        refine q_callV (b := 0) (t := 0) (gX10_readLine _ _ _ hw) mlX10_210 kX10_readLine vX10_readLine rfl hs41 ⟨rfl, rfl⟩ (by decide) rfl (Nat.le_of_ble_eq_true rfl) eX10_net_116 (kV fun h70 hw => ?_)
        refine q_aload_nr eX10_net_119 rfl ?_
        obtain ⟨hs71, hw⟩ := hw
        refine q_callV (b := 0) (t := 0) (gX10_closes _ _ _ hw) mlX10_207 kX10_closes vX10_closes rfl hs71 ⟨rfl, rfl⟩ (by decide) rfl (Nat.le_of_ble_eq_true rfl) eX10_net_120 (kV fun h73 hw => ?_)
        refine q_goto (tgt := 99) eX10_net_123 (by decide) ?_
        refine q_le (ls' := [some _, none, none]) ⟨rfl, trivial⟩ ?_
        exact ih _ _ hw
def wX10_net_66 (Q : Int32 → MH → Prop) (x0 : Nat) (h : MH) : Prop := hS h x0 = (1, 10) ∧ ∃ a21, hR h x0 4 = some a21 ∧ wX10_named x0 (nI 1) (nI 1) (nI 8) h (fun r23 h24 => ∃ n26, hS h24 a21 = (2, n26) ∧ vp_in (nI 1) n26 ∧ ∀ h28, h28 = sI h24 a21 (nI 1).toNatClampNeg (r23) → hS h28 x0 = (1, 10) ∧ ∃ a30, hR h28 x0 4 = some a30 ∧ wX10_named x0 (nI 2) (nI 0) (nI 9) h28 (fun r32 h33 => ∃ n35, hS h33 a30 = (2, n35) ∧ vp_in (nI 114) n35 ∧ ∀ h37, h37 = sI h33 a30 (nI 114).toNatClampNeg (r32) → hS h37 x0 = (1, 10) ∧ wX10_closes x0 h37 (fun h40 => ∃ m74, wX10_net_99 Q m74 x0 h40)))
set_option maxHeartbeats 4000000 in
set_option maxRecDepth 100000 in
theorem tX10_net_66 {Q : Int32 → MH → Prop} (h : MH) (x0 : Nat) (hw : wX10_net_66 Q x0 h) : Wm MX10_net 303 0 0 66 [some (.ref (x0)), none, none] [] h (pI Q) := by
  unfold wX10_net_66 at hw
  refine q_aload_nr eX10_net_66 rfl ?_
  obtain ⟨hs20, hw⟩ := hw
  obtain ⟨a21, hr22, hw⟩ := hw
  refine q_getR flX10_24 rfl hs20 hr22 eX10_net_67 ?_
  refine q_iconst (v := nI 1) eX10_net_70 (by decide) ?_
  refine q_aload_nr eX10_net_71 rfl ?_
  refine q_iconst (v := nI 1) eX10_net_72 (by decide) ?_
  refine q_iconst (v := nI 1) eX10_net_73 (by decide) ?_
  refine q_bipush (v := nI 8) eX10_net_74 (by decide) ?_
  refine q_callV (b := 0) (t := 0) (gX10_named _ _ _ _ _ _ hw) mlX10_197 kX10_named vX10_named rfl hs20 ⟨rfl, rfl⟩ (by decide) rfl (Nat.le_of_ble_eq_true rfl) eX10_net_76 (kI fun r23 h24 hw => ?_)
  obtain ⟨n26, hs25, hw⟩ := hw
  obtain ⟨hi27, hw⟩ := hw
  have hw := hw _ rfl
  refine q_iast hs25 hi27 eX10_net_79 ?_
  refine q_aload_nr eX10_net_80 rfl ?_
  obtain ⟨hs29, hw⟩ := hw
  obtain ⟨a30, hr31, hw⟩ := hw
  refine q_getR flX10_24 rfl hs29 hr31 eX10_net_81 ?_
  refine q_bipush (v := nI 114) eX10_net_84 (by decide) ?_
  refine q_aload_nr eX10_net_86 rfl ?_
  refine q_iconst (v := nI 2) eX10_net_87 (by decide) ?_
  refine q_iconst (v := nI 0) eX10_net_88 (by decide) ?_
  refine q_bipush (v := nI 9) eX10_net_89 (by decide) ?_
  refine q_callV (b := 0) (t := 0) (gX10_named _ _ _ _ _ _ hw) mlX10_197 kX10_named vX10_named rfl hs29 ⟨rfl, rfl⟩ (by decide) rfl (Nat.le_of_ble_eq_true rfl) eX10_net_91 (kI fun r32 h33 hw => ?_)
  obtain ⟨n35, hs34, hw⟩ := hw
  obtain ⟨hi36, hw⟩ := hw
  have hw := hw _ rfl
  refine q_iast hs34 hi36 eX10_net_94 ?_
  refine q_aload_nr eX10_net_95 rfl ?_
  obtain ⟨hs38, hw⟩ := hw
  refine q_callV (b := 0) (t := 0) (gX10_closes _ _ _ hw) mlX10_207 kX10_closes vX10_closes rfl hs38 ⟨rfl, rfl⟩ (by decide) rfl (Nat.le_of_ble_eq_true rfl) eX10_net_96 (kV fun h40 hw => ?_)
  refine q_le (ls' := [some _, none, none]) ⟨rfl, trivial⟩ ?_
  obtain ⟨m74, hw⟩ := hw
  exact tX10_net_99 m74 _ _ hw
def wX10_net (x0 : Nat) (x1 : Int32) (h : MH) (Q : Int32 → MH → Prop) : Prop := hS h x0 = (1, 10) ∧ ∀ h2, h2 = sI h x0 0 (nI 0) → wX10_within ((x1).toInt64) (0 : Int64) ((hI h2 x0 5).toInt64) h2 (fun r3 h4 => (¬ (r3 = 0) → hS h4 x0 = (1, 10) ∧ ∀ h6, h6 = sI h4 x0 8 (x1) → ∀ h7, h7 = sI h6 x0 5 (nI 0) → ∀ h8, h8 = sI h7 x0 7 (nI 0) → ∀ h9, h9 = sI h8 x0 11 (nI 0) → ∃ a10, hR h9 x0 4 = some a10 ∧ wX10_plain a10 h9 (fun h13 => hS h13 x0 = (1, 10) ∧ wX10_next x0 h13 (fun h16 => hS h16 x0 = (1, 10) ∧ wX10_eats x0 (nI 0) h16 (fun r18 h19 => (¬ (r18 = 0) → wX10_net_66 Q x0 h19) ∧ (r18 = 0 → hS h19 x0 = (1, 10) ∧ wX10_fails x0 (nI 2) h19 (fun h77 => wX10_net_66 Q x0 h77)))))) ∧ (r3 = 0 → Q ((-3 : Int32)) h4))
set_option maxHeartbeats 4000000 in
set_option maxRecDepth 100000 in
theorem gX10_net (x0 : Nat) (x1 : Int32) (h : MH) (Q : Int32 → MH → Prop) (hw : wX10_net x0 x1 h Q) : Cm MX10_net 303 0 0 [.ref (x0), .int (x1)] h (pI Q) := by
  refine cm_of [some (.ref (x0)), some (.int (x1)), none] rfl pnX10 (Nat.le_of_ble_eq_true rfl) rfl ?_
  unfold wX10_net at hw
  refine q_aload_nr eX10_net_0 rfl ?_
  refine q_iconst (v := nI 0) eX10_net_1 (by decide) ?_
  obtain ⟨hs1, hw⟩ := hw
  have hw := hw _ rfl
  refine q_putI (fwX10_1 _) rfl hs1 eX10_net_2 ?_
  refine q_iload_n eX10_net_5 rfl ?_
  refine q_i2l eX10_net_6 ?_
  refine q_lconst (v := (0 : Int64)) eX10_net_7 (by decide) ?_
  refine q_aload_nr eX10_net_8 rfl ?_
  refine q_getI flX10_87 rfl hs1 eX10_net_9 ?_
  refine q_i2l eX10_net_12 ?_
  refine q_callS (b := 0) (t := 0) (gX10_within _ _ _ _ _ hw) mlX10_149 kX10_within sX10_within rfl (by decide) rfl (Nat.le_of_ble_eq_true rfl) eX10_net_13 (kI fun r3 h4 hw => ?_)
  obtain ⟨hw1, hw2⟩ := hw
  refine q_if_ne (tgt := 22) eX10_net_16 (by decide) (fun c => ?_) (fun c => ?_)
  · have hw := hw1 c
    refine q_aload_nr eX10_net_22 rfl ?_
    refine q_iload_n eX10_net_23 rfl ?_
    obtain ⟨hs5, hw⟩ := hw
    have hw := hw _ rfl
    refine q_putI (fwX10_90 _) rfl hs5 eX10_net_24 ?_
    refine q_aload_nr eX10_net_27 rfl ?_
    refine q_iconst (v := nI 0) eX10_net_28 (by decide) ?_
    have hw := hw _ rfl
    refine q_putI (fwX10_87 _) rfl hs5 eX10_net_29 ?_
    refine q_aload_nr eX10_net_32 rfl ?_
    refine q_iconst (v := nI 0) eX10_net_33 (by decide) ?_
    have hw := hw _ rfl
    refine q_putI (fwX10_108 _) rfl hs5 eX10_net_34 ?_
    refine q_aload_nr eX10_net_37 rfl ?_
    refine q_iconst (v := nI 0) eX10_net_38 (by decide) ?_
    have hw := hw _ rfl
    refine q_putI (fwX10_133 _) rfl hs5 eX10_net_39 ?_
    refine q_aload_nr eX10_net_42 rfl ?_
    obtain ⟨a10, hr11, hw⟩ := hw
    refine q_getR flX10_24 rfl hs5 hr11 eX10_net_43 ?_
    refine q_callS (b := 0) (t := 0) (gX10_plain _ _ _ hw) mlX10_80 kX10_plain sX10_plain rfl (by decide) rfl (Nat.le_of_ble_eq_true rfl) eX10_net_46 (kV fun h13 hw => ?_)
    refine q_aload_nr eX10_net_49 rfl ?_
    obtain ⟨hs14, hw⟩ := hw
    refine q_callV (b := 0) (t := 0) (gX10_next _ _ _ hw) mlX10_142 kX10_next vX10_next rfl hs14 ⟨rfl, rfl⟩ (by decide) rfl (Nat.le_of_ble_eq_true rfl) eX10_net_50 (kV fun h16 hw => ?_)
    refine q_aload_nr eX10_net_53 rfl ?_
    refine q_iconst (v := nI 0) eX10_net_54 (by decide) ?_
    obtain ⟨hs17, hw⟩ := hw
    refine q_callV (b := 0) (t := 0) (gX10_eats _ _ _ _ hw) mlX10_168 kX10_eats vX10_eats rfl hs17 ⟨rfl, rfl⟩ (by decide) rfl (Nat.le_of_ble_eq_true rfl) eX10_net_55 (kI fun r18 h19 hw => ?_)
    obtain ⟨hw1, hw2⟩ := hw
    refine q_if_ne (tgt := 66) eX10_net_58 (by decide) (fun c => ?_) (fun c => ?_)
    · have hw := hw1 c
      refine q_le (ls' := [some _, none, none]) ⟨rfl, trivial⟩ ?_
      exact tX10_net_66 _ _ hw
    · have hw := hw2 c
      refine q_aload_nr eX10_net_61 rfl ?_
      refine q_iconst (v := nI 2) eX10_net_62 (by decide) ?_
      obtain ⟨hs75, hw⟩ := hw
      refine q_callV (b := 0) (t := 0) (gX10_fails _ _ _ _ hw) mlX10_145 kX10_fails vX10_fails rfl hs75 ⟨rfl, rfl⟩ (by decide) rfl (Nat.le_of_ble_eq_true rfl) eX10_net_63 (kV fun h77 hw => ?_)
      refine q_le (ls' := [some _, none, none]) ⟨rfl, trivial⟩ ?_
      exact tX10_net_66 _ _ hw
  · have hw := hw2 c
    refine q_bipush (v := (-3 : Int32)) eX10_net_19 (by decide) ?_
    exact q_ret rfl eX10_net_21 ⟨_, rfl, hw⟩
def wX10_fault (x0 : Nat) (x1 : Int32) (h : MH) (Q : Int32 → MH → Prop) : Prop := hS h x0 = (1, 10) ∧ ∀ h2, h2 = sI h x0 0 (nI 0) → (¬ (x1 = 0) → (¬ (x1 = nI 1) → Q ((-1 : Int32)) h2) ∧ (x1 = nI 1 → Q (hI h2 x0 14) h2)) ∧ (x1 = 0 → Q (hI h2 x0 13) h2)
set_option maxHeartbeats 4000000 in
set_option maxRecDepth 100000 in
theorem gX10_fault (x0 : Nat) (x1 : Int32) (h : MH) (Q : Int32 → MH → Prop) (hw : wX10_fault x0 x1 h Q) : Cm MX10_fault 0 0 0 [.ref (x0), .int (x1)] h (pI Q) := by
  refine cm_of [some (.ref (x0)), some (.int (x1))] rfl pnX10 (Nat.le_of_ble_eq_true rfl) rfl ?_
  unfold wX10_fault at hw
  refine q_aload_nr eX10_fault_0 rfl ?_
  refine q_iconst (v := nI 0) eX10_fault_1 (by decide) ?_
  obtain ⟨hs1, hw⟩ := hw
  have hw := hw _ rfl
  refine q_putI (fwX10_1 _) rfl hs1 eX10_fault_2 ?_
  refine q_iload_n eX10_fault_5 rfl ?_
  obtain ⟨hw1, hw2⟩ := hw
  refine q_if_ne (tgt := 16) eX10_fault_6 (by decide) (fun c => ?_) (fun c => ?_)
  · have hw := hw1 c
    refine q_iload_n eX10_fault_16 rfl ?_
    refine q_iconst (v := nI 1) eX10_fault_17 (by decide) ?_
    obtain ⟨hw1, hw2⟩ := hw
    refine q_icmp_ne (tgt := 28) eX10_fault_18 (by decide) (fun c => ?_) (fun c => ?_)
    · have hw := hw1 c
      refine q_iconst (v := (-1 : Int32)) eX10_fault_28 (by decide) ?_
      exact q_ret rfl eX10_fault_29 ⟨_, rfl, hw⟩
    · have hw := hw2 c
      refine q_aload_nr eX10_fault_21 rfl ?_
      refine q_getI flX10_27 rfl hs1 eX10_fault_22 ?_
      refine q_goto (tgt := 29) eX10_fault_25 (by decide) ?_
      exact q_ret rfl eX10_fault_29 ⟨_, rfl, hw⟩
  · have hw := hw2 c
    refine q_aload_nr eX10_fault_9 rfl ?_
    refine q_getI flX10_213 rfl hs1 eX10_fault_10 ?_
    refine q_goto (tgt := 29) eX10_fault_13 (by decide) ?_
    exact q_ret rfl eX10_fault_29 ⟨_, rfl, hw⟩
def wX10_isLink (x0 : Nat) (x1 : Int64) (h : MH) (Q : Int32 → MH → Prop) : Prop := hS h x0 = (1, 10) ∧ ∃ a2, hR h x0 1 = some a2 ∧ ∃ n5, hS h a2 = (2, n5) ∧ vp_in (nI 2) n5 ∧ wX10_within x1 (0 : Int64) (((hI h a2 (nI 2).toNatClampNeg - nI 1)).toInt64) h (fun r7 h8 => (r7 = 0 ∨ r7 = 1) ∧ Q (r7) h8)
set_option maxHeartbeats 4000000 in
set_option maxRecDepth 100000 in
theorem gX10_isLink (x0 : Nat) (x1 : Int64) (h : MH) (Q : Int32 → MH → Prop) (hw : wX10_isLink x0 x1 h Q) : Cm MX10_isLink 1 0 0 [.ref (x0), .long (x1)] h (pI Q) := by
  refine cm_of [some (.ref (x0)), some (.long (x1)), none] rfl pnX10 (Nat.le_of_ble_eq_true rfl) rfl ?_
  unfold wX10_isLink at hw
  refine q_lload_n eX10_isLink_0 rfl ?_
  refine q_lconst (v := (0 : Int64)) eX10_isLink_1 (by decide) ?_
  refine q_aload_nr eX10_isLink_2 rfl ?_
  obtain ⟨hs1, hw⟩ := hw
  obtain ⟨a2, hr3, hw⟩ := hw
  refine q_getR flX10_13 rfl hs1 hr3 eX10_isLink_3 ?_
  refine q_iconst (v := nI 2) eX10_isLink_6 (by decide) ?_
  obtain ⟨n5, hs4, hw⟩ := hw
  obtain ⟨hi6, hw⟩ := hw
  refine q_iald hs4 hi6 eX10_isLink_7 ?_
  refine q_iconst (v := nI 1) eX10_isLink_8 (by decide) ?_
  refine q_isub eX10_isLink_9 ?_
  refine q_i2l eX10_isLink_10 ?_
  refine q_callS (b := 0) (t := 0) (gX10_within _ _ _ _ _ hw) mlX10_149 kX10_within sX10_within rfl (by decide) rfl (Nat.le_of_ble_eq_true rfl) eX10_isLink_11 (kI fun r7 h8 hw => ?_)
  obtain ⟨hz9, hw⟩ := hw
  exact q_retZ rfl hz9 eX10_isLink_14 ⟨_, rfl, hw⟩
def wX10_isRing (x0 : Nat) (x1 : Int64) (h : MH) (Q : Int32 → MH → Prop) : Prop := hS h x0 = (1, 10) ∧ wX10_within x1 (0 : Int64) (((hI h x0 23 - nI 1)).toInt64) h (fun r2 h3 => (r2 = 0 ∨ r2 = 1) ∧ Q (r2) h3)
set_option maxHeartbeats 4000000 in
set_option maxRecDepth 100000 in
theorem gX10_isRing (x0 : Nat) (x1 : Int64) (h : MH) (Q : Int32 → MH → Prop) (hw : wX10_isRing x0 x1 h Q) : Cm MX10_isRing 1 0 0 [.ref (x0), .long (x1)] h (pI Q) := by
  refine cm_of [some (.ref (x0)), some (.long (x1)), none] rfl pnX10 (Nat.le_of_ble_eq_true rfl) rfl ?_
  unfold wX10_isRing at hw
  refine q_lload_n eX10_isRing_0 rfl ?_
  refine q_lconst (v := (0 : Int64)) eX10_isRing_1 (by decide) ?_
  refine q_aload_nr eX10_isRing_2 rfl ?_
  obtain ⟨hs1, hw⟩ := hw
  refine q_getI flX10_216 rfl hs1 eX10_isRing_3 ?_
  refine q_iconst (v := nI 1) eX10_isRing_6 (by decide) ?_
  refine q_isub eX10_isRing_7 ?_
  refine q_i2l eX10_isRing_8 ?_
  refine q_callS (b := 0) (t := 0) (gX10_within _ _ _ _ _ hw) mlX10_149 kX10_within sX10_within rfl (by decide) rfl (Nat.le_of_ble_eq_true rfl) eX10_isRing_9 (kI fun r2 h3 hw => ?_)
  obtain ⟨hz4, hw⟩ := hw
  exact q_retZ rfl hz4 eX10_isRing_12 ⟨_, rfl, hw⟩
def wX10_useOf (x0 : Nat) (x1 : Int32) (x2 : Int32) (h : MH) (Q : Int32 → MH → Prop) : Prop := hS h x0 = (1, 10) ∧ ∃ a2, hR h x0 18 = some a2 ∧ ∃ n5, hS h a2 = (2, n5) ∧ vp_in (x1) n5 ∧ wX10_isIn ((hI h a2 (x1).toNatClampNeg).toInt64) x2 h (fun r7 h8 => (r7 = 0 → hS h8 x0 = (1, 10) ∧ ∃ a10, hR h8 x0 19 = some a10 ∧ ∃ n13, hS h8 a10 = (2, n13) ∧ vp_in (x1) n13 ∧ wX10_isIn ((hI h8 a10 (x1).toNatClampNeg).toInt64) x2 h8 (fun r15 h16 => Q ((if r15 = 0 then nI 0 else nI 2)) h16)) ∧ (¬ (r7 = 0) → Q (nI 1) h8))
set_option maxHeartbeats 4000000 in
set_option maxRecDepth 100000 in
theorem gX10_useOf (x0 : Nat) (x1 : Int32) (x2 : Int32) (h : MH) (Q : Int32 → MH → Prop) (hw : wX10_useOf x0 x1 x2 h Q) : Cm MX10_useOf 1 0 0 [.ref (x0), .int (x1), .int (x2)] h (pI Q) := by
  refine cm_of [some (.ref (x0)), some (.int (x1)), some (.int (x2))] rfl pnX10 (Nat.le_of_ble_eq_true rfl) rfl ?_
  unfold wX10_useOf at hw
  refine q_aload_nr eX10_useOf_0 rfl ?_
  obtain ⟨hs1, hw⟩ := hw
  obtain ⟨a2, hr3, hw⟩ := hw
  refine q_getR flX10_36 rfl hs1 hr3 eX10_useOf_1 ?_
  refine q_iload_n eX10_useOf_4 rfl ?_
  obtain ⟨n5, hs4, hw⟩ := hw
  obtain ⟨hi6, hw⟩ := hw
  refine q_iald hs4 hi6 eX10_useOf_5 ?_
  refine q_i2l eX10_useOf_6 ?_
  refine q_iload_n eX10_useOf_7 rfl ?_
  refine q_callS (b := 0) (t := 0) (gX10_isIn _ _ _ _ hw) mlX10_232 kX10_isIn sX10_isIn rfl (by decide) rfl (Nat.le_of_ble_eq_true rfl) eX10_useOf_8 (kI fun r7 h8 hw => ?_)
  obtain ⟨hw1, hw2⟩ := hw
  refine q_if_eq (tgt := 18) eX10_useOf_11 (by decide) (fun c => ?_) (fun c => ?_)
  · have hw := hw1 c
    refine q_aload_nr eX10_useOf_18 rfl ?_
    obtain ⟨hs9, hw⟩ := hw
    obtain ⟨a10, hr11, hw⟩ := hw
    refine q_getR flX10_39 rfl hs9 hr11 eX10_useOf_19 ?_
    refine q_iload_n eX10_useOf_22 rfl ?_
    obtain ⟨n13, hs12, hw⟩ := hw
    obtain ⟨hi14, hw⟩ := hw
    refine q_iald hs12 hi14 eX10_useOf_23 ?_
    refine q_i2l eX10_useOf_24 ?_
    refine q_iload_n eX10_useOf_25 rfl ?_
    refine q_callS (b := 0) (t := 0) (gX10_isIn _ _ _ _ hw) mlX10_232 kX10_isIn sX10_isIn rfl (by decide) rfl (Nat.le_of_ble_eq_true rfl) eX10_useOf_26 (kI fun r15 h16 hw => ?_)
    have hj18 : Wm MX10_useOf 1 0 0 37 [some (.ref (x0)), some (.int (x1)), some (.int (x2))] [.int ((if r15 = 0 then nI 0 else nI 2))] h16 (pI Q) := by
      exact q_ret rfl eX10_useOf_37 ⟨_, rfl, hw⟩
    refine q_if_eq (tgt := 36) eX10_useOf_29 (by decide) (fun c => ?_) (fun c => ?_)
    · refine q_iconst (v := nI 0) eX10_useOf_36 (by decide) ?_
      rw [if_pos c] at hj18
      exact hj18
    · refine q_iconst (v := nI 2) eX10_useOf_32 (by decide) ?_
      refine q_goto (tgt := 37) eX10_useOf_33 (by decide) ?_
      rw [if_neg c] at hj18
      exact hj18
  · have hw := hw2 c
    refine q_iconst (v := nI 1) eX10_useOf_14 (by decide) ?_
    refine q_goto (tgt := 37) eX10_useOf_15 (by decide) ?_
    exact q_ret rfl eX10_useOf_37 ⟨_, rfl, hw⟩
def wX10_usesOf (x0 : Nat) (x1 : Int32) (h : MH) (Q : Int32 → MH → Prop) : Prop := hS h x0 = (1, 10) ∧ ∃ a2, hR h x0 18 = some a2 ∧ ∃ n5, hS h a2 = (2, n5) ∧ vp_in (x1) n5 ∧ wX10_bitsOf (hI h a2 (x1).toNatClampNeg) h (fun r7 h8 => hS h8 x0 = (1, 10) ∧ ∃ a10, hR h8 x0 19 = some a10 ∧ ∃ n13, hS h8 a10 = (2, n13) ∧ vp_in (x1) n13 ∧ wX10_bitsOf (hI h8 a10 (x1).toNatClampNeg) h8 (fun r15 h16 => Q ((r7 + (nI 2 * r15))) h16))
set_option maxHeartbeats 4000000 in
set_option maxRecDepth 100000 in
theorem gX10_usesOf (x0 : Nat) (x1 : Int32) (h : MH) (Q : Int32 → MH → Prop) (hw : wX10_usesOf x0 x1 h Q) : Cm MX10_usesOf 1 0 0 [.ref (x0), .int (x1)] h (pI Q) := by
  refine cm_of [some (.ref (x0)), some (.int (x1))] rfl pnX10 (Nat.le_of_ble_eq_true rfl) rfl ?_
  unfold wX10_usesOf at hw
  refine q_aload_nr eX10_usesOf_0 rfl ?_
  obtain ⟨hs1, hw⟩ := hw
  obtain ⟨a2, hr3, hw⟩ := hw
  refine q_getR flX10_36 rfl hs1 hr3 eX10_usesOf_1 ?_
  refine q_iload_n eX10_usesOf_4 rfl ?_
  obtain ⟨n5, hs4, hw⟩ := hw
  obtain ⟨hi6, hw⟩ := hw
  refine q_iald hs4 hi6 eX10_usesOf_5 ?_
  refine q_callS (b := 0) (t := 0) (gX10_bitsOf _ _ _ hw) mlX10_229 kX10_bitsOf sX10_bitsOf rfl (by decide) rfl (Nat.le_of_ble_eq_true rfl) eX10_usesOf_6 (kI fun r7 h8 hw => ?_)
  refine q_iconst (v := nI 2) eX10_usesOf_9 (by decide) ?_
  refine q_aload_nr eX10_usesOf_10 rfl ?_
  obtain ⟨hs9, hw⟩ := hw
  obtain ⟨a10, hr11, hw⟩ := hw
  refine q_getR flX10_39 rfl hs9 hr11 eX10_usesOf_11 ?_
  refine q_iload_n eX10_usesOf_14 rfl ?_
  obtain ⟨n13, hs12, hw⟩ := hw
  obtain ⟨hi14, hw⟩ := hw
  refine q_iald hs12 hi14 eX10_usesOf_15 ?_
  refine q_callS (b := 0) (t := 0) (gX10_bitsOf _ _ _ hw) mlX10_229 kX10_bitsOf sX10_bitsOf rfl (by decide) rfl (Nat.le_of_ble_eq_true rfl) eX10_usesOf_16 (kI fun r15 h16 hw => ?_)
  refine q_imul eX10_usesOf_19 ?_
  refine q_iadd eX10_usesOf_20 ?_
  exact q_ret rfl eX10_usesOf_21 ⟨_, rfl, hw⟩
def wX10_sideOf_24 (Q : Int32 → MH → Prop) (K10 : Nat → Int32 → Int32 → Int32 → Int32 → MH → Prop) : Nat → Nat → Int32 → Int32 → Int32 → Int32 → Int32 → MH → Prop
  | 0, _, _, _, _, _, _, _ => False
  | n + 1, x0, x1, x2, x3, x4, x5, h => hS h x0 = (1, 10) ∧ ∃ a8, hR h x0 18 = some a8 ∧ ∃ n11, hS h a8 = (2, n11) ∧ vp_in (x1) n11 ∧ wX10_isIn (((hI h a8 (x1).toNatClampNeg &&& (x3 ^^^ (-1 : Int32)))).toInt64) x5 h (fun r13 h14 => (r13 = 0 → wX10_sideOf_24 Q K10 n x0 x1 x2 x3 x4 (x5 + nI 1) h14) ∧ (¬ (r13 = 0) → hS h14 x0 = (1, 10) ∧ wX10_endsOf x0 x5 h14 (fun r16 h17 => wX10_isIn ((r16).toInt64) x4 h17 (fun r18 h19 => (¬ (r18 = 0) → hS h19 x0 = (1, 10) ∧ wX10_endOf x0 x5 (nI 0) h19 (fun r21 h22 => (¬ (r21 = x4) → hS h22 x0 = (1, 10) ∧ wX10_endOf x0 x5 (nI 0) h22 (fun r24 h25 => K10 x0 x1 x2 (x3 ||| (nI 1 <<< (x5 &&& 31))) r24 h25)) ∧ (r21 = x4 → hS h22 x0 = (1, 10) ∧ wX10_endOf x0 x5 (nI 1) h22 (fun r27 h28 => K10 x0 x1 x2 (x3 ||| (nI 1 <<< (x5 &&& 31))) r27 h28)))) ∧ (r18 = 0 → wX10_sideOf_24 Q K10 n x0 x1 x2 x3 x4 (x5 + nI 1) h19)))))
set_option maxHeartbeats 4000000 in
set_option maxRecDepth 100000 in
theorem tX10_sideOf_24 {Q : Int32 → MH → Prop} {K10 : Nat → Int32 → Int32 → Int32 → Int32 → MH → Prop} (hK10 : ∀ (h : MH) (x0 : Nat) (x1 : Int32) (x2 : Int32) (x3 : Int32) (x4 : Int32), K10 x0 x1 x2 x3 x4 h → Wm MX10_sideOf 2 0 0 10 [some (.ref (x0)), some (.int (x1)), some (.int (x2)), some (.int (x3)), some (.int (x4)), none] [] h (pI Q)) : ∀ (n : Nat) (h : MH) (x0 : Nat) (x1 : Int32) (x2 : Int32) (x3 : Int32) (x4 : Int32) (x5 : Int32), wX10_sideOf_24 Q K10 n x0 x1 x2 x3 x4 x5 h → Wm MX10_sideOf 2 0 0 24 [some (.ref (x0)), some (.int (x1)), some (.int (x2)), some (.int (x3)), some (.int (x4)), some (.int (x5))] [] h (pI Q) := by
  intro n
  induction n with
  | zero => intro h x0 x1 x2 x3 x4 x5 hw; exact hw.elim
  | succ n ih =>
    intro h x0 x1 x2 x3 x4 x5 hw
    unfold wX10_sideOf_24 at hw
    refine q_aload_nr eX10_sideOf_24 rfl ?_
    obtain ⟨hs7, hw⟩ := hw
    obtain ⟨a8, hr9, hw⟩ := hw
    refine q_getR flX10_36 rfl hs7 hr9 eX10_sideOf_25 ?_
    refine q_iload_n eX10_sideOf_28 rfl ?_
    obtain ⟨n11, hs10, hw⟩ := hw
    obtain ⟨hi12, hw⟩ := hw
    refine q_iald hs10 hi12 eX10_sideOf_29 ?_
    refine q_iload_n eX10_sideOf_30 rfl ?_
    refine q_iconst (v := (-1 : Int32)) eX10_sideOf_31 (by decide) ?_
    refine q_ixor eX10_sideOf_32 ?_
    refine q_iand eX10_sideOf_33 ?_
    refine q_i2l eX10_sideOf_34 ?_
    refine q_iload eX10_sideOf_35 rfl ?_
    refine q_callS (b := 0) (t := 0) (gX10_isIn _ _ _ _ hw) mlX10_232 kX10_isIn sX10_isIn rfl (by decide) rfl (Nat.le_of_ble_eq_true rfl) eX10_sideOf_37 (kI fun r13 h14 hw => ?_)
    obtain ⟨hw1, hw2⟩ := hw
    refine q_if_eq (tgt := 58) eX10_sideOf_40 (by decide) (fun c => ?_) (fun c => ?_)
    · have hw := hw1 c
      refine x_iinc (v := (x5 + nI 1)) (ls' := [_, _, _, _, _, _]) eX10_sideOf_58 rfl rfl rfl rfl ?_
      refine q_goto (tgt := 24) eX10_sideOf_61 (by decide) ?_
      refine q_le (ls' := [some _, some _, some _, some _, some _, some _]) ⟨rfl, rfl, rfl, rfl, rfl, rfl, trivial⟩ ?_
      exact ih _ _ _ _ _ _ _ hw
    · have hw := hw2 c
      refine q_aload_nr eX10_sideOf_43 rfl ?_
      refine q_iload eX10_sideOf_44 rfl ?_
      obtain ⟨hs15, hw⟩ := hw
      refine q_callV (b := 0) (t := 0) (gX10_endsOf _ _ _ _ hw) mlX10_236 kX10_endsOf vX10_endsOf rfl hs15 ⟨rfl, rfl⟩ (by decide) rfl (Nat.le_of_ble_eq_true rfl) eX10_sideOf_46 (kI fun r16 h17 hw => ?_)
      refine q_i2l eX10_sideOf_49 ?_
      refine q_iload eX10_sideOf_50 rfl ?_
      refine q_callS (b := 0) (t := 0) (gX10_isIn _ _ _ _ hw) mlX10_232 kX10_isIn sX10_isIn rfl (by decide) rfl (Nat.le_of_ble_eq_true rfl) eX10_sideOf_52 (kI fun r18 h19 hw => ?_)
      obtain ⟨hw1, hw2⟩ := hw
      refine q_if_ne (tgt := 64) eX10_sideOf_55 (by decide) (fun c => ?_) (fun c => ?_)
      · have hw := hw1 c
        refine q_iload_n eX10_sideOf_64 rfl ?_
        refine q_iconst (v := nI 1) eX10_sideOf_65 (by decide) ?_
        refine q_iload eX10_sideOf_66 rfl ?_
        refine q_ishl eX10_sideOf_68 ?_
        refine q_ior eX10_sideOf_69 ?_
        refine x_istore_n (ls' := [_, _, _, _, _, _]) eX10_sideOf_70 (by decide) rfl rfl ?_
        refine q_aload_nr eX10_sideOf_71 rfl ?_
        refine q_iload eX10_sideOf_72 rfl ?_
        refine q_iconst (v := nI 0) eX10_sideOf_74 (by decide) ?_
        obtain ⟨hs20, hw⟩ := hw
        refine q_callV (b := 0) (t := 0) (gX10_endOf _ _ _ _ _ hw) mlX10_219 kX10_endOf vX10_endOf rfl hs20 ⟨rfl, rfl⟩ (by decide) rfl (Nat.le_of_ble_eq_true rfl) eX10_sideOf_75 (kI fun r21 h22 hw => ?_)
        refine q_iload eX10_sideOf_78 rfl ?_
        obtain ⟨hw1, hw2⟩ := hw
        refine q_icmp_ne (tgt := 93) eX10_sideOf_80 (by decide) (fun c => ?_) (fun c => ?_)
        · have hw := hw1 c
          refine q_aload_nr eX10_sideOf_93 rfl ?_
          refine q_iload eX10_sideOf_94 rfl ?_
          refine q_iconst (v := nI 0) eX10_sideOf_96 (by decide) ?_
          obtain ⟨hs23, hw⟩ := hw
          refine q_callV (b := 0) (t := 0) (gX10_endOf _ _ _ _ _ hw) mlX10_219 kX10_endOf vX10_endOf rfl hs23 ⟨rfl, rfl⟩ (by decide) rfl (Nat.le_of_ble_eq_true rfl) eX10_sideOf_97 (kI fun r24 h25 hw => ?_)
          refine x_istore (ls' := [_, _, _, _, _, _]) eX10_sideOf_100 (by decide) rfl rfl ?_
          refine q_goto (tgt := 10) eX10_sideOf_102 (by decide) ?_
          refine q_le (ls' := [some _, some _, some _, some _, some _, none]) ⟨rfl, rfl, rfl, rfl, rfl, trivial⟩ ?_
          exact hK10 _ _ _ _ _ _ hw
        · have hw := hw2 c
          refine q_aload_nr eX10_sideOf_83 rfl ?_
          refine q_iload eX10_sideOf_84 rfl ?_
          refine q_iconst (v := nI 1) eX10_sideOf_86 (by decide) ?_
          obtain ⟨hs26, hw⟩ := hw
          refine q_callV (b := 0) (t := 0) (gX10_endOf _ _ _ _ _ hw) mlX10_219 kX10_endOf vX10_endOf rfl hs26 ⟨rfl, rfl⟩ (by decide) rfl (Nat.le_of_ble_eq_true rfl) eX10_sideOf_87 (kI fun r27 h28 hw => ?_)
          refine q_goto (tgt := 100) eX10_sideOf_90 (by decide) ?_
          refine x_istore (ls' := [_, _, _, _, _, _]) eX10_sideOf_100 (by decide) rfl rfl ?_
          refine q_goto (tgt := 10) eX10_sideOf_102 (by decide) ?_
          refine q_le (ls' := [some _, some _, some _, some _, some _, none]) ⟨rfl, rfl, rfl, rfl, rfl, trivial⟩ ?_
          exact hK10 _ _ _ _ _ _ hw
      · have hw := hw2 c
        refine x_iinc (v := (x5 + nI 1)) (ls' := [_, _, _, _, _, _]) eX10_sideOf_58 rfl rfl rfl rfl ?_
        refine q_goto (tgt := 24) eX10_sideOf_61 (by decide) ?_
        refine q_le (ls' := [some _, some _, some _, some _, some _, some _]) ⟨rfl, rfl, rfl, rfl, rfl, rfl, trivial⟩ ?_
        exact ih _ _ _ _ _ _ _ hw
def wX10_sideOf_10 (Q : Int32 → MH → Prop) : Nat → Nat → Int32 → Int32 → Int32 → Int32 → MH → Prop
  | 0, _, _, _, _, _, _ => False
  | n + 1, x0, x1, x2, x3, x4, h => hS h x0 = (1, 10) ∧ wX10_endOf x0 x2 (nI 1) h (fun r5 h6 => (x4 = r5 → Q (x3) h6) ∧ (¬ (x4 = r5) → ∃ m29, wX10_sideOf_24 Q (wX10_sideOf_10 Q n) m29 x0 x1 x2 x3 x4 (nI 0) h6))
set_option maxHeartbeats 4000000 in
set_option maxRecDepth 100000 in
theorem tX10_sideOf_10 {Q : Int32 → MH → Prop} : ∀ (n : Nat) (h : MH) (x0 : Nat) (x1 : Int32) (x2 : Int32) (x3 : Int32) (x4 : Int32), wX10_sideOf_10 Q n x0 x1 x2 x3 x4 h → Wm MX10_sideOf 2 0 0 10 [some (.ref (x0)), some (.int (x1)), some (.int (x2)), some (.int (x3)), some (.int (x4)), none] [] h (pI Q) := by
  intro n
  induction n with
  | zero => intro h x0 x1 x2 x3 x4 hw; exact hw.elim
  | succ n ih =>
    intro h x0 x1 x2 x3 x4 hw
    unfold wX10_sideOf_10 at hw
    refine q_iload eX10_sideOf_10 rfl ?_
    refine q_aload_nr eX10_sideOf_12 rfl ?_
    refine q_iload_n eX10_sideOf_13 rfl ?_
    refine q_iconst (v := nI 1) eX10_sideOf_14 (by decide) ?_
    obtain ⟨hs4, hw⟩ := hw
    refine q_callV (b := 0) (t := 0) (gX10_endOf _ _ _ _ _ hw) mlX10_219 kX10_endOf vX10_endOf rfl hs4 ⟨rfl, rfl⟩ (by decide) rfl (Nat.le_of_ble_eq_true rfl) eX10_sideOf_15 (kI fun r5 h6 hw => ?_)
    obtain ⟨hw1, hw2⟩ := hw
    refine q_icmp_eq (tgt := 105) eX10_sideOf_18 (by decide) (fun c => ?_) (fun c => ?_)
    · have hw := hw1 c
      refine q_iload_n eX10_sideOf_105 rfl ?_
      exact q_ret rfl eX10_sideOf_106 ⟨_, rfl, hw⟩
    · have hw := hw2 c
      refine q_iconst (v := nI 0) eX10_sideOf_21 (by decide) ?_
      refine x_istore (ls' := [_, _, _, _, _, _]) eX10_sideOf_22 (by decide) rfl rfl ?_
      refine q_le (ls' := [some _, some _, some _, some _, some _, some _]) ⟨rfl, rfl, rfl, rfl, rfl, rfl, trivial⟩ ?_
      obtain ⟨m29, hw⟩ := hw
      exact tX10_sideOf_24 ih m29 _ _ _ _ _ _ _ hw
def wX10_sideOf (x0 : Nat) (x1 : Int32) (x2 : Int32) (h : MH) (Q : Int32 → MH → Prop) : Prop := hS h x0 = (1, 10) ∧ wX10_endOf x0 x2 (nI 0) h (fun r2 h3 => ∃ m30, wX10_sideOf_10 Q m30 x0 x1 x2 (nI 0) r2 h3)
set_option maxHeartbeats 4000000 in
set_option maxRecDepth 100000 in
theorem gX10_sideOf (x0 : Nat) (x1 : Int32) (x2 : Int32) (h : MH) (Q : Int32 → MH → Prop) (hw : wX10_sideOf x0 x1 x2 h Q) : Cm MX10_sideOf 2 0 0 [.ref (x0), .int (x1), .int (x2)] h (pI Q) := by
  refine cm_of [some (.ref (x0)), some (.int (x1)), some (.int (x2)), none, none, none] rfl pnX10 (Nat.le_of_ble_eq_true rfl) rfl ?_
  unfold wX10_sideOf at hw
  refine q_iconst (v := nI 0) eX10_sideOf_0 (by decide) ?_
  refine x_istore_n (ls' := [_, _, _, _, _, _]) eX10_sideOf_1 (by decide) rfl rfl ?_
  refine q_aload_nr eX10_sideOf_2 rfl ?_
  refine q_iload_n eX10_sideOf_3 rfl ?_
  refine q_iconst (v := nI 0) eX10_sideOf_4 (by decide) ?_
  obtain ⟨hs1, hw⟩ := hw
  refine q_callV (b := 0) (t := 0) (gX10_endOf _ _ _ _ _ hw) mlX10_219 kX10_endOf vX10_endOf rfl hs1 ⟨rfl, rfl⟩ (by decide) rfl (Nat.le_of_ble_eq_true rfl) eX10_sideOf_5 (kI fun r2 h3 hw => ?_)
  refine x_istore (ls' := [_, _, _, _, _, _]) eX10_sideOf_8 (by decide) rfl rfl ?_
  refine q_le (ls' := [some _, some _, some _, some _, some _, none]) ⟨rfl, rfl, rfl, rfl, rfl, trivial⟩ ?_
  obtain ⟨m30, hw⟩ := hw
  exact tX10_sideOf_10 m30 _ _ _ _ _ _ hw
def wX10_pathOf_81 (Q : Int32 → MH → Prop) (x4 : Int32) (x5 : Int32) (s0 : Int32) (s1 : Int32) (h : MH) : Prop := Q ((if s1 = s0 then x4 else x5)) h
set_option maxHeartbeats 4000000 in
set_option maxRecDepth 100000 in
theorem tX10_pathOf_81 {Q : Int32 → MH → Prop} (h : MH) (x4 : Int32) (x5 : Int32) (s0 : Int32) (s1 : Int32) (hw : wX10_pathOf_81 Q x4 x5 s0 s1 h) : Wm MX10_pathOf 3 0 0 81 [none, none, none, none, some (.int (x4)), some (.int (x5))] [.int (s0), .int (s1)] h (pI Q) := by
  unfold wX10_pathOf_81 at hw
  have hj25 : Wm MX10_pathOf 3 0 0 91 [none, none, none, none, some (.int (x4)), some (.int (x5))] [.int ((if s1 = s0 then x4 else x5))] h (pI Q) := by
    exact q_ret rfl eX10_pathOf_91 ⟨_, rfl, hw⟩
  refine q_icmp_ne (tgt := 89) eX10_pathOf_81 (by decide) (fun c => ?_) (fun c => ?_)
  · refine q_iload eX10_pathOf_89 rfl ?_
    rw [if_neg c] at hj25
    exact hj25
  · refine q_iload eX10_pathOf_84 rfl ?_
    refine q_goto (tgt := 91) eX10_pathOf_86 (by decide) ?_
    rw [if_pos c] at hj25
    exact hj25
def wX10_pathOf_69 (Q : Int32 → MH → Prop) (x4 : Int32) (x5 : Int32) (s0 : Int32) (h : MH) : Prop := wX10_pathOf_81 Q x4 x5 (if x5 ≤ x4 then nI 0 else nI 1) s0 h
set_option maxHeartbeats 4000000 in
set_option maxRecDepth 100000 in
theorem tX10_pathOf_69 {Q : Int32 → MH → Prop} (h : MH) (x4 : Int32) (x5 : Int32) (s0 : Int32) (hw : wX10_pathOf_69 Q x4 x5 s0 h) : Wm MX10_pathOf 3 0 0 69 [none, none, none, none, some (.int (x4)), some (.int (x5))] [.int (s0)] h (pI Q) := by
  unfold wX10_pathOf_69 at hw
  refine q_iload eX10_pathOf_69 rfl ?_
  refine q_iload eX10_pathOf_71 rfl ?_
  have hj26 : Wm MX10_pathOf 3 0 0 81 [none, none, none, none, some (.int (x4)), some (.int (x5))] [.int ((if x5 ≤ x4 then nI 0 else nI 1)), .int (s0)] h (pI Q) := by
    refine q_le (ls' := [none, none, none, none, some _, some _]) ⟨rfl, rfl, trivial⟩ ?_
    exact tX10_pathOf_81 _ _ _ _ _ hw
  refine q_icmp_ge (tgt := 80) eX10_pathOf_73 (by decide) (fun c => ?_) (fun c => ?_)
  · refine q_iconst (v := nI 0) eX10_pathOf_80 (by decide) ?_
    rw [if_pos c] at hj26
    exact hj26
  · refine q_iconst (v := nI 1) eX10_pathOf_76 (by decide) ?_
    refine q_goto (tgt := 81) eX10_pathOf_77 (by decide) ?_
    rw [if_neg c] at hj26
    exact hj26
def wX10_pathOf (x0 : Nat) (x1 : Int32) (x2 : Int32) (x3 : Int32) (h : MH) (Q : Int32 → MH → Prop) : Prop := hS h x0 = (1, 10) ∧ wX10_useOf x0 x1 x2 h (fun r2 h3 => (x3 < r2 → hS h3 x0 = (1, 10) ∧ ∃ a5, hR h3 x0 18 = some a5 ∧ ∃ n8, hS h3 a5 = (2, n8) ∧ vp_in (x1) n8 ∧ wX10_isIn ((hI h3 a5 (x1).toNatClampNeg).toInt64) x2 h3 (fun r10 h11 => (r10 = 0 → hS h11 x0 = (1, 10) ∧ wX10_sideOf x0 x1 x2 h11 (fun r13 h14 => hS h14 x0 = (1, 10) ∧ ∃ a16, hR h14 x0 18 = some a16 ∧ ∃ n19, hS h14 a16 = (2, n19) ∧ vp_in (x1) n19 ∧ ∀ v21, v21 = (hI h14 a16 (x1).toNatClampNeg &&& (r13 ^^^ (-1 : Int32))) → wX10_pathOf_69 Q r13 v21 (if x3 = 0 then nI 1 else nI 0) h14)) ∧ (¬ (r10 = 0) → hS h11 x0 = (1, 10) ∧ ∃ a29, hR h11 x0 18 = some a29 ∧ ∃ n32, hS h11 a29 = (2, n32) ∧ vp_in (x1) n32 ∧ Q ((hI h11 a29 (x1).toNatClampNeg &&& ((nI 1 <<< (x2 &&& 31)) ^^^ (-1 : Int32)))) h11))) ∧ (¬ (x3 < r2) → Q ((-1 : Int32)) h3))
set_option maxHeartbeats 4000000 in
set_option maxRecDepth 100000 in
theorem gX10_pathOf (x0 : Nat) (x1 : Int32) (x2 : Int32) (x3 : Int32) (h : MH) (Q : Int32 → MH → Prop) (hw : wX10_pathOf x0 x1 x2 x3 h Q) : Cm MX10_pathOf 3 0 0 [.ref (x0), .int (x1), .int (x2), .int (x3)] h (pI Q) := by
  refine cm_of [some (.ref (x0)), some (.int (x1)), some (.int (x2)), some (.int (x3)), none, none] rfl pnX10 (Nat.le_of_ble_eq_true rfl) rfl ?_
  unfold wX10_pathOf at hw
  refine q_iload_n eX10_pathOf_0 rfl ?_
  refine q_aload_nr eX10_pathOf_1 rfl ?_
  refine q_iload_n eX10_pathOf_2 rfl ?_
  refine q_iload_n eX10_pathOf_3 rfl ?_
  obtain ⟨hs1, hw⟩ := hw
  refine q_callV (b := 0) (t := 0) (gX10_useOf _ _ _ _ _ hw) mlX10_254 kX10_useOf vX10_useOf rfl hs1 ⟨rfl, rfl⟩ (by decide) rfl (Nat.le_of_ble_eq_true rfl) eX10_pathOf_4 (kI fun r2 h3 hw => ?_)
  obtain ⟨hw1, hw2⟩ := hw
  refine q_icmp_lt (tgt := 12) eX10_pathOf_7 (by decide) (fun c => ?_) (fun c => ?_)
  · have hw := hw1 c
    refine q_aload_nr eX10_pathOf_12 rfl ?_
    obtain ⟨hs4, hw⟩ := hw
    obtain ⟨a5, hr6, hw⟩ := hw
    refine q_getR flX10_36 rfl hs4 hr6 eX10_pathOf_13 ?_
    refine q_iload_n eX10_pathOf_16 rfl ?_
    obtain ⟨n8, hs7, hw⟩ := hw
    obtain ⟨hi9, hw⟩ := hw
    refine q_iald hs7 hi9 eX10_pathOf_17 ?_
    refine q_i2l eX10_pathOf_18 ?_
    refine q_iload_n eX10_pathOf_19 rfl ?_
    refine q_callS (b := 0) (t := 0) (gX10_isIn _ _ _ _ hw) mlX10_232 kX10_isIn sX10_isIn rfl (by decide) rfl (Nat.le_of_ble_eq_true rfl) eX10_pathOf_20 (kI fun r10 h11 hw => ?_)
    obtain ⟨hw1, hw2⟩ := hw
    refine q_if_eq (tgt := 39) eX10_pathOf_23 (by decide) (fun c => ?_) (fun c => ?_)
    · have hw := hw1 c
      refine q_aload_nr eX10_pathOf_39 rfl ?_
      refine q_iload_n eX10_pathOf_40 rfl ?_
      refine q_iload_n eX10_pathOf_41 rfl ?_
      obtain ⟨hs12, hw⟩ := hw
      refine q_callV (b := 0) (t := 0) (gX10_sideOf _ _ _ _ _ hw) mlX10_257 kX10_sideOf vX10_sideOf rfl hs12 ⟨rfl, rfl⟩ (by decide) rfl (Nat.le_of_ble_eq_true rfl) eX10_pathOf_42 (kI fun r13 h14 hw => ?_)
      refine x_istore (ls' := [_, _, _, _, _, _]) eX10_pathOf_45 (by decide) rfl rfl ?_
      refine q_aload_nr eX10_pathOf_47 rfl ?_
      obtain ⟨hs15, hw⟩ := hw
      obtain ⟨a16, hr17, hw⟩ := hw
      refine q_getR flX10_36 rfl hs15 hr17 eX10_pathOf_48 ?_
      refine q_iload_n eX10_pathOf_51 rfl ?_
      obtain ⟨n19, hs18, hw⟩ := hw
      obtain ⟨hi20, hw⟩ := hw
      refine q_iald hs18 hi20 eX10_pathOf_52 ?_
      refine q_iload eX10_pathOf_53 rfl ?_
      refine q_iconst (v := (-1 : Int32)) eX10_pathOf_55 (by decide) ?_
      refine q_ixor eX10_pathOf_56 ?_
      refine q_iand eX10_pathOf_57 ?_
      have hw := hw _ rfl
      refine x_istore (ls' := [_, _, _, _, _, _]) eX10_pathOf_58 (by decide) rfl rfl ?_
      refine q_iload_n eX10_pathOf_60 rfl ?_
      have hj27 : Wm MX10_pathOf 3 0 0 69 [some (.ref (x0)), some (.int (x1)), some (.int (x2)), some (.int (x3)), some (.int (r13)), some (.int (((hI h14 a16 (x1).toNatClampNeg &&& (r13 ^^^ (-1 : Int32))))))] [.int ((if x3 = 0 then nI 1 else nI 0))] h14 (pI Q) := by
        refine q_le (ls' := [none, none, none, none, some _, some _]) ⟨rfl, rfl, trivial⟩ ?_
        exact tX10_pathOf_69 _ _ _ _ hw
      refine q_if_ne (tgt := 68) eX10_pathOf_61 (by decide) (fun c => ?_) (fun c => ?_)
      · refine q_iconst (v := nI 0) eX10_pathOf_68 (by decide) ?_
        rw [if_neg c] at hj27
        exact hj27
      · refine q_iconst (v := nI 1) eX10_pathOf_64 (by decide) ?_
        refine q_goto (tgt := 69) eX10_pathOf_65 (by decide) ?_
        rw [if_pos c] at hj27
        exact hj27
    · have hw := hw2 c
      refine q_aload_nr eX10_pathOf_26 rfl ?_
      obtain ⟨hs28, hw⟩ := hw
      obtain ⟨a29, hr30, hw⟩ := hw
      refine q_getR flX10_36 rfl hs28 hr30 eX10_pathOf_27 ?_
      refine q_iload_n eX10_pathOf_30 rfl ?_
      obtain ⟨n32, hs31, hw⟩ := hw
      obtain ⟨hi33, hw⟩ := hw
      refine q_iald hs31 hi33 eX10_pathOf_31 ?_
      refine q_iconst (v := nI 1) eX10_pathOf_32 (by decide) ?_
      refine q_iload_n eX10_pathOf_33 rfl ?_
      refine q_ishl eX10_pathOf_34 ?_
      refine q_iconst (v := (-1 : Int32)) eX10_pathOf_35 (by decide) ?_
      refine q_ixor eX10_pathOf_36 ?_
      refine q_iand eX10_pathOf_37 ?_
      exact q_ret rfl eX10_pathOf_38 ⟨_, rfl, hw⟩
  · have hw := hw2 c
    refine q_iconst (v := (-1 : Int32)) eX10_pathOf_10 (by decide) ?_
    exact q_ret rfl eX10_pathOf_11 ⟨_, rfl, hw⟩
def wX10_usedFor_4 (Q : Int32 → MH → Prop) : Nat → Nat → Int32 → Int32 → Int32 → MH → Prop
  | 0, _, _, _, _, _ => False
  | n + 1, x0, x1, x2, x3, h => hS h x0 = (1, 10) ∧ (hI h x0 23 ≤ x3 → Q (x2) h) ∧ (¬ (hI h x0 23 ≤ x3) → ∃ a2, hR h x0 1 = some a2 ∧ ∃ n5, hS h a2 = (2, n5) ∧ vp_in ((nI 49 + x3)) n5 ∧ wX10_useOf x0 x3 x1 h (fun r7 h8 => ∀ v9, v9 = (x2 + (hI h a2 ((nI 49 + x3)).toNatClampNeg * r7)) → wX10_usedFor_4 Q n x0 x1 v9 (x3 + nI 1) h8))
set_option maxHeartbeats 4000000 in
set_option maxRecDepth 100000 in
theorem tX10_usedFor_4 {Q : Int32 → MH → Prop} : ∀ (n : Nat) (h : MH) (x0 : Nat) (x1 : Int32) (x2 : Int32) (x3 : Int32), wX10_usedFor_4 Q n x0 x1 x2 x3 h → Wm MX10_usedFor 2 0 0 4 [some (.ref (x0)), some (.int (x1)), some (.int (x2)), some (.int (x3))] [] h (pI Q) := by
  intro n
  induction n with
  | zero => intro h x0 x1 x2 x3 hw; exact hw.elim
  | succ n ih =>
    intro h x0 x1 x2 x3 hw
    unfold wX10_usedFor_4 at hw
    refine q_iload_n eX10_usedFor_4 rfl ?_
    refine q_aload_nr eX10_usedFor_5 rfl ?_
    obtain ⟨hs1, hw⟩ := hw
    refine q_getI flX10_216 rfl hs1 eX10_usedFor_6 ?_
    obtain ⟨hw1, hw2⟩ := hw
    refine q_icmp_ge (tgt := 37) eX10_usedFor_9 (by decide) (fun c => ?_) (fun c => ?_)
    · have hw := hw1 c
      refine q_iload_n eX10_usedFor_37 rfl ?_
      exact q_ret rfl eX10_usedFor_38 ⟨_, rfl, hw⟩
    · have hw := hw2 c
      refine q_iload_n eX10_usedFor_12 rfl ?_
      refine q_aload_nr eX10_usedFor_13 rfl ?_
      obtain ⟨a2, hr3, hw⟩ := hw
      refine q_getR flX10_13 rfl hs1 hr3 eX10_usedFor_14 ?_
      refine q_bipush (v := nI 49) eX10_usedFor_17 (by decide) ?_
      refine q_iload_n eX10_usedFor_19 rfl ?_
      refine q_iadd eX10_usedFor_20 ?_
      obtain ⟨n5, hs4, hw⟩ := hw
      obtain ⟨hi6, hw⟩ := hw
      refine q_iald hs4 hi6 eX10_usedFor_21 ?_
      refine q_aload_nr eX10_usedFor_22 rfl ?_
      refine q_iload_n eX10_usedFor_23 rfl ?_
      refine q_iload_n eX10_usedFor_24 rfl ?_
      refine q_callV (b := 0) (t := 0) (gX10_useOf _ _ _ _ _ hw) mlX10_254 kX10_useOf vX10_useOf rfl hs1 ⟨rfl, rfl⟩ (by decide) rfl (Nat.le_of_ble_eq_true rfl) eX10_usedFor_25 (kI fun r7 h8 hw => ?_)
      refine q_imul eX10_usedFor_28 ?_
      refine q_iadd eX10_usedFor_29 ?_
      have hw := hw _ rfl
      refine x_istore_n (ls' := [_, _, _, _]) eX10_usedFor_30 (by decide) rfl rfl ?_
      refine x_iinc (v := (x3 + nI 1)) (ls' := [_, _, _, _]) eX10_usedFor_31 rfl rfl rfl rfl ?_
      refine q_goto (tgt := 4) eX10_usedFor_34 (by decide) ?_
      refine q_le (ls' := [some _, some _, some _, some _]) ⟨rfl, rfl, rfl, rfl, trivial⟩ ?_
      exact ih _ _ _ _ _ hw
def wX10_usedFor (x0 : Nat) (x1 : Int32) (h : MH) (Q : Int32 → MH → Prop) : Prop := ∃ m10, wX10_usedFor_4 Q m10 x0 x1 (nI 0) (nI 0) h
set_option maxHeartbeats 4000000 in
set_option maxRecDepth 100000 in
theorem gX10_usedFor (x0 : Nat) (x1 : Int32) (h : MH) (Q : Int32 → MH → Prop) (hw : wX10_usedFor x0 x1 h Q) : Cm MX10_usedFor 2 0 0 [.ref (x0), .int (x1)] h (pI Q) := by
  refine cm_of [some (.ref (x0)), some (.int (x1)), none, none] rfl pnX10 (Nat.le_of_ble_eq_true rfl) rfl ?_
  unfold wX10_usedFor at hw
  refine q_iconst (v := nI 0) eX10_usedFor_0 (by decide) ?_
  refine x_istore_n (ls' := [_, _, _, _]) eX10_usedFor_1 (by decide) rfl rfl ?_
  refine q_iconst (v := nI 0) eX10_usedFor_2 (by decide) ?_
  refine x_istore_n (ls' := [_, _, _, _]) eX10_usedFor_3 (by decide) rfl rfl ?_
  refine q_le (ls' := [some _, some _, some _, some _]) ⟨rfl, rfl, rfl, rfl, trivial⟩ ?_
  obtain ⟨m10, hw⟩ := hw
  exact tX10_usedFor_4 m10 _ _ _ _ _ hw
def wX10_hasFailed (x0 : Nat) (x1 : Int32) (h : MH) (Q : Int32 → MH → Prop) : Prop := hS h x0 = (1, 10) ∧ ∃ a2, hR h x0 1 = some a2 ∧ ∃ n5, hS h a2 = (2, n5) ∧ vp_in (nI 113) n5 ∧ wX10_isIn ((hI h a2 (nI 113).toNatClampNeg).toInt64) x1 h (fun r7 h8 => (r7 = 0 ∨ r7 = 1) ∧ Q (r7) h8)
set_option maxHeartbeats 4000000 in
set_option maxRecDepth 100000 in
theorem gX10_hasFailed (x0 : Nat) (x1 : Int32) (h : MH) (Q : Int32 → MH → Prop) (hw : wX10_hasFailed x0 x1 h Q) : Cm MX10_hasFailed 1 0 0 [.ref (x0), .int (x1)] h (pI Q) := by
  refine cm_of [some (.ref (x0)), some (.int (x1))] rfl pnX10 (Nat.le_of_ble_eq_true rfl) rfl ?_
  unfold wX10_hasFailed at hw
  refine q_aload_nr eX10_hasFailed_0 rfl ?_
  obtain ⟨hs1, hw⟩ := hw
  obtain ⟨a2, hr3, hw⟩ := hw
  refine q_getR flX10_13 rfl hs1 hr3 eX10_hasFailed_1 ?_
  refine q_bipush (v := nI 113) eX10_hasFailed_4 (by decide) ?_
  obtain ⟨n5, hs4, hw⟩ := hw
  obtain ⟨hi6, hw⟩ := hw
  refine q_iald hs4 hi6 eX10_hasFailed_6 ?_
  refine q_i2l eX10_hasFailed_7 ?_
  refine q_iload_n eX10_hasFailed_8 rfl ?_
  refine q_callS (b := 0) (t := 0) (gX10_isIn _ _ _ _ hw) mlX10_232 kX10_isIn sX10_isIn rfl (by decide) rfl (Nat.le_of_ble_eq_true rfl) eX10_hasFailed_9 (kI fun r7 h8 hw => ?_)
  obtain ⟨hz9, hw⟩ := hw
  exact q_retZ rfl hz9 eX10_hasFailed_12 ⟨_, rfl, hw⟩
def wX10_runOf (x0 : Nat) (x1 : Int32) (x2 : Int32) (h : MH) (Q : Int32 → MH → Prop) : Prop := hS h x0 = (1, 10) ∧ ∃ a2, hR h x0 1 = some a2 ∧ ∃ n5, hS h a2 = (2, n5) ∧ vp_in (((nI 115 + (nI 3 * x1)) + x2)) n5 ∧ Q (hI h a2 (((nI 115 + (nI 3 * x1)) + x2)).toNatClampNeg) h
set_option maxHeartbeats 4000000 in
set_option maxRecDepth 100000 in
theorem gX10_runOf (x0 : Nat) (x1 : Int32) (x2 : Int32) (h : MH) (Q : Int32 → MH → Prop) (hw : wX10_runOf x0 x1 x2 h Q) : Cm MX10_runOf 0 0 0 [.ref (x0), .int (x1), .int (x2)] h (pI Q) := by
  refine cm_of [some (.ref (x0)), some (.int (x1)), some (.int (x2))] rfl pnX10 (Nat.le_of_ble_eq_true rfl) rfl ?_
  unfold wX10_runOf at hw
  refine q_aload_nr eX10_runOf_0 rfl ?_
  obtain ⟨hs1, hw⟩ := hw
  obtain ⟨a2, hr3, hw⟩ := hw
  refine q_getR flX10_13 rfl hs1 hr3 eX10_runOf_1 ?_
  refine q_bipush (v := nI 115) eX10_runOf_4 (by decide) ?_
  refine q_iconst (v := nI 3) eX10_runOf_6 (by decide) ?_
  refine q_iload_n eX10_runOf_7 rfl ?_
  refine q_imul eX10_runOf_8 ?_
  refine q_iadd eX10_runOf_9 ?_
  refine q_iload_n eX10_runOf_10 rfl ?_
  refine q_iadd eX10_runOf_11 ?_
  obtain ⟨n5, hs4, hw⟩ := hw
  obtain ⟨hi6, hw⟩ := hw
  refine q_iald hs4 hi6 eX10_runOf_12 ?_
  exact q_ret rfl eX10_runOf_13 ⟨_, rfl, hw⟩
def wX10_runsOn (x0 : Nat) (x1 : Int32) (x2 : Int32) (x3 : Int32) (x4 : Int32) (h : MH) (Q : MH → Prop) : Prop := hS h x0 = (1, 10) ∧ ∃ a2, hR h x0 1 = some a2 ∧ ∃ n5, hS h a2 = (2, n5) ∧ vp_in ((nI 115 + (nI 3 * x1))) n5 ∧ ∀ h7, h7 = sI h a2 ((nI 115 + (nI 3 * x1))).toNatClampNeg ((x2 + nI 1)) → vp_in (((nI 115 + (nI 3 * x1)) + nI 1)) n5 ∧ ∀ h9, h9 = sI h7 a2 (((nI 115 + (nI 3 * x1)) + nI 1)).toNatClampNeg (x3) → vp_in (((nI 115 + (nI 3 * x1)) + nI 2)) n5 ∧ ∀ h11, h11 = sI h9 a2 (((nI 115 + (nI 3 * x1)) + nI 2)).toNatClampNeg (x4) → Q h11
set_option maxHeartbeats 4000000 in
set_option maxRecDepth 100000 in
theorem gX10_runsOn (x0 : Nat) (x1 : Int32) (x2 : Int32) (x3 : Int32) (x4 : Int32) (h : MH) (Q : MH → Prop) (hw : wX10_runsOn x0 x1 x2 x3 x4 h Q) : Cm MX10_runsOn 0 0 0 [.ref (x0), .int (x1), .int (x2), .int (x3), .int (x4)] h (pV Q) := by
  refine cm_of [some (.ref (x0)), some (.int (x1)), some (.int (x2)), some (.int (x3)), some (.int (x4))] rfl pnX10 (Nat.le_of_ble_eq_true rfl) rfl ?_
  unfold wX10_runsOn at hw
  refine q_aload_nr eX10_runsOn_0 rfl ?_
  obtain ⟨hs1, hw⟩ := hw
  obtain ⟨a2, hr3, hw⟩ := hw
  refine q_getR flX10_13 rfl hs1 hr3 eX10_runsOn_1 ?_
  refine q_bipush (v := nI 115) eX10_runsOn_4 (by decide) ?_
  refine q_iconst (v := nI 3) eX10_runsOn_6 (by decide) ?_
  refine q_iload_n eX10_runsOn_7 rfl ?_
  refine q_imul eX10_runsOn_8 ?_
  refine q_iadd eX10_runsOn_9 ?_
  refine q_iload_n eX10_runsOn_10 rfl ?_
  refine q_iconst (v := nI 1) eX10_runsOn_11 (by decide) ?_
  refine q_iadd eX10_runsOn_12 ?_
  obtain ⟨n5, hs4, hw⟩ := hw
  obtain ⟨hi6, hw⟩ := hw
  have hw := hw _ rfl
  refine q_iast hs4 hi6 eX10_runsOn_13 ?_
  refine q_aload_nr eX10_runsOn_14 rfl ?_
  refine q_getR flX10_13 rfl hs1 hr3 eX10_runsOn_15 ?_
  refine q_bipush (v := nI 115) eX10_runsOn_18 (by decide) ?_
  refine q_iconst (v := nI 3) eX10_runsOn_20 (by decide) ?_
  refine q_iload_n eX10_runsOn_21 rfl ?_
  refine q_imul eX10_runsOn_22 ?_
  refine q_iadd eX10_runsOn_23 ?_
  refine q_iconst (v := nI 1) eX10_runsOn_24 (by decide) ?_
  refine q_iadd eX10_runsOn_25 ?_
  refine q_iload_n eX10_runsOn_26 rfl ?_
  obtain ⟨hi8, hw⟩ := hw
  have hw := hw _ rfl
  refine q_iast hs4 hi8 eX10_runsOn_27 ?_
  refine q_aload_nr eX10_runsOn_28 rfl ?_
  refine q_getR flX10_13 rfl hs1 hr3 eX10_runsOn_29 ?_
  refine q_bipush (v := nI 115) eX10_runsOn_32 (by decide) ?_
  refine q_iconst (v := nI 3) eX10_runsOn_34 (by decide) ?_
  refine q_iload_n eX10_runsOn_35 rfl ?_
  refine q_imul eX10_runsOn_36 ?_
  refine q_iadd eX10_runsOn_37 ?_
  refine q_iconst (v := nI 2) eX10_runsOn_38 (by decide) ?_
  refine q_iadd eX10_runsOn_39 ?_
  refine q_iload eX10_runsOn_40 rfl ?_
  obtain ⟨hi10, hw⟩ := hw
  have hw := hw _ rfl
  refine q_iast hs4 hi10 eX10_runsOn_42 ?_
  exact q_retV rfl eX10_runsOn_43 ⟨rfl, hw⟩
def wX10_isFree_17 (Q : Int32 → MH → Prop) : Nat → Nat → Int32 → Int32 → Int32 → Int32 → MH → Prop
  | 0, _, _, _, _, _, _ => False
  | n + 1, x0, x1, x2, x3, x4, h => (nI 20 ≤ x4 → Q (nI 1) h) ∧ (¬ (nI 20 ≤ x4) → hS h x0 = (1, 10) ∧ wX10_runOf x0 x4 (nI 0) h (fun r8 h9 => (¬ (r8 = (x1 + nI 1)) → wX10_isFree_17 Q n x0 x1 x2 x3 (x4 + nI 1) h9) ∧ (r8 = (x1 + nI 1) → hS h9 x0 = (1, 10) ∧ wX10_runOf x0 x4 (nI 1) h9 (fun r11 h12 => (¬ (r11 = x2) → wX10_isFree_17 Q n x0 x1 x2 x3 (x4 + nI 1) h12) ∧ (r11 = x2 → hS h12 x0 = (1, 10) ∧ wX10_runOf x0 x4 (nI 2) h12 (fun r14 h15 => ((r14 &&& x3) = 0 → wX10_isFree_17 Q n x0 x1 x2 x3 (x4 + nI 1) h15) ∧ (¬ ((r14 &&& x3) = 0) → Q (nI 0) h15)))))))
set_option maxHeartbeats 4000000 in
set_option maxRecDepth 100000 in
theorem tX10_isFree_17 {Q : Int32 → MH → Prop} : ∀ (n : Nat) (h : MH) (x0 : Nat) (x1 : Int32) (x2 : Int32) (x3 : Int32) (x4 : Int32), wX10_isFree_17 Q n x0 x1 x2 x3 x4 h → Wm MX10_isFree 1 0 0 17 [some (.ref (x0)), some (.int (x1)), some (.int (x2)), some (.int (x3)), some (.int (x4))] [] h (pI Q) := by
  intro n
  induction n with
  | zero => intro h x0 x1 x2 x3 x4 hw; exact hw.elim
  | succ n ih =>
    intro h x0 x1 x2 x3 x4 hw
    unfold wX10_isFree_17 at hw
    refine q_iload eX10_isFree_17 rfl ?_
    refine q_bipush (v := nI 20) eX10_isFree_19 (by decide) ?_
    obtain ⟨hw1, hw2⟩ := hw
    refine q_icmp_ge (tgt := 68) eX10_isFree_21 (by decide) (fun c => ?_) (fun c => ?_)
    · have hw := hw1 c
      refine q_iconst (v := nI 1) eX10_isFree_68 (by decide) ?_
      exact q_retZ rfl (by decide) eX10_isFree_69 ⟨_, rfl, hw⟩
    · have hw := hw2 c
      refine q_aload_nr eX10_isFree_24 rfl ?_
      refine q_iload eX10_isFree_25 rfl ?_
      refine q_iconst (v := nI 0) eX10_isFree_27 (by decide) ?_
      obtain ⟨hs7, hw⟩ := hw
      refine q_callV (b := 0) (t := 0) (gX10_runOf _ _ _ _ _ hw) mlX10_260 kX10_runOf vX10_runOf rfl hs7 ⟨rfl, rfl⟩ (by decide) rfl (Nat.le_of_ble_eq_true rfl) eX10_isFree_28 (kI fun r8 h9 hw => ?_)
      refine q_iload_n eX10_isFree_31 rfl ?_
      refine q_iconst (v := nI 1) eX10_isFree_32 (by decide) ?_
      refine q_iadd eX10_isFree_33 ?_
      obtain ⟨hw1, hw2⟩ := hw
      refine q_icmp_ne (tgt := 62) eX10_isFree_34 (by decide) (fun c => ?_) (fun c => ?_)
      · have hw := hw1 c
        refine x_iinc (v := (x4 + nI 1)) (ls' := [_, _, _, _, _]) eX10_isFree_62 rfl rfl rfl rfl ?_
        refine q_goto (tgt := 17) eX10_isFree_65 (by decide) ?_
        refine q_le (ls' := [some _, some _, some _, some _, some _]) ⟨rfl, rfl, rfl, rfl, rfl, trivial⟩ ?_
        exact ih _ _ _ _ _ _ hw
      · have hw := hw2 c
        refine q_aload_nr eX10_isFree_37 rfl ?_
        refine q_iload eX10_isFree_38 rfl ?_
        refine q_iconst (v := nI 1) eX10_isFree_40 (by decide) ?_
        obtain ⟨hs10, hw⟩ := hw
        refine q_callV (b := 0) (t := 0) (gX10_runOf _ _ _ _ _ hw) mlX10_260 kX10_runOf vX10_runOf rfl hs10 ⟨rfl, rfl⟩ (by decide) rfl (Nat.le_of_ble_eq_true rfl) eX10_isFree_41 (kI fun r11 h12 hw => ?_)
        refine q_iload_n eX10_isFree_44 rfl ?_
        obtain ⟨hw1, hw2⟩ := hw
        refine q_icmp_ne (tgt := 62) eX10_isFree_45 (by decide) (fun c => ?_) (fun c => ?_)
        · have hw := hw1 c
          refine x_iinc (v := (x4 + nI 1)) (ls' := [_, _, _, _, _]) eX10_isFree_62 rfl rfl rfl rfl ?_
          refine q_goto (tgt := 17) eX10_isFree_65 (by decide) ?_
          refine q_le (ls' := [some _, some _, some _, some _, some _]) ⟨rfl, rfl, rfl, rfl, rfl, trivial⟩ ?_
          exact ih _ _ _ _ _ _ hw
        · have hw := hw2 c
          refine q_aload_nr eX10_isFree_48 rfl ?_
          refine q_iload eX10_isFree_49 rfl ?_
          refine q_iconst (v := nI 2) eX10_isFree_51 (by decide) ?_
          obtain ⟨hs13, hw⟩ := hw
          refine q_callV (b := 0) (t := 0) (gX10_runOf _ _ _ _ _ hw) mlX10_260 kX10_runOf vX10_runOf rfl hs13 ⟨rfl, rfl⟩ (by decide) rfl (Nat.le_of_ble_eq_true rfl) eX10_isFree_52 (kI fun r14 h15 hw => ?_)
          refine q_iload_n eX10_isFree_55 rfl ?_
          refine q_iand eX10_isFree_56 ?_
          obtain ⟨hw1, hw2⟩ := hw
          refine q_if_eq (tgt := 62) eX10_isFree_57 (by decide) (fun c => ?_) (fun c => ?_)
          · have hw := hw1 c
            refine x_iinc (v := (x4 + nI 1)) (ls' := [_, _, _, _, _]) eX10_isFree_62 rfl rfl rfl rfl ?_
            refine q_goto (tgt := 17) eX10_isFree_65 (by decide) ?_
            refine q_le (ls' := [some _, some _, some _, some _, some _]) ⟨rfl, rfl, rfl, rfl, rfl, trivial⟩ ?_
            exact ih _ _ _ _ _ _ hw
          · have hw := hw2 c
            refine q_iconst (v := nI 0) eX10_isFree_60 (by decide) ?_
            exact q_retZ rfl (by decide) eX10_isFree_61 ⟨_, rfl, hw⟩
def wX10_isFree (x0 : Nat) (x1 : Int32) (x2 : Int32) (x3 : Int32) (h : MH) (Q : Int32 → MH → Prop) : Prop := hS h x0 = (1, 10) ∧ ∃ a2, hR h x0 1 = some a2 ∧ ∃ n5, hS h a2 = (2, n5) ∧ vp_in (nI 113) n5 ∧ ((x3 &&& hI h a2 (nI 113).toNatClampNeg) = 0 → ∃ m16, wX10_isFree_17 Q m16 x0 x1 x2 x3 (nI 0) h) ∧ (¬ ((x3 &&& hI h a2 (nI 113).toNatClampNeg) = 0) → Q (nI 0) h)
set_option maxHeartbeats 4000000 in
set_option maxRecDepth 100000 in
theorem gX10_isFree (x0 : Nat) (x1 : Int32) (x2 : Int32) (x3 : Int32) (h : MH) (Q : Int32 → MH → Prop) (hw : wX10_isFree x0 x1 x2 x3 h Q) : Cm MX10_isFree 1 0 0 [.ref (x0), .int (x1), .int (x2), .int (x3)] h (pI Q) := by
  refine cm_of [some (.ref (x0)), some (.int (x1)), some (.int (x2)), some (.int (x3)), none] rfl pnX10 (Nat.le_of_ble_eq_true rfl) rfl ?_
  unfold wX10_isFree at hw
  refine q_iload_n eX10_isFree_0 rfl ?_
  refine q_aload_nr eX10_isFree_1 rfl ?_
  obtain ⟨hs1, hw⟩ := hw
  obtain ⟨a2, hr3, hw⟩ := hw
  refine q_getR flX10_13 rfl hs1 hr3 eX10_isFree_2 ?_
  refine q_bipush (v := nI 113) eX10_isFree_5 (by decide) ?_
  obtain ⟨n5, hs4, hw⟩ := hw
  obtain ⟨hi6, hw⟩ := hw
  refine q_iald hs4 hi6 eX10_isFree_7 ?_
  refine q_iand eX10_isFree_8 ?_
  obtain ⟨hw1, hw2⟩ := hw
  refine q_if_eq (tgt := 14) eX10_isFree_9 (by decide) (fun c => ?_) (fun c => ?_)
  · have hw := hw1 c
    refine q_iconst (v := nI 0) eX10_isFree_14 (by decide) ?_
    refine x_istore (ls' := [_, _, _, _, _]) eX10_isFree_15 (by decide) rfl rfl ?_
    refine q_le (ls' := [some _, some _, some _, some _, some _]) ⟨rfl, rfl, rfl, rfl, rfl, trivial⟩ ?_
    obtain ⟨m16, hw⟩ := hw
    exact tX10_isFree_17 m16 _ _ _ _ _ _ hw
  · have hw := hw2 c
    refine q_iconst (v := nI 0) eX10_isFree_12 (by decide) ?_
    exact q_retZ rfl (by decide) eX10_isFree_13 ⟨_, rfl, hw⟩
def wX10_triesOne_39 (Q : MH → Prop) (K2 : Nat → Int32 → Int32 → Int32 → MH → Prop) (K13 : Nat → Int32 → Int32 → Int32 → Int32 → MH → Prop) : Nat → Nat → Int32 → Int32 → Int32 → Int32 → Int32 → MH → Prop
  | 0, _, _, _, _, _, _, _ => False
  | n + 1, x0, x1, x2, x3, x4, x5, h => hS h x0 = (1, 10) ∧ wX10_useOf x0 x3 x1 h (fun r11 h12 => (r11 ≤ x5 → K13 x0 x1 x2 x3 (x4 + nI 1) h12) ∧ (¬ (r11 ≤ x5) → hS h12 x0 = (1, 10) ∧ wX10_pathOf x0 x3 x1 x5 h12 (fun r14 h15 => hS h15 x0 = (1, 10) ∧ wX10_isFree x0 x3 x4 r14 h15 (fun r17 h18 => (¬ (r17 = 0) → hS h18 x0 = (1, 10) ∧ wX10_pathOf x0 x3 x1 x5 h18 (fun r20 h21 => hS h21 x0 = (1, 10) ∧ wX10_runsOn x0 x2 x3 x4 r20 h21 (fun h24 => Q h24))) ∧ (r17 = 0 → wX10_triesOne_39 Q K2 K13 n x0 x1 x2 x3 x4 (x5 + nI 1) h18)))))
set_option maxHeartbeats 4000000 in
set_option maxRecDepth 100000 in
theorem tX10_triesOne_39 {Q : MH → Prop} {K2 : Nat → Int32 → Int32 → Int32 → MH → Prop} {K13 : Nat → Int32 → Int32 → Int32 → Int32 → MH → Prop} (hK2 : ∀ (h : MH) (x0 : Nat) (x1 : Int32) (x2 : Int32) (x3 : Int32), K2 x0 x1 x2 x3 h → Wm MX10_triesOne 4 0 0 2 [some (.ref (x0)), some (.int (x1)), some (.int (x2)), some (.int (x3)), none, none] [] h (pV Q)) (hK13 : ∀ (h : MH) (x0 : Nat) (x1 : Int32) (x2 : Int32) (x3 : Int32) (x4 : Int32), K13 x0 x1 x2 x3 x4 h → Wm MX10_triesOne 4 0 0 13 [some (.ref (x0)), some (.int (x1)), some (.int (x2)), some (.int (x3)), some (.int (x4)), none] [] h (pV Q)) : ∀ (n : Nat) (h : MH) (x0 : Nat) (x1 : Int32) (x2 : Int32) (x3 : Int32) (x4 : Int32) (x5 : Int32), wX10_triesOne_39 Q K2 K13 n x0 x1 x2 x3 x4 x5 h → Wm MX10_triesOne 4 0 0 39 [some (.ref (x0)), some (.int (x1)), some (.int (x2)), some (.int (x3)), some (.int (x4)), some (.int (x5))] [] h (pV Q) := by
  intro n
  induction n with
  | zero => intro h x0 x1 x2 x3 x4 x5 hw; exact hw.elim
  | succ n ih =>
    intro h x0 x1 x2 x3 x4 x5 hw
    unfold wX10_triesOne_39 at hw
    refine q_iload eX10_triesOne_39 rfl ?_
    refine q_aload_nr eX10_triesOne_41 rfl ?_
    refine q_iload_n eX10_triesOne_42 rfl ?_
    refine q_iload_n eX10_triesOne_43 rfl ?_
    obtain ⟨hs10, hw⟩ := hw
    refine q_callV (b := 0) (t := 0) (gX10_useOf _ _ _ _ _ hw) mlX10_254 kX10_useOf vX10_useOf rfl hs10 ⟨rfl, rfl⟩ (by decide) rfl (Nat.le_of_ble_eq_true rfl) eX10_triesOne_44 (kI fun r11 h12 hw => ?_)
    obtain ⟨hw1, hw2⟩ := hw
    refine q_icmp_ge (tgt := 94) eX10_triesOne_47 (by decide) (fun c => ?_) (fun c => ?_)
    · have hw := hw1 c
      refine x_iinc (v := (x4 + nI 1)) (ls' := [_, _, _, _, _, _]) eX10_triesOne_94 rfl rfl rfl rfl ?_
      refine q_goto (tgt := 13) eX10_triesOne_97 (by decide) ?_
      refine q_le (ls' := [some _, some _, some _, some _, some _, none]) ⟨rfl, rfl, rfl, rfl, rfl, trivial⟩ ?_
      exact hK13 _ _ _ _ _ _ hw
    · have hw := hw2 c
      refine q_aload_nr eX10_triesOne_50 rfl ?_
      refine q_iload_n eX10_triesOne_51 rfl ?_
      refine q_iload eX10_triesOne_52 rfl ?_
      refine q_aload_nr eX10_triesOne_54 rfl ?_
      refine q_iload_n eX10_triesOne_55 rfl ?_
      refine q_iload_n eX10_triesOne_56 rfl ?_
      refine q_iload eX10_triesOne_57 rfl ?_
      obtain ⟨hs13, hw⟩ := hw
      refine q_callV (b := 0) (t := 0) (gX10_pathOf _ _ _ _ _ _ hw) mlX10_263 kX10_pathOf vX10_pathOf rfl hs13 ⟨rfl, rfl⟩ (by decide) rfl (Nat.le_of_ble_eq_true rfl) eX10_triesOne_59 (kI fun r14 h15 hw => ?_)
      obtain ⟨hs16, hw⟩ := hw
      refine q_callV (b := 0) (t := 0) (gX10_isFree _ _ _ _ _ _ hw) mlX10_266 kX10_isFree vX10_isFree rfl hs16 ⟨rfl, rfl⟩ (by decide) rfl (Nat.le_of_ble_eq_true rfl) eX10_triesOne_62 (kI fun r17 h18 hw => ?_)
      obtain ⟨hw1, hw2⟩ := hw
      refine q_if_ne (tgt := 71) eX10_triesOne_65 (by decide) (fun c => ?_) (fun c => ?_)
      · have hw := hw1 c
        refine q_aload_nr eX10_triesOne_71 rfl ?_
        refine q_iload_n eX10_triesOne_72 rfl ?_
        refine q_iload_n eX10_triesOne_73 rfl ?_
        refine q_iload eX10_triesOne_74 rfl ?_
        refine q_aload_nr eX10_triesOne_76 rfl ?_
        refine q_iload_n eX10_triesOne_77 rfl ?_
        refine q_iload_n eX10_triesOne_78 rfl ?_
        refine q_iload eX10_triesOne_79 rfl ?_
        obtain ⟨hs19, hw⟩ := hw
        refine q_callV (b := 0) (t := 0) (gX10_pathOf _ _ _ _ _ _ hw) mlX10_263 kX10_pathOf vX10_pathOf rfl hs19 ⟨rfl, rfl⟩ (by decide) rfl (Nat.le_of_ble_eq_true rfl) eX10_triesOne_81 (kI fun r20 h21 hw => ?_)
        obtain ⟨hs22, hw⟩ := hw
        refine q_callV (b := 0) (t := 0) (gX10_runsOn _ _ _ _ _ _ _ hw) mlX10_270 kX10_runsOn vX10_runsOn rfl hs22 ⟨rfl, rfl⟩ (by decide) rfl (Nat.le_of_ble_eq_true rfl) eX10_triesOne_84 (kV fun h24 hw => ?_)
        exact q_retV rfl eX10_triesOne_87 ⟨rfl, hw⟩
      · have hw := hw2 c
        refine q_goto (tgt := 88) eX10_triesOne_68 (by decide) ?_
        refine x_iinc (v := (x5 + nI 1)) (ls' := [_, _, _, _, _, _]) eX10_triesOne_88 rfl rfl rfl rfl ?_
        refine q_goto (tgt := 39) eX10_triesOne_91 (by decide) ?_
        refine q_le (ls' := [some _, some _, some _, some _, some _, some _]) ⟨rfl, rfl, rfl, rfl, rfl, rfl, trivial⟩ ?_
        exact ih _ _ _ _ _ _ _ hw
def wX10_triesOne_13 (Q : MH → Prop) (K2 : Nat → Int32 → Int32 → Int32 → MH → Prop) : Nat → Nat → Int32 → Int32 → Int32 → Int32 → MH → Prop
  | 0, _, _, _, _, _, _ => False
  | n + 1, x0, x1, x2, x3, x4, h => hS h x0 = (1, 10) ∧ ∃ a3, hR h x0 1 = some a3 ∧ ∃ n6, hS h a3 = (2, n6) ∧ vp_in ((nI 49 + x3)) n6 ∧ (hI h a3 ((nI 49 + x3)).toNatClampNeg ≤ x4 → K2 x0 x1 x2 (x3 + nI 1) h) ∧ (¬ (hI h a3 ((nI 49 + x3)).toNatClampNeg ≤ x4) → wX10_useOf x0 x3 x1 h (fun r8 h9 => (r8 ≤ 0 → K2 x0 x1 x2 (x3 + nI 1) h9) ∧ (¬ (r8 ≤ 0) → ∃ m25, wX10_triesOne_39 Q K2 (wX10_triesOne_13 Q K2 n) m25 x0 x1 x2 x3 x4 (nI 0) h9)))
set_option maxHeartbeats 4000000 in
set_option maxRecDepth 100000 in
theorem tX10_triesOne_13 {Q : MH → Prop} {K2 : Nat → Int32 → Int32 → Int32 → MH → Prop} (hK2 : ∀ (h : MH) (x0 : Nat) (x1 : Int32) (x2 : Int32) (x3 : Int32), K2 x0 x1 x2 x3 h → Wm MX10_triesOne 4 0 0 2 [some (.ref (x0)), some (.int (x1)), some (.int (x2)), some (.int (x3)), none, none] [] h (pV Q)) : ∀ (n : Nat) (h : MH) (x0 : Nat) (x1 : Int32) (x2 : Int32) (x3 : Int32) (x4 : Int32), wX10_triesOne_13 Q K2 n x0 x1 x2 x3 x4 h → Wm MX10_triesOne 4 0 0 13 [some (.ref (x0)), some (.int (x1)), some (.int (x2)), some (.int (x3)), some (.int (x4)), none] [] h (pV Q) := by
  intro n
  induction n with
  | zero => intro h x0 x1 x2 x3 x4 hw; exact hw.elim
  | succ n ih =>
    intro h x0 x1 x2 x3 x4 hw
    unfold wX10_triesOne_13 at hw
    refine q_iload eX10_triesOne_13 rfl ?_
    refine q_aload_nr eX10_triesOne_15 rfl ?_
    obtain ⟨hs2, hw⟩ := hw
    obtain ⟨a3, hr4, hw⟩ := hw
    refine q_getR flX10_13 rfl hs2 hr4 eX10_triesOne_16 ?_
    refine q_bipush (v := nI 49) eX10_triesOne_19 (by decide) ?_
    refine q_iload_n eX10_triesOne_21 rfl ?_
    refine q_iadd eX10_triesOne_22 ?_
    obtain ⟨n6, hs5, hw⟩ := hw
    obtain ⟨hi7, hw⟩ := hw
    refine q_iald hs5 hi7 eX10_triesOne_23 ?_
    obtain ⟨hw1, hw2⟩ := hw
    refine q_icmp_ge (tgt := 100) eX10_triesOne_24 (by decide) (fun c => ?_) (fun c => ?_)
    · have hw := hw1 c
      refine x_iinc (v := (x3 + nI 1)) (ls' := [_, _, _, _, _, _]) eX10_triesOne_100 rfl rfl rfl rfl ?_
      refine q_goto (tgt := 2) eX10_triesOne_103 (by decide) ?_
      refine q_le (ls' := [some _, some _, some _, some _, none, none]) ⟨rfl, rfl, rfl, rfl, trivial⟩ ?_
      exact hK2 _ _ _ _ _ hw
    · have hw := hw2 c
      refine q_aload_nr eX10_triesOne_27 rfl ?_
      refine q_iload_n eX10_triesOne_28 rfl ?_
      refine q_iload_n eX10_triesOne_29 rfl ?_
      refine q_callV (b := 0) (t := 0) (gX10_useOf _ _ _ _ _ hw) mlX10_254 kX10_useOf vX10_useOf rfl hs2 ⟨rfl, rfl⟩ (by decide) rfl (Nat.le_of_ble_eq_true rfl) eX10_triesOne_30 (kI fun r8 h9 hw => ?_)
      obtain ⟨hw1, hw2⟩ := hw
      refine q_if_le (tgt := 100) eX10_triesOne_33 (by decide) (fun c => ?_) (fun c => ?_)
      · have hw := hw1 c
        refine x_iinc (v := (x3 + nI 1)) (ls' := [_, _, _, _, _, _]) eX10_triesOne_100 rfl rfl rfl rfl ?_
        refine q_goto (tgt := 2) eX10_triesOne_103 (by decide) ?_
        refine q_le (ls' := [some _, some _, some _, some _, none, none]) ⟨rfl, rfl, rfl, rfl, trivial⟩ ?_
        exact hK2 _ _ _ _ _ hw
      · have hw := hw2 c
        refine q_iconst (v := nI 0) eX10_triesOne_36 (by decide) ?_
        refine x_istore (ls' := [_, _, _, _, _, _]) eX10_triesOne_37 (by decide) rfl rfl ?_
        refine q_le (ls' := [some _, some _, some _, some _, some _, some _]) ⟨rfl, rfl, rfl, rfl, rfl, rfl, trivial⟩ ?_
        obtain ⟨m25, hw⟩ := hw
        exact tX10_triesOne_39 hK2 ih m25 _ _ _ _ _ _ _ hw
def wX10_triesOne_2 (Q : MH → Prop) : Nat → Nat → Int32 → Int32 → Int32 → MH → Prop
  | 0, _, _, _, _, _ => False
  | n + 1, x0, x1, x2, x3, h => hS h x0 = (1, 10) ∧ (hI h x0 23 ≤ x3 → Q h) ∧ (¬ (hI h x0 23 ≤ x3) → ∃ m26, wX10_triesOne_13 Q (wX10_triesOne_2 Q n) m26 x0 x1 x2 x3 (nI 0) h)
set_option maxHeartbeats 4000000 in
set_option maxRecDepth 100000 in
theorem tX10_triesOne_2 {Q : MH → Prop} : ∀ (n : Nat) (h : MH) (x0 : Nat) (x1 : Int32) (x2 : Int32) (x3 : Int32), wX10_triesOne_2 Q n x0 x1 x2 x3 h → Wm MX10_triesOne 4 0 0 2 [some (.ref (x0)), some (.int (x1)), some (.int (x2)), some (.int (x3)), none, none] [] h (pV Q) := by
  intro n
  induction n with
  | zero => intro h x0 x1 x2 x3 hw; exact hw.elim
  | succ n ih =>
    intro h x0 x1 x2 x3 hw
    unfold wX10_triesOne_2 at hw
    refine q_iload_n eX10_triesOne_2 rfl ?_
    refine q_aload_nr eX10_triesOne_3 rfl ?_
    obtain ⟨hs1, hw⟩ := hw
    refine q_getI flX10_216 rfl hs1 eX10_triesOne_4 ?_
    obtain ⟨hw1, hw2⟩ := hw
    refine q_icmp_ge (tgt := 106) eX10_triesOne_7 (by decide) (fun c => ?_) (fun c => ?_)
    · have hw := hw1 c
      exact q_retV rfl eX10_triesOne_106 ⟨rfl, hw⟩
    · have hw := hw2 c
      refine q_iconst (v := nI 0) eX10_triesOne_10 (by decide) ?_
      refine x_istore (ls' := [_, _, _, _, _, _]) eX10_triesOne_11 (by decide) rfl rfl ?_
      refine q_le (ls' := [some _, some _, some _, some _, some _, none]) ⟨rfl, rfl, rfl, rfl, rfl, trivial⟩ ?_
      obtain ⟨m26, hw⟩ := hw
      exact tX10_triesOne_13 ih m26 _ _ _ _ _ _ hw
def wX10_triesOne (x0 : Nat) (x1 : Int32) (x2 : Int32) (h : MH) (Q : MH → Prop) : Prop := ∃ m27, wX10_triesOne_2 Q m27 x0 x1 x2 (nI 0) h
set_option maxHeartbeats 4000000 in
set_option maxRecDepth 100000 in
theorem gX10_triesOne (x0 : Nat) (x1 : Int32) (x2 : Int32) (h : MH) (Q : MH → Prop) (hw : wX10_triesOne x0 x1 x2 h Q) : Cm MX10_triesOne 4 0 0 [.ref (x0), .int (x1), .int (x2)] h (pV Q) := by
  refine cm_of [some (.ref (x0)), some (.int (x1)), some (.int (x2)), none, none, none] rfl pnX10 (Nat.le_of_ble_eq_true rfl) rfl ?_
  unfold wX10_triesOne at hw
  refine q_iconst (v := nI 0) eX10_triesOne_0 (by decide) ?_
  refine x_istore_n (ls' := [_, _, _, _, _, _]) eX10_triesOne_1 (by decide) rfl rfl ?_
  refine q_le (ls' := [some _, some _, some _, some _, none, none]) ⟨rfl, rfl, rfl, rfl, trivial⟩ ?_
  obtain ⟨m27, hw⟩ := hw
  exact tX10_triesOne_2 m27 _ _ _ _ _ hw
