/-! ===== methods: what each needs and does (by program) ===== -/
def wX9_link (x0 : Nat) (x1 : Int32) (x2 : Int32) (h : MH) (Q : Int32 → MH → Prop) : Prop := hS h x0 = (1, 9) ∧ ∃ a2, hR h x0 1 = some a2 ∧ hS h a2 = (1, 4) ∧ wX4_hasLink a2 x1 h (fun r5 h6 => (¬ (r5 = 0) → ((x2).toInt < 0 ∨ 6 < (x2).toInt → Q ((-2 : Int32)) h6) ∧ (x2 = nI 0 → hS h6 x0 = (1, 9) ∧ ∃ a8, hR h6 x0 1 = some a8 ∧ hS h6 a8 = (1, 4) ∧ ∃ a11, hR h6 a8 4 = some a11 ∧ ∃ n14, hS h6 a11 = (2, n14) ∧ vp_in (x1) n14 ∧ Q (hI h6 a11 (x1).toNatClampNeg) h6) ∧ (x2 = nI 1 → hS h6 x0 = (1, 9) ∧ ∃ a17, hR h6 x0 1 = some a17 ∧ hS h6 a17 = (1, 4) ∧ ∃ a20, hR h6 a17 5 = some a20 ∧ ∃ n23, hS h6 a20 = (2, n23) ∧ vp_in (x1) n23 ∧ Q (hI h6 a20 (x1).toNatClampNeg) h6) ∧ (x2 = nI 2 → hS h6 x0 = (1, 9) ∧ ∃ a26, hR h6 x0 1 = some a26 ∧ hS h6 a26 = (1, 4) ∧ ∃ a29, hR h6 a26 6 = some a29 ∧ ∃ n32, hS h6 a29 = (2, n32) ∧ vp_in (x1) n32 ∧ Q (hI h6 a29 (x1).toNatClampNeg) h6) ∧ (x2 = nI 3 → hS h6 x0 = (1, 9) ∧ ∃ a35, hR h6 x0 1 = some a35 ∧ hS h6 a35 = (1, 4) ∧ ∃ a38, hR h6 a35 7 = some a38 ∧ ∃ n41, hS h6 a38 = (2, n41) ∧ vp_in (x1) n41 ∧ Q (hI h6 a38 (x1).toNatClampNeg) h6) ∧ (x2 = nI 4 → hS h6 x0 = (1, 9) ∧ ∃ a44, hR h6 x0 2 = some a44 ∧ hS h6 a44 = (1, 6) ∧ wX6_hasFailed a44 x1 h6 (fun r47 h48 => Q ((if r47 = 0 then nI 0 else nI 1)) h48)) ∧ (x2 = nI 5 → hS h6 x0 = (1, 9) ∧ ∃ a52, hR h6 x0 1 = some a52 ∧ ∃ a54, hR h6 x0 2 = some a54 ∧ hS h6 a52 = (1, 4) ∧ wX4_usesLaid a52 a54 x1 h6 (fun r57 h58 => Q (r57) h58)) ∧ (x2 = nI 6 → hS h6 x0 = (1, 9) ∧ ∃ a60, hR h6 x0 6 = some a60 ∧ ∃ a62, hR h6 x0 1 = some a62 ∧ ∃ a64, hR h6 x0 2 = some a64 ∧ hS h6 a60 = (1, 7) ∧ wX7_lostOf a60 a62 a64 x1 h6 (fun r67 h68 => Q (r67) h68))) ∧ (r5 = 0 → Q ((-2 : Int32)) h6))
set_option maxHeartbeats 4000000 in
set_option maxRecDepth 100000 in
theorem gX9_link (x0 : Nat) (x1 : Int32) (x2 : Int32) (h : MH) (Q : Int32 → MH → Prop) (hw : wX9_link x0 x1 x2 h Q) : Cm MX9_link 2 0 0 [.ref (x0), .int (x1), .int (x2)] h (pI Q) := by
  refine cm_of [some (.ref (x0)), some (.int (x1)), some (.int (x2))] rfl pnX9 (Nat.le_of_ble_eq_true rfl) rfl ?_
  unfold wX9_link at hw
  refine q_aload_nr eX9_link_0 rfl ?_
  obtain ⟨hs1, hw⟩ := hw
  obtain ⟨a2, hr3, hw⟩ := hw
  refine q_getR flX9_19 rfl hs1 hr3 eX9_link_1 ?_
  refine q_iload_n eX9_link_4 rfl ?_
  obtain ⟨hs4, hw⟩ := hw
  refine q_callV (b := 0) (t := 0) (gX4_hasLink _ _ _ _ hw) mlX9_117 kX4_hasLink vX4_hasLink rfl hs4 ⟨rfl, rfl⟩ (by decide) rfl (Nat.le_of_ble_eq_true rfl) eX9_link_5 (kI fun r5 h6 hw => ?_)
  obtain ⟨hw1, hw2⟩ := hw
  refine q_if_ne (tgt := 14) eX9_link_8 (by decide) (fun c => ?_) (fun c => ?_)
  · have hw := hw1 c
    refine q_iload_n eX9_link_14 rfl ?_
    obtain ⟨hw0, hw1, hw2, hw3, hw4, hw5, hw6, hw7⟩ := hw
    by_cases hx : (x2).toInt < 0 ∨ 6 < (x2).toInt
    · have hw := hw0 hx
      refine q_tabOut (tgt := 143) eX9_link_15 hx (by decide) ?_
      refine q_bipush (v := (-2 : Int32)) eX9_link_143 (by decide) ?_
      exact q_ret rfl eX9_link_145 ⟨_, rfl, hw⟩
    · have hk : (x2).toInt = 0 ∨ (x2).toInt = 1 ∨ (x2).toInt = 2 ∨ (x2).toInt = 3 ∨ (x2).toInt = 4 ∨ (x2).toInt = 5 ∨ (x2).toInt = 6 := by omega
      rcases hk with hk | hk | hk | hk | hk | hk | hk
      · have hw := hw1 (x_toInt (by decide) hk)
        refine q_tabIn (off := 41) (tgt := 56) eX9_link_15 (by omega) (by omega) (by rw [hk]; rfl) (by decide) ?_
        refine q_aload_nr eX9_link_56 rfl ?_
        obtain ⟨hs7, hw⟩ := hw
        obtain ⟨a8, hr9, hw⟩ := hw
        refine q_getR flX9_19 rfl hs7 hr9 eX9_link_57 ?_
        obtain ⟨hs10, hw⟩ := hw
        obtain ⟨a11, hr12, hw⟩ := hw
        refine q_getR flX9_121 rfl hs10 hr12 eX9_link_60 ?_
        refine q_iload_n eX9_link_63 rfl ?_
        obtain ⟨n14, hs13, hw⟩ := hw
        obtain ⟨hi15, hw⟩ := hw
        refine q_iald hs13 hi15 eX9_link_64 ?_
        exact q_ret rfl eX9_link_65 ⟨_, rfl, hw⟩
      · have hw := hw2 (x_toInt (by decide) hk)
        refine q_tabIn (off := 51) (tgt := 66) eX9_link_15 (by omega) (by omega) (by rw [hk]; rfl) (by decide) ?_
        refine q_aload_nr eX9_link_66 rfl ?_
        obtain ⟨hs16, hw⟩ := hw
        obtain ⟨a17, hr18, hw⟩ := hw
        refine q_getR flX9_19 rfl hs16 hr18 eX9_link_67 ?_
        obtain ⟨hs19, hw⟩ := hw
        obtain ⟨a20, hr21, hw⟩ := hw
        refine q_getR flX9_125 rfl hs19 hr21 eX9_link_70 ?_
        refine q_iload_n eX9_link_73 rfl ?_
        obtain ⟨n23, hs22, hw⟩ := hw
        obtain ⟨hi24, hw⟩ := hw
        refine q_iald hs22 hi24 eX9_link_74 ?_
        exact q_ret rfl eX9_link_75 ⟨_, rfl, hw⟩
      · have hw := hw3 (x_toInt (by decide) hk)
        refine q_tabIn (off := 61) (tgt := 76) eX9_link_15 (by omega) (by omega) (by rw [hk]; rfl) (by decide) ?_
        refine q_aload_nr eX9_link_76 rfl ?_
        obtain ⟨hs25, hw⟩ := hw
        obtain ⟨a26, hr27, hw⟩ := hw
        refine q_getR flX9_19 rfl hs25 hr27 eX9_link_77 ?_
        obtain ⟨hs28, hw⟩ := hw
        obtain ⟨a29, hr30, hw⟩ := hw
        refine q_getR flX9_128 rfl hs28 hr30 eX9_link_80 ?_
        refine q_iload_n eX9_link_83 rfl ?_
        obtain ⟨n32, hs31, hw⟩ := hw
        obtain ⟨hi33, hw⟩ := hw
        refine q_iald hs31 hi33 eX9_link_84 ?_
        exact q_ret rfl eX9_link_85 ⟨_, rfl, hw⟩
      · have hw := hw4 (x_toInt (by decide) hk)
        refine q_tabIn (off := 71) (tgt := 86) eX9_link_15 (by omega) (by omega) (by rw [hk]; rfl) (by decide) ?_
        refine q_aload_nr eX9_link_86 rfl ?_
        obtain ⟨hs34, hw⟩ := hw
        obtain ⟨a35, hr36, hw⟩ := hw
        refine q_getR flX9_19 rfl hs34 hr36 eX9_link_87 ?_
        obtain ⟨hs37, hw⟩ := hw
        obtain ⟨a38, hr39, hw⟩ := hw
        refine q_getR flX9_131 rfl hs37 hr39 eX9_link_90 ?_
        refine q_iload_n eX9_link_93 rfl ?_
        obtain ⟨n41, hs40, hw⟩ := hw
        obtain ⟨hi42, hw⟩ := hw
        refine q_iald hs40 hi42 eX9_link_94 ?_
        exact q_ret rfl eX9_link_95 ⟨_, rfl, hw⟩
      · have hw := hw5 (x_toInt (by decide) hk)
        refine q_tabIn (off := 81) (tgt := 96) eX9_link_15 (by omega) (by omega) (by rw [hk]; rfl) (by decide) ?_
        refine q_aload_nr eX9_link_96 rfl ?_
        obtain ⟨hs43, hw⟩ := hw
        obtain ⟨a44, hr45, hw⟩ := hw
        refine q_getR flX9_26 rfl hs43 hr45 eX9_link_97 ?_
        refine q_iload_n eX9_link_100 rfl ?_
        obtain ⟨hs46, hw⟩ := hw
        refine q_callV (b := 0) (t := 0) (gX6_hasFailed _ _ _ _ hw) mlX9_134 kX6_hasFailed vX6_hasFailed rfl hs46 ⟨rfl, rfl⟩ (by decide) rfl (Nat.le_of_ble_eq_true rfl) eX9_link_101 (kI fun r47 h48 hw => ?_)
        have hj50 : Wm MX9_link 2 0 0 112 [some (.ref (x0)), some (.int (x1)), some (.int (x2))] [.int ((if r47 = 0 then nI 0 else nI 1))] h48 (pI Q) := by
          exact q_ret rfl eX9_link_112 ⟨_, rfl, hw⟩
        refine q_if_eq (tgt := 111) eX9_link_104 (by decide) (fun c => ?_) (fun c => ?_)
        · refine q_iconst (v := nI 0) eX9_link_111 (by decide) ?_
          rw [if_pos c] at hj50
          exact hj50
        · refine q_iconst (v := nI 1) eX9_link_107 (by decide) ?_
          refine q_goto (tgt := 112) eX9_link_108 (by decide) ?_
          rw [if_neg c] at hj50
          exact hj50
      · have hw := hw6 (x_toInt (by decide) hk)
        refine q_tabIn (off := 98) (tgt := 113) eX9_link_15 (by omega) (by omega) (by rw [hk]; rfl) (by decide) ?_
        refine q_aload_nr eX9_link_113 rfl ?_
        obtain ⟨hs51, hw⟩ := hw
        obtain ⟨a52, hr53, hw⟩ := hw
        refine q_getR flX9_19 rfl hs51 hr53 eX9_link_114 ?_
        refine q_aload_nr eX9_link_117 rfl ?_
        obtain ⟨a54, hr55, hw⟩ := hw
        refine q_getR flX9_26 rfl hs51 hr55 eX9_link_118 ?_
        refine q_iload_n eX9_link_121 rfl ?_
        obtain ⟨hs56, hw⟩ := hw
        refine q_callV (b := 0) (t := 0) (gX4_usesLaid _ _ _ _ _ hw) mlX9_137 kX4_usesLaid vX4_usesLaid rfl hs56 ⟨rfl, rfl⟩ (by decide) rfl (Nat.le_of_ble_eq_true rfl) eX9_link_122 (kI fun r57 h58 hw => ?_)
        exact q_ret rfl eX9_link_125 ⟨_, rfl, hw⟩
      · have hw := hw7 (x_toInt (by decide) hk)
        refine q_tabIn (off := 111) (tgt := 126) eX9_link_15 (by omega) (by omega) (by rw [hk]; rfl) (by decide) ?_
        refine q_aload_nr eX9_link_126 rfl ?_
        obtain ⟨hs59, hw⟩ := hw
        obtain ⟨a60, hr61, hw⟩ := hw
        refine q_getR flX9_51 rfl hs59 hr61 eX9_link_127 ?_
        refine q_aload_nr eX9_link_130 rfl ?_
        obtain ⟨a62, hr63, hw⟩ := hw
        refine q_getR flX9_19 rfl hs59 hr63 eX9_link_131 ?_
        refine q_aload_nr eX9_link_134 rfl ?_
        obtain ⟨a64, hr65, hw⟩ := hw
        refine q_getR flX9_26 rfl hs59 hr65 eX9_link_135 ?_
        refine q_iload_n eX9_link_138 rfl ?_
        obtain ⟨hs66, hw⟩ := hw
        refine q_callV (b := 0) (t := 0) (gX7_lostOf _ _ _ _ _ _ hw) mlX9_141 kX7_lostOf vX7_lostOf rfl hs66 ⟨rfl, rfl⟩ (by decide) rfl (Nat.le_of_ble_eq_true rfl) eX9_link_139 (kI fun r67 h68 hw => ?_)
        exact q_ret rfl eX9_link_142 ⟨_, rfl, hw⟩
  · have hw := hw2 c
    refine q_bipush (v := (-2 : Int32)) eX9_link_11 (by decide) ?_
    exact q_ret rfl eX9_link_13 ⟨_, rfl, hw⟩
def wX9_ring (x0 : Nat) (x1 : Int32) (x2 : Int32) (h : MH) (Q : Int32 → MH → Prop) : Prop := hS h x0 = (1, 9) ∧ ∃ a2, hR h x0 1 = some a2 ∧ ∃ a4, hR h x0 2 = some a4 ∧ hS h a4 = (1, 6) ∧ hS h a2 = (1, 4) ∧ wX4_cycleOf a2 (hI h a4 0) x1 h (fun r8 h9 => (0 ≤ r8 → ((x2).toInt < 0 ∨ 5 < (x2).toInt → Q ((-2 : Int32)) h9) ∧ (x2 = nI 0 → hS h9 x0 = (1, 9) ∧ ∃ a11, hR h9 x0 1 = some a11 ∧ hS h9 a11 = (1, 4) ∧ ∃ a14, hR h9 a11 11 = some a14 ∧ ∃ n17, hS h9 a14 = (2, n17) ∧ vp_in (r8) n17 ∧ Q (hI h9 a14 (r8).toNatClampNeg) h9) ∧ (x2 = nI 1 → hS h9 x0 = (1, 9) ∧ ∃ a20, hR h9 x0 1 = some a20 ∧ hS h9 a20 = (1, 4) ∧ ∃ a23, hR h9 a20 12 = some a23 ∧ ∃ n26, hS h9 a23 = (2, n26) ∧ vp_in (r8) n26 ∧ Q (hI h9 a23 (r8).toNatClampNeg) h9) ∧ (x2 = nI 2 → hS h9 x0 = (1, 9) ∧ ∃ a29, hR h9 x0 1 = some a29 ∧ hS h9 a29 = (1, 4) ∧ ∃ a32, hR h9 a29 13 = some a32 ∧ ∃ n35, hS h9 a32 = (2, n35) ∧ vp_in (r8) n35 ∧ Q (hI h9 a32 (r8).toNatClampNeg) h9) ∧ (x2 = nI 3 → hS h9 x0 = (1, 9) ∧ ∃ a38, hR h9 x0 1 = some a38 ∧ ∃ a40, hR h9 x0 2 = some a40 ∧ hS h9 a40 = (1, 6) ∧ hS h9 a38 = (1, 4) ∧ wX4_priceOf a38 r8 (hI h9 a40 0) h9 (fun r44 h45 => Q (r44) h45)) ∧ (x2 = nI 4 → hS h9 x0 = (1, 9) ∧ ∃ a47, hR h9 x0 1 = some a47 ∧ hS h9 a47 = (1, 4) ∧ wX4_allUses a47 r8 h9 (fun r50 h51 => Q (r50) h51)) ∧ (x2 = nI 5 → hS h9 x0 = (1, 9) ∧ ∃ a53, hR h9 x0 2 = some a53 ∧ hS h9 a53 = (1, 6) ∧ ∃ a56, hR h9 a53 2 = some a56 ∧ ∃ n59, hS h9 a56 = (2, n59) ∧ vp_in (r8) n59 ∧ Q (hI h9 a56 (r8).toNatClampNeg) h9)) ∧ (¬ (0 ≤ r8) → Q ((-2 : Int32)) h9))
set_option maxHeartbeats 4000000 in
set_option maxRecDepth 100000 in
theorem gX9_ring (x0 : Nat) (x1 : Int32) (x2 : Int32) (h : MH) (Q : Int32 → MH → Prop) (hw : wX9_ring x0 x1 x2 h Q) : Cm MX9_ring 2 0 0 [.ref (x0), .int (x1), .int (x2)] h (pI Q) := by
  refine cm_of [some (.ref (x0)), some (.int (x1)), some (.int (x2)), none] rfl pnX9 (Nat.le_of_ble_eq_true rfl) rfl ?_
  unfold wX9_ring at hw
  refine q_aload_nr eX9_ring_0 rfl ?_
  obtain ⟨hs1, hw⟩ := hw
  obtain ⟨a2, hr3, hw⟩ := hw
  refine q_getR flX9_19 rfl hs1 hr3 eX9_ring_1 ?_
  refine q_aload_nr eX9_ring_4 rfl ?_
  obtain ⟨a4, hr5, hw⟩ := hw
  refine q_getR flX9_26 rfl hs1 hr5 eX9_ring_5 ?_
  obtain ⟨hs6, hw⟩ := hw
  refine q_getI flX9_145 rfl hs6 eX9_ring_8 ?_
  refine q_iload_n eX9_ring_11 rfl ?_
  obtain ⟨hs7, hw⟩ := hw
  refine q_callV (b := 0) (t := 0) (gX4_cycleOf _ _ _ _ _ hw) mlX9_148 kX4_cycleOf vX4_cycleOf rfl hs7 ⟨rfl, rfl⟩ (by decide) rfl (Nat.le_of_ble_eq_true rfl) eX9_ring_12 (kI fun r8 h9 hw => ?_)
  refine x_istore_n (ls' := [_, _, _, _]) eX9_ring_15 (by decide) rfl rfl ?_
  refine q_iload_n eX9_ring_16 rfl ?_
  obtain ⟨hw1, hw2⟩ := hw
  refine q_if_ge (tgt := 23) eX9_ring_17 (by decide) (fun c => ?_) (fun c => ?_)
  · have hw := hw1 c
    refine q_iload_n eX9_ring_23 rfl ?_
    obtain ⟨hw0, hw1, hw2, hw3, hw4, hw5, hw6⟩ := hw
    by_cases hx : (x2).toInt < 0 ∨ 5 < (x2).toInt
    · have hw := hw0 hx
      refine q_tabOut (tgt := 129) eX9_ring_24 hx (by decide) ?_
      refine q_bipush (v := (-2 : Int32)) eX9_ring_129 (by decide) ?_
      exact q_ret rfl eX9_ring_131 ⟨_, rfl, hw⟩
    · have hk : (x2).toInt = 0 ∨ (x2).toInt = 1 ∨ (x2).toInt = 2 ∨ (x2).toInt = 3 ∨ (x2).toInt = 4 ∨ (x2).toInt = 5 := by omega
      rcases hk with hk | hk | hk | hk | hk | hk
      · have hw := hw1 (x_toInt (by decide) hk)
        refine q_tabIn (off := 40) (tgt := 64) eX9_ring_24 (by omega) (by omega) (by rw [hk]; rfl) (by decide) ?_
        refine q_aload_nr eX9_ring_64 rfl ?_
        obtain ⟨hs10, hw⟩ := hw
        obtain ⟨a11, hr12, hw⟩ := hw
        refine q_getR flX9_19 rfl hs10 hr12 eX9_ring_65 ?_
        obtain ⟨hs13, hw⟩ := hw
        obtain ⟨a14, hr15, hw⟩ := hw
        refine q_getR flX9_152 rfl hs13 hr15 eX9_ring_68 ?_
        refine q_iload_n eX9_ring_71 rfl ?_
        obtain ⟨n17, hs16, hw⟩ := hw
        obtain ⟨hi18, hw⟩ := hw
        refine q_iald hs16 hi18 eX9_ring_72 ?_
        exact q_ret rfl eX9_ring_73 ⟨_, rfl, hw⟩
      · have hw := hw2 (x_toInt (by decide) hk)
        refine q_tabIn (off := 50) (tgt := 74) eX9_ring_24 (by omega) (by omega) (by rw [hk]; rfl) (by decide) ?_
        refine q_aload_nr eX9_ring_74 rfl ?_
        obtain ⟨hs19, hw⟩ := hw
        obtain ⟨a20, hr21, hw⟩ := hw
        refine q_getR flX9_19 rfl hs19 hr21 eX9_ring_75 ?_
        obtain ⟨hs22, hw⟩ := hw
        obtain ⟨a23, hr24, hw⟩ := hw
        refine q_getR flX9_155 rfl hs22 hr24 eX9_ring_78 ?_
        refine q_iload_n eX9_ring_81 rfl ?_
        obtain ⟨n26, hs25, hw⟩ := hw
        obtain ⟨hi27, hw⟩ := hw
        refine q_iald hs25 hi27 eX9_ring_82 ?_
        exact q_ret rfl eX9_ring_83 ⟨_, rfl, hw⟩
      · have hw := hw3 (x_toInt (by decide) hk)
        refine q_tabIn (off := 60) (tgt := 84) eX9_ring_24 (by omega) (by omega) (by rw [hk]; rfl) (by decide) ?_
        refine q_aload_nr eX9_ring_84 rfl ?_
        obtain ⟨hs28, hw⟩ := hw
        obtain ⟨a29, hr30, hw⟩ := hw
        refine q_getR flX9_19 rfl hs28 hr30 eX9_ring_85 ?_
        obtain ⟨hs31, hw⟩ := hw
        obtain ⟨a32, hr33, hw⟩ := hw
        refine q_getR flX9_158 rfl hs31 hr33 eX9_ring_88 ?_
        refine q_iload_n eX9_ring_91 rfl ?_
        obtain ⟨n35, hs34, hw⟩ := hw
        obtain ⟨hi36, hw⟩ := hw
        refine q_iald hs34 hi36 eX9_ring_92 ?_
        exact q_ret rfl eX9_ring_93 ⟨_, rfl, hw⟩
      · have hw := hw4 (x_toInt (by decide) hk)
        refine q_tabIn (off := 70) (tgt := 94) eX9_ring_24 (by omega) (by omega) (by rw [hk]; rfl) (by decide) ?_
        refine q_aload_nr eX9_ring_94 rfl ?_
        obtain ⟨hs37, hw⟩ := hw
        obtain ⟨a38, hr39, hw⟩ := hw
        refine q_getR flX9_19 rfl hs37 hr39 eX9_ring_95 ?_
        refine q_iload_n eX9_ring_98 rfl ?_
        refine q_aload_nr eX9_ring_99 rfl ?_
        obtain ⟨a40, hr41, hw⟩ := hw
        refine q_getR flX9_26 rfl hs37 hr41 eX9_ring_100 ?_
        obtain ⟨hs42, hw⟩ := hw
        refine q_getI flX9_145 rfl hs42 eX9_ring_103 ?_
        obtain ⟨hs43, hw⟩ := hw
        refine q_callV (b := 0) (t := 0) (gX4_priceOf _ _ _ _ _ hw) mlX9_161 kX4_priceOf vX4_priceOf rfl hs43 ⟨rfl, rfl⟩ (by decide) rfl (Nat.le_of_ble_eq_true rfl) eX9_ring_106 (kI fun r44 h45 hw => ?_)
        exact q_ret rfl eX9_ring_109 ⟨_, rfl, hw⟩
      · have hw := hw5 (x_toInt (by decide) hk)
        refine q_tabIn (off := 86) (tgt := 110) eX9_ring_24 (by omega) (by omega) (by rw [hk]; rfl) (by decide) ?_
        refine q_aload_nr eX9_ring_110 rfl ?_
        obtain ⟨hs46, hw⟩ := hw
        obtain ⟨a47, hr48, hw⟩ := hw
        refine q_getR flX9_19 rfl hs46 hr48 eX9_ring_111 ?_
        refine q_iload_n eX9_ring_114 rfl ?_
        obtain ⟨hs49, hw⟩ := hw
        refine q_callV (b := 0) (t := 0) (gX4_allUses _ _ _ _ hw) mlX9_164 kX4_allUses vX4_allUses rfl hs49 ⟨rfl, rfl⟩ (by decide) rfl (Nat.le_of_ble_eq_true rfl) eX9_ring_115 (kI fun r50 h51 hw => ?_)
        exact q_ret rfl eX9_ring_118 ⟨_, rfl, hw⟩
      · have hw := hw6 (x_toInt (by decide) hk)
        refine q_tabIn (off := 95) (tgt := 119) eX9_ring_24 (by omega) (by omega) (by rw [hk]; rfl) (by decide) ?_
        refine q_aload_nr eX9_ring_119 rfl ?_
        obtain ⟨hs52, hw⟩ := hw
        obtain ⟨a53, hr54, hw⟩ := hw
        refine q_getR flX9_26 rfl hs52 hr54 eX9_ring_120 ?_
        obtain ⟨hs55, hw⟩ := hw
        obtain ⟨a56, hr57, hw⟩ := hw
        refine q_getR flX9_168 rfl hs55 hr57 eX9_ring_123 ?_
        refine q_iload_n eX9_ring_126 rfl ?_
        obtain ⟨n59, hs58, hw⟩ := hw
        obtain ⟨hi60, hw⟩ := hw
        refine q_iald hs58 hi60 eX9_ring_127 ?_
        exact q_ret rfl eX9_ring_128 ⟨_, rfl, hw⟩
  · have hw := hw2 c
    refine q_bipush (v := (-2 : Int32)) eX9_ring_20 (by decide) ?_
    exact q_ret rfl eX9_ring_22 ⟨_, rfl, hw⟩
def wX9_ringOf_17 (Q : Int32 → MH → Prop) : Nat → Nat → Int32 → Int32 → Int32 → MH → Prop
  | 0, _, _, _, _, _ => False
  | n + 1, x0, x1, x2, x3, h => (x2 ≤ x3 → Q ((-1 : Int32)) h) ∧ (¬ (x2 ≤ x3) → hS h x0 = (1, 9) ∧ ∃ a11, hR h x0 1 = some a11 ∧ ∃ a13, hR h x0 2 = some a13 ∧ hS h a13 = (1, 6) ∧ hS h a11 = (1, 4) ∧ wX4_cycleOf a11 (hI h a13 0) x3 h (fun r17 h18 => (r17 < 0 → wX9_ringOf_17 Q n x0 x1 x2 (x3 + nI 1) h18) ∧ (¬ (r17 < 0) → hS h18 x0 = (1, 9) ∧ ∃ a20, hR h18 x0 1 = some a20 ∧ hS h18 a20 = (1, 4) ∧ ∃ a23, hR h18 a20 11 = some a23 ∧ ∃ n26, hS h18 a23 = (2, n26) ∧ vp_in (r17) n26 ∧ (¬ (hI h18 a23 (r17).toNatClampNeg = x1) → wX9_ringOf_17 Q n x0 x1 x2 (x3 + nI 1) h18) ∧ (hI h18 a23 (r17).toNatClampNeg = x1 → Q (x3) h18))))
set_option maxHeartbeats 4000000 in
set_option maxRecDepth 100000 in
theorem tX9_ringOf_17 {Q : Int32 → MH → Prop} : ∀ (n : Nat) (h : MH) (x0 : Nat) (x1 : Int32) (x2 : Int32) (x3 : Int32), wX9_ringOf_17 Q n x0 x1 x2 x3 h → Wm MX9_ringOf 2 0 0 17 [some (.ref (x0)), some (.int (x1)), some (.int (x2)), some (.int (x3)), none] [] h (pI Q) := by
  intro n
  induction n with
  | zero => intro h x0 x1 x2 x3 hw; exact hw.elim
  | succ n ih =>
    intro h x0 x1 x2 x3 hw
    unfold wX9_ringOf_17 at hw
    refine q_iload_n eX9_ringOf_17 rfl ?_
    refine q_iload_n eX9_ringOf_18 rfl ?_
    obtain ⟨hw1, hw2⟩ := hw
    refine q_icmp_ge (tgt := 66) eX9_ringOf_19 (by decide) (fun c => ?_) (fun c => ?_)
    · have hw := hw1 c
      refine q_iconst (v := (-1 : Int32)) eX9_ringOf_66 (by decide) ?_
      exact q_ret rfl eX9_ringOf_67 ⟨_, rfl, hw⟩
    · have hw := hw2 c
      refine q_aload_nr eX9_ringOf_22 rfl ?_
      obtain ⟨hs10, hw⟩ := hw
      obtain ⟨a11, hr12, hw⟩ := hw
      refine q_getR flX9_19 rfl hs10 hr12 eX9_ringOf_23 ?_
      refine q_aload_nr eX9_ringOf_26 rfl ?_
      obtain ⟨a13, hr14, hw⟩ := hw
      refine q_getR flX9_26 rfl hs10 hr14 eX9_ringOf_27 ?_
      obtain ⟨hs15, hw⟩ := hw
      refine q_getI flX9_145 rfl hs15 eX9_ringOf_30 ?_
      refine q_iload_n eX9_ringOf_33 rfl ?_
      obtain ⟨hs16, hw⟩ := hw
      refine q_callV (b := 0) (t := 0) (gX4_cycleOf _ _ _ _ _ hw) mlX9_148 kX4_cycleOf vX4_cycleOf rfl hs16 ⟨rfl, rfl⟩ (by decide) rfl (Nat.le_of_ble_eq_true rfl) eX9_ringOf_34 (kI fun r17 h18 hw => ?_)
      refine x_istore (ls' := [_, _, _, _, _]) eX9_ringOf_37 (by decide) rfl rfl ?_
      refine q_iload eX9_ringOf_39 rfl ?_
      obtain ⟨hw1, hw2⟩ := hw
      refine q_if_lt (tgt := 60) eX9_ringOf_41 (by decide) (fun c => ?_) (fun c => ?_)
      · have hw := hw1 c
        refine x_iinc (v := (x3 + nI 1)) (ls' := [_, _, _, _, _]) eX9_ringOf_60 rfl rfl rfl rfl ?_
        refine q_goto (tgt := 17) eX9_ringOf_63 (by decide) ?_
        refine q_le (ls' := [some _, some _, some _, some _, none]) ⟨rfl, rfl, rfl, rfl, trivial⟩ ?_
        exact ih _ _ _ _ _ hw
      · have hw := hw2 c
        refine q_aload_nr eX9_ringOf_44 rfl ?_
        obtain ⟨hs19, hw⟩ := hw
        obtain ⟨a20, hr21, hw⟩ := hw
        refine q_getR flX9_19 rfl hs19 hr21 eX9_ringOf_45 ?_
        obtain ⟨hs22, hw⟩ := hw
        obtain ⟨a23, hr24, hw⟩ := hw
        refine q_getR flX9_152 rfl hs22 hr24 eX9_ringOf_48 ?_
        refine q_iload eX9_ringOf_51 rfl ?_
        obtain ⟨n26, hs25, hw⟩ := hw
        obtain ⟨hi27, hw⟩ := hw
        refine q_iald hs25 hi27 eX9_ringOf_53 ?_
        refine q_iload_n eX9_ringOf_54 rfl ?_
        obtain ⟨hw1, hw2⟩ := hw
        refine q_icmp_ne (tgt := 60) eX9_ringOf_55 (by decide) (fun c => ?_) (fun c => ?_)
        · have hw := hw1 c
          refine x_iinc (v := (x3 + nI 1)) (ls' := [_, _, _, _, _]) eX9_ringOf_60 rfl rfl rfl rfl ?_
          refine q_goto (tgt := 17) eX9_ringOf_63 (by decide) ?_
          refine q_le (ls' := [some _, some _, some _, some _, none]) ⟨rfl, rfl, rfl, rfl, trivial⟩ ?_
          exact ih _ _ _ _ _ hw
        · have hw := hw2 c
          refine q_iload_n eX9_ringOf_58 rfl ?_
          exact q_ret rfl eX9_ringOf_59 ⟨_, rfl, hw⟩
def wX9_ringOf (x0 : Nat) (x1 : Int32) (h : MH) (Q : Int32 → MH → Prop) : Prop := hS h x0 = (1, 9) ∧ ∃ a2, hR h x0 1 = some a2 ∧ ∃ a4, hR h x0 2 = some a4 ∧ hS h a4 = (1, 6) ∧ hS h a2 = (1, 4) ∧ wX4_ringCount a2 (hI h a4 0) h (fun r8 h9 => ∃ m28, wX9_ringOf_17 Q m28 x0 x1 r8 (nI 0) h9)
set_option maxHeartbeats 4000000 in
set_option maxRecDepth 100000 in
theorem gX9_ringOf (x0 : Nat) (x1 : Int32) (h : MH) (Q : Int32 → MH → Prop) (hw : wX9_ringOf x0 x1 h Q) : Cm MX9_ringOf 2 0 0 [.ref (x0), .int (x1)] h (pI Q) := by
  refine cm_of [some (.ref (x0)), some (.int (x1)), none, none, none] rfl pnX9 (Nat.le_of_ble_eq_true rfl) rfl ?_
  unfold wX9_ringOf at hw
  refine q_aload_nr eX9_ringOf_0 rfl ?_
  obtain ⟨hs1, hw⟩ := hw
  obtain ⟨a2, hr3, hw⟩ := hw
  refine q_getR flX9_19 rfl hs1 hr3 eX9_ringOf_1 ?_
  refine q_aload_nr eX9_ringOf_4 rfl ?_
  obtain ⟨a4, hr5, hw⟩ := hw
  refine q_getR flX9_26 rfl hs1 hr5 eX9_ringOf_5 ?_
  obtain ⟨hs6, hw⟩ := hw
  refine q_getI flX9_145 rfl hs6 eX9_ringOf_8 ?_
  obtain ⟨hs7, hw⟩ := hw
  refine q_callV (b := 0) (t := 0) (gX4_ringCount _ _ _ _ hw) mlX9_171 kX4_ringCount vX4_ringCount rfl hs7 ⟨rfl, rfl⟩ (by decide) rfl (Nat.le_of_ble_eq_true rfl) eX9_ringOf_11 (kI fun r8 h9 hw => ?_)
  refine x_istore_n (ls' := [_, _, _, _, _]) eX9_ringOf_14 (by decide) rfl rfl ?_
  refine q_iconst (v := nI 0) eX9_ringOf_15 (by decide) ?_
  refine x_istore_n (ls' := [_, _, _, _, _]) eX9_ringOf_16 (by decide) rfl rfl ?_
  refine q_le (ls' := [some _, some _, some _, some _, none]) ⟨rfl, rfl, rfl, rfl, trivial⟩ ?_
  obtain ⟨m28, hw⟩ := hw
  exact tX9_ringOf_17 m28 _ _ _ _ _ hw
def wX9_use (x0 : Nat) (x1 : Int32) (x2 : Int32) (h : MH) (Q : Int32 → MH → Prop) : Prop := hS h x0 = (1, 9) ∧ ∃ a2, hR h x0 1 = some a2 ∧ ∃ a4, hR h x0 2 = some a4 ∧ hS h a4 = (1, 6) ∧ hS h a2 = (1, 4) ∧ wX4_cycleOf a2 (hI h a4 0) x1 h (fun r8 h9 => (r8 < 0 → Q ((-2 : Int32)) h9) ∧ (¬ (r8 < 0) → hS h9 x0 = (1, 9) ∧ ∃ a11, hR h9 x0 1 = some a11 ∧ hS h9 a11 = (1, 4) ∧ wX4_hasLink a11 x2 h9 (fun r14 h15 => (¬ (r14 = 0) → hS h15 x0 = (1, 9) ∧ ∃ a17, hR h15 x0 1 = some a17 ∧ hS h15 a17 = (1, 4) ∧ wX4_useOf a17 r8 x2 h15 (fun r20 h21 => Q (r20) h21)) ∧ (r14 = 0 → Q ((-2 : Int32)) h15))))
set_option maxHeartbeats 4000000 in
set_option maxRecDepth 100000 in
theorem gX9_use (x0 : Nat) (x1 : Int32) (x2 : Int32) (h : MH) (Q : Int32 → MH → Prop) (hw : wX9_use x0 x1 x2 h Q) : Cm MX9_use 1 0 0 [.ref (x0), .int (x1), .int (x2)] h (pI Q) := by
  refine cm_of [some (.ref (x0)), some (.int (x1)), some (.int (x2)), none] rfl pnX9 (Nat.le_of_ble_eq_true rfl) rfl ?_
  unfold wX9_use at hw
  refine q_aload_nr eX9_use_0 rfl ?_
  obtain ⟨hs1, hw⟩ := hw
  obtain ⟨a2, hr3, hw⟩ := hw
  refine q_getR flX9_19 rfl hs1 hr3 eX9_use_1 ?_
  refine q_aload_nr eX9_use_4 rfl ?_
  obtain ⟨a4, hr5, hw⟩ := hw
  refine q_getR flX9_26 rfl hs1 hr5 eX9_use_5 ?_
  obtain ⟨hs6, hw⟩ := hw
  refine q_getI flX9_145 rfl hs6 eX9_use_8 ?_
  refine q_iload_n eX9_use_11 rfl ?_
  obtain ⟨hs7, hw⟩ := hw
  refine q_callV (b := 0) (t := 0) (gX4_cycleOf _ _ _ _ _ hw) mlX9_148 kX4_cycleOf vX4_cycleOf rfl hs7 ⟨rfl, rfl⟩ (by decide) rfl (Nat.le_of_ble_eq_true rfl) eX9_use_12 (kI fun r8 h9 hw => ?_)
  refine x_istore_n (ls' := [_, _, _, _]) eX9_use_15 (by decide) rfl rfl ?_
  refine q_iload_n eX9_use_16 rfl ?_
  obtain ⟨hw1, hw2⟩ := hw
  refine q_if_lt (tgt := 31) eX9_use_17 (by decide) (fun c => ?_) (fun c => ?_)
  · have hw := hw1 c
    refine q_bipush (v := (-2 : Int32)) eX9_use_31 (by decide) ?_
    exact q_ret rfl eX9_use_33 ⟨_, rfl, hw⟩
  · have hw := hw2 c
    refine q_aload_nr eX9_use_20 rfl ?_
    obtain ⟨hs10, hw⟩ := hw
    obtain ⟨a11, hr12, hw⟩ := hw
    refine q_getR flX9_19 rfl hs10 hr12 eX9_use_21 ?_
    refine q_iload_n eX9_use_24 rfl ?_
    obtain ⟨hs13, hw⟩ := hw
    refine q_callV (b := 0) (t := 0) (gX4_hasLink _ _ _ _ hw) mlX9_117 kX4_hasLink vX4_hasLink rfl hs13 ⟨rfl, rfl⟩ (by decide) rfl (Nat.le_of_ble_eq_true rfl) eX9_use_25 (kI fun r14 h15 hw => ?_)
    obtain ⟨hw1, hw2⟩ := hw
    refine q_if_ne (tgt := 34) eX9_use_28 (by decide) (fun c => ?_) (fun c => ?_)
    · have hw := hw1 c
      refine q_aload_nr eX9_use_34 rfl ?_
      obtain ⟨hs16, hw⟩ := hw
      obtain ⟨a17, hr18, hw⟩ := hw
      refine q_getR flX9_19 rfl hs16 hr18 eX9_use_35 ?_
      refine q_iload_n eX9_use_38 rfl ?_
      refine q_iload_n eX9_use_39 rfl ?_
      obtain ⟨hs19, hw⟩ := hw
      refine q_callV (b := 0) (t := 0) (gX4_useOf _ _ _ _ _ hw) mlX9_174 kX4_useOf vX4_useOf rfl hs19 ⟨rfl, rfl⟩ (by decide) rfl (Nat.le_of_ble_eq_true rfl) eX9_use_40 (kI fun r20 h21 hw => ?_)
      exact q_ret rfl eX9_use_43 ⟨_, rfl, hw⟩
    · have hw := hw2 c
      refine q_bipush (v := (-2 : Int32)) eX9_use_31 (by decide) ?_
      exact q_ret rfl eX9_use_33 ⟨_, rfl, hw⟩
def wX9_path_63 (Q : Int32 → MH → Prop) (s0 : Int32) (h : MH) : Prop := Q ((if s0 = 0 then (-1 : Int32) else s0)) h
set_option maxHeartbeats 4000000 in
set_option maxRecDepth 100000 in
theorem tX9_path_63 {Q : Int32 → MH → Prop} (h : MH) (s0 : Int32) (hw : wX9_path_63 Q s0 h) : Wm MX9_path 1 0 0 63 [none, none, none, none, none, none] [.int (s0)] h (pI Q) := by
  unfold wX9_path_63 at hw
  refine x_istore (ls' := [_, _, _, _, _, _]) eX9_path_63 (by decide) rfl rfl ?_
  refine q_iload eX9_path_65 rfl ?_
  have hj23 : Wm MX9_path 1 0 0 76 [none, none, none, none, none, some (.int (s0))] [.int ((if s0 = 0 then (-1 : Int32) else s0))] h (pI Q) := by
    exact q_ret rfl eX9_path_76 ⟨_, rfl, hw⟩
  refine q_if_ne (tgt := 74) eX9_path_67 (by decide) (fun c => ?_) (fun c => ?_)
  · refine q_iload eX9_path_74 rfl ?_
    rw [if_neg c] at hj23
    exact hj23
  · refine q_iconst (v := (-1 : Int32)) eX9_path_70 (by decide) ?_
    refine q_goto (tgt := 76) eX9_path_71 (by decide) ?_
    rw [if_pos c] at hj23
    exact hj23
def wX9_path (x0 : Nat) (x1 : Int32) (x2 : Int32) (x3 : Int32) (h : MH) (Q : Int32 → MH → Prop) : Prop := hS h x0 = (1, 9) ∧ ∃ a2, hR h x0 1 = some a2 ∧ ∃ a4, hR h x0 2 = some a4 ∧ hS h a4 = (1, 6) ∧ hS h a2 = (1, 4) ∧ wX4_cycleOf a2 (hI h a4 0) x1 h (fun r8 h9 => (r8 < 0 → Q ((-2 : Int32)) h9) ∧ (¬ (r8 < 0) → hS h9 x0 = (1, 9) ∧ ∃ a11, hR h9 x0 1 = some a11 ∧ hS h9 a11 = (1, 4) ∧ wX4_hasLink a11 x2 h9 (fun r14 h15 => (¬ (r14 = 0) → (0 ≤ x3 → (x3 ≤ nI 1 → hS h15 x0 = (1, 9) ∧ ∃ a17, hR h15 x0 1 = some a17 ∧ hS h15 a17 = (1, 4) ∧ wX4_pathOf a17 r8 x2 x3 h15 (fun r20 h21 => wX9_path_63 Q r20 h21)) ∧ (¬ (x3 ≤ nI 1) → wX9_path_63 Q (nI 0) h15)) ∧ (¬ (0 ≤ x3) → Q ((-3 : Int32)) h15)) ∧ (r14 = 0 → Q ((-2 : Int32)) h15))))
set_option maxHeartbeats 4000000 in
set_option maxRecDepth 100000 in
theorem gX9_path (x0 : Nat) (x1 : Int32) (x2 : Int32) (x3 : Int32) (h : MH) (Q : Int32 → MH → Prop) (hw : wX9_path x0 x1 x2 x3 h Q) : Cm MX9_path 1 0 0 [.ref (x0), .int (x1), .int (x2), .int (x3)] h (pI Q) := by
  refine cm_of [some (.ref (x0)), some (.int (x1)), some (.int (x2)), some (.int (x3)), none, none] rfl pnX9 (Nat.le_of_ble_eq_true rfl) rfl ?_
  unfold wX9_path at hw
  refine q_aload_nr eX9_path_0 rfl ?_
  obtain ⟨hs1, hw⟩ := hw
  obtain ⟨a2, hr3, hw⟩ := hw
  refine q_getR flX9_19 rfl hs1 hr3 eX9_path_1 ?_
  refine q_aload_nr eX9_path_4 rfl ?_
  obtain ⟨a4, hr5, hw⟩ := hw
  refine q_getR flX9_26 rfl hs1 hr5 eX9_path_5 ?_
  obtain ⟨hs6, hw⟩ := hw
  refine q_getI flX9_145 rfl hs6 eX9_path_8 ?_
  refine q_iload_n eX9_path_11 rfl ?_
  obtain ⟨hs7, hw⟩ := hw
  refine q_callV (b := 0) (t := 0) (gX4_cycleOf _ _ _ _ _ hw) mlX9_148 kX4_cycleOf vX4_cycleOf rfl hs7 ⟨rfl, rfl⟩ (by decide) rfl (Nat.le_of_ble_eq_true rfl) eX9_path_12 (kI fun r8 h9 hw => ?_)
  refine x_istore (ls' := [_, _, _, _, _, _]) eX9_path_15 (by decide) rfl rfl ?_
  refine q_iload eX9_path_17 rfl ?_
  obtain ⟨hw1, hw2⟩ := hw
  refine q_if_lt (tgt := 33) eX9_path_19 (by decide) (fun c => ?_) (fun c => ?_)
  · have hw := hw1 c
    refine q_bipush (v := (-2 : Int32)) eX9_path_33 (by decide) ?_
    exact q_ret rfl eX9_path_35 ⟨_, rfl, hw⟩
  · have hw := hw2 c
    refine q_aload_nr eX9_path_22 rfl ?_
    obtain ⟨hs10, hw⟩ := hw
    obtain ⟨a11, hr12, hw⟩ := hw
    refine q_getR flX9_19 rfl hs10 hr12 eX9_path_23 ?_
    refine q_iload_n eX9_path_26 rfl ?_
    obtain ⟨hs13, hw⟩ := hw
    refine q_callV (b := 0) (t := 0) (gX4_hasLink _ _ _ _ hw) mlX9_117 kX4_hasLink vX4_hasLink rfl hs13 ⟨rfl, rfl⟩ (by decide) rfl (Nat.le_of_ble_eq_true rfl) eX9_path_27 (kI fun r14 h15 hw => ?_)
    obtain ⟨hw1, hw2⟩ := hw
    refine q_if_ne (tgt := 36) eX9_path_30 (by decide) (fun c => ?_) (fun c => ?_)
    · have hw := hw1 c
      refine q_iload_n eX9_path_36 rfl ?_
      obtain ⟨hw1, hw2⟩ := hw
      refine q_if_ge (tgt := 43) eX9_path_37 (by decide) (fun c => ?_) (fun c => ?_)
      · have hw := hw1 c
        refine q_iload_n eX9_path_43 rfl ?_
        refine q_iconst (v := nI 1) eX9_path_44 (by decide) ?_
        obtain ⟨hw1, hw2⟩ := hw
        refine q_icmp_le (tgt := 52) eX9_path_45 (by decide) (fun c => ?_) (fun c => ?_)
        · have hw := hw1 c
          refine q_aload_nr eX9_path_52 rfl ?_
          obtain ⟨hs16, hw⟩ := hw
          obtain ⟨a17, hr18, hw⟩ := hw
          refine q_getR flX9_19 rfl hs16 hr18 eX9_path_53 ?_
          refine q_iload eX9_path_56 rfl ?_
          refine q_iload_n eX9_path_58 rfl ?_
          refine q_iload_n eX9_path_59 rfl ?_
          obtain ⟨hs19, hw⟩ := hw
          refine q_callV (b := 0) (t := 0) (gX4_pathOf _ _ _ _ _ _ hw) mlX9_177 kX4_pathOf vX4_pathOf rfl hs19 ⟨rfl, rfl⟩ (by decide) rfl (Nat.le_of_ble_eq_true rfl) eX9_path_60 (kI fun r20 h21 hw => ?_)
          refine q_le (ls' := [none, none, none, none, none, none]) trivial ?_
          exact tX9_path_63 _ _ hw
        · have hw := hw2 c
          refine q_iconst (v := nI 0) eX9_path_48 (by decide) ?_
          refine q_goto (tgt := 63) eX9_path_49 (by decide) ?_
          refine q_le (ls' := [none, none, none, none, none, none]) trivial ?_
          exact tX9_path_63 _ _ hw
      · have hw := hw2 c
        refine q_bipush (v := (-3 : Int32)) eX9_path_40 (by decide) ?_
        exact q_ret rfl eX9_path_42 ⟨_, rfl, hw⟩
    · have hw := hw2 c
      refine q_bipush (v := (-2 : Int32)) eX9_path_33 (by decide) ?_
      exact q_ret rfl eX9_path_35 ⟨_, rfl, hw⟩
def wX9_copiesOf (x0 : Nat) (x1 : Int32) (h : MH) (Q : Int32 → MH → Prop) : Prop := hS h x0 = (1, 9) ∧ ∃ a2, hR h x0 1 = some a2 ∧ ∃ a4, hR h x0 2 = some a4 ∧ hS h a4 = (1, 6) ∧ hS h a2 = (1, 4) ∧ wX4_cycleOf a2 (hI h a4 0) x1 h (fun r8 h9 => (0 ≤ r8 → hS h9 x0 = (1, 9) ∧ ∃ a11, hR h9 x0 2 = some a11 ∧ hS h9 a11 = (1, 6) ∧ ∃ a14, hR h9 a11 2 = some a14 ∧ ∃ n17, hS h9 a14 = (2, n17) ∧ vp_in (r8) n17 ∧ Q (hI h9 a14 (r8).toNatClampNeg) h9) ∧ (¬ (0 ≤ r8) → Q (nI 0) h9))
set_option maxHeartbeats 4000000 in
set_option maxRecDepth 100000 in
theorem gX9_copiesOf (x0 : Nat) (x1 : Int32) (h : MH) (Q : Int32 → MH → Prop) (hw : wX9_copiesOf x0 x1 h Q) : Cm MX9_copiesOf 1 0 0 [.ref (x0), .int (x1)] h (pI Q) := by
  refine cm_of [some (.ref (x0)), some (.int (x1)), none] rfl pnX9 (Nat.le_of_ble_eq_true rfl) rfl ?_
  unfold wX9_copiesOf at hw
  refine q_aload_nr eX9_copiesOf_0 rfl ?_
  obtain ⟨hs1, hw⟩ := hw
  obtain ⟨a2, hr3, hw⟩ := hw
  refine q_getR flX9_19 rfl hs1 hr3 eX9_copiesOf_1 ?_
  refine q_aload_nr eX9_copiesOf_4 rfl ?_
  obtain ⟨a4, hr5, hw⟩ := hw
  refine q_getR flX9_26 rfl hs1 hr5 eX9_copiesOf_5 ?_
  obtain ⟨hs6, hw⟩ := hw
  refine q_getI flX9_145 rfl hs6 eX9_copiesOf_8 ?_
  refine q_iload_n eX9_copiesOf_11 rfl ?_
  obtain ⟨hs7, hw⟩ := hw
  refine q_callV (b := 0) (t := 0) (gX4_cycleOf _ _ _ _ _ hw) mlX9_148 kX4_cycleOf vX4_cycleOf rfl hs7 ⟨rfl, rfl⟩ (by decide) rfl (Nat.le_of_ble_eq_true rfl) eX9_copiesOf_12 (kI fun r8 h9 hw => ?_)
  refine x_istore_n (ls' := [_, _, _]) eX9_copiesOf_15 (by decide) rfl rfl ?_
  refine q_iload_n eX9_copiesOf_16 rfl ?_
  obtain ⟨hw1, hw2⟩ := hw
  refine q_if_ge (tgt := 24) eX9_copiesOf_17 (by decide) (fun c => ?_) (fun c => ?_)
  · have hw := hw1 c
    refine q_aload_nr eX9_copiesOf_24 rfl ?_
    obtain ⟨hs10, hw⟩ := hw
    obtain ⟨a11, hr12, hw⟩ := hw
    refine q_getR flX9_26 rfl hs10 hr12 eX9_copiesOf_25 ?_
    obtain ⟨hs13, hw⟩ := hw
    obtain ⟨a14, hr15, hw⟩ := hw
    refine q_getR flX9_168 rfl hs13 hr15 eX9_copiesOf_28 ?_
    refine q_iload_n eX9_copiesOf_31 rfl ?_
    obtain ⟨n17, hs16, hw⟩ := hw
    obtain ⟨hi18, hw⟩ := hw
    refine q_iald hs16 hi18 eX9_copiesOf_32 ?_
    exact q_ret rfl eX9_copiesOf_33 ⟨_, rfl, hw⟩
  · have hw := hw2 c
    refine q_iconst (v := nI 0) eX9_copiesOf_20 (by decide) ?_
    refine q_goto (tgt := 33) eX9_copiesOf_21 (by decide) ?_
    exact q_ret rfl eX9_copiesOf_33 ⟨_, rfl, hw⟩
def wX9_ended (x0 : Nat) (x1 : Int32) (x2 : Int32) (h : MH) (Q : Int32 → MH → Prop) : Prop := (x1 = 0 → hS h x0 = (1, 9) ∧ ∃ a2, hR h x0 5 = some a2 ∧ ∃ a4, hR h x0 3 = some a4 ∧ hS h a2 = (1, 2) ∧ wX2_keep a2 a4 h (fun h8 => Q (x2) h8)) ∧ (¬ (x1 = 0) → Q (((-10 : Int32) - x1)) h)
set_option maxHeartbeats 4000000 in
set_option maxRecDepth 100000 in
theorem gX9_ended (x0 : Nat) (x1 : Int32) (x2 : Int32) (h : MH) (Q : Int32 → MH → Prop) (hw : wX9_ended x0 x1 x2 h Q) : Cm MX9_ended 3 0 0 [.ref (x0), .int (x1), .int (x2)] h (pI Q) := by
  refine cm_of [some (.ref (x0)), some (.int (x1)), some (.int (x2))] rfl pnX9 (Nat.le_of_ble_eq_true rfl) rfl ?_
  unfold wX9_ended at hw
  refine q_iload_n eX9_ended_0 rfl ?_
  obtain ⟨hw1, hw2⟩ := hw
  refine q_if_eq (tgt := 9) eX9_ended_1 (by decide) (fun c => ?_) (fun c => ?_)
  · have hw := hw1 c
    refine q_aload_nr eX9_ended_9 rfl ?_
    obtain ⟨hs1, hw⟩ := hw
    obtain ⟨a2, hr3, hw⟩ := hw
    refine q_getR flX9_44 rfl hs1 hr3 eX9_ended_10 ?_
    refine q_aload_nr eX9_ended_13 rfl ?_
    obtain ⟨a4, hr5, hw⟩ := hw
    refine q_getR flX9_30 rfl hs1 hr5 eX9_ended_14 ?_
    obtain ⟨hs6, hw⟩ := hw
    refine q_callV (b := 0) (t := 0) (gX2_keep _ _ _ _ hw) mlX9_210 kX2_keep vX2_keep rfl hs6 ⟨rfl, rfl⟩ (by decide) rfl (Nat.le_of_ble_eq_true rfl) eX9_ended_17 (kV fun h8 hw => ?_)
    refine q_iload_n eX9_ended_20 rfl ?_
    exact q_ret rfl eX9_ended_21 ⟨_, rfl, hw⟩
  · have hw := hw2 c
    refine q_bipush (v := (-10 : Int32)) eX9_ended_4 (by decide) ?_
    refine q_iload_n eX9_ended_6 rfl ?_
    refine q_isub eX9_ended_7 ?_
    exact q_ret rfl eX9_ended_8 ⟨_, rfl, hw⟩
def wX9_lay (x0 : Nat) (x1 : Int32) (h : MH) (Q : Int32 → MH → Prop) : Prop := hS h x0 = (1, 9) ∧ ∃ a2, hR h x0 3 = some a2 ∧ ∃ a4, hR h x0 2 = some a4 ∧ hS h a2 = (1, 6) ∧ wX6_copyFrom a2 a4 h (fun h8 => hS h8 x0 = (1, 9) ∧ ∃ a10, hR h8 x0 6 = some a10 ∧ ∃ a12, hR h8 x0 1 = some a12 ∧ ∃ a14, hR h8 x0 2 = some a14 ∧ hS h8 a10 = (1, 7) ∧ wX7_layCopy a10 a12 a14 x1 h8 (fun r17 h18 => hS h18 x0 = (1, 9) ∧ wX9_copiesOf x0 x1 h18 (fun r20 h21 => hS h21 x0 = (1, 9) ∧ wX9_ended x0 r17 r20 h21 (fun r23 h24 => Q (r23) h24))))
set_option maxHeartbeats 4000000 in
set_option maxRecDepth 100000 in
theorem gX9_lay (x0 : Nat) (x1 : Int32) (h : MH) (Q : Int32 → MH → Prop) (hw : wX9_lay x0 x1 h Q) : Cm MX9_lay 4 0 0 [.ref (x0), .int (x1)] h (pI Q) := by
  refine cm_of [some (.ref (x0)), some (.int (x1)), none] rfl pnX9 (Nat.le_of_ble_eq_true rfl) rfl ?_
  unfold wX9_lay at hw
  refine q_aload_nr eX9_lay_0 rfl ?_
  obtain ⟨hs1, hw⟩ := hw
  obtain ⟨a2, hr3, hw⟩ := hw
  refine q_getR flX9_30 rfl hs1 hr3 eX9_lay_1 ?_
  refine q_aload_nr eX9_lay_4 rfl ?_
  obtain ⟨a4, hr5, hw⟩ := hw
  refine q_getR flX9_26 rfl hs1 hr5 eX9_lay_5 ?_
  obtain ⟨hs6, hw⟩ := hw
  refine q_callV (b := 0) (t := 0) (gX6_copyFrom _ _ _ _ hw) mlX9_181 kX6_copyFrom vX6_copyFrom rfl hs6 ⟨rfl, rfl⟩ (by decide) rfl (Nat.le_of_ble_eq_true rfl) eX9_lay_8 (kV fun h8 hw => ?_)
  refine q_aload_nr eX9_lay_11 rfl ?_
  obtain ⟨hs9, hw⟩ := hw
  obtain ⟨a10, hr11, hw⟩ := hw
  refine q_getR flX9_51 rfl hs9 hr11 eX9_lay_12 ?_
  refine q_aload_nr eX9_lay_15 rfl ?_
  obtain ⟨a12, hr13, hw⟩ := hw
  refine q_getR flX9_19 rfl hs9 hr13 eX9_lay_16 ?_
  refine q_aload_nr eX9_lay_19 rfl ?_
  obtain ⟨a14, hr15, hw⟩ := hw
  refine q_getR flX9_26 rfl hs9 hr15 eX9_lay_20 ?_
  refine q_iload_n eX9_lay_23 rfl ?_
  obtain ⟨hs16, hw⟩ := hw
  refine q_callV (b := 0) (t := 0) (gX7_layCopy _ _ _ _ _ _ hw) mlX9_185 kX7_layCopy vX7_layCopy rfl hs16 ⟨rfl, rfl⟩ (by decide) rfl (Nat.le_of_ble_eq_true rfl) eX9_lay_24 (kI fun r17 h18 hw => ?_)
  refine x_istore_n (ls' := [_, _, _]) eX9_lay_27 (by decide) rfl rfl ?_
  refine q_aload_nr eX9_lay_28 rfl ?_
  refine q_iload_n eX9_lay_29 rfl ?_
  refine q_aload_nr eX9_lay_30 rfl ?_
  refine q_iload_n eX9_lay_31 rfl ?_
  obtain ⟨hs19, hw⟩ := hw
  refine q_callV (b := 0) (t := 0) (gX9_copiesOf _ _ _ _ hw) mlX9_188 kX9_copiesOf vX9_copiesOf rfl hs19 ⟨rfl, rfl⟩ (by decide) rfl (Nat.le_of_ble_eq_true rfl) eX9_lay_32 (kI fun r20 h21 hw => ?_)
  obtain ⟨hs22, hw⟩ := hw
  refine q_callV (b := 0) (t := 0) (gX9_ended _ _ _ _ _ hw) mlX9_191 kX9_ended vX9_ended rfl hs22 ⟨rfl, rfl⟩ (by decide) rfl (Nat.le_of_ble_eq_true rfl) eX9_lay_35 (kI fun r23 h24 hw => ?_)
  exact q_ret rfl eX9_lay_38 ⟨_, rfl, hw⟩
def wX9_take (x0 : Nat) (x1 : Int32) (h : MH) (Q : Int32 → MH → Prop) : Prop := hS h x0 = (1, 9) ∧ ∃ a2, hR h x0 3 = some a2 ∧ ∃ a4, hR h x0 2 = some a4 ∧ hS h a2 = (1, 6) ∧ wX6_copyFrom a2 a4 h (fun h8 => hS h8 x0 = (1, 9) ∧ ∃ a10, hR h8 x0 6 = some a10 ∧ ∃ a12, hR h8 x0 1 = some a12 ∧ ∃ a14, hR h8 x0 2 = some a14 ∧ hS h8 a10 = (1, 7) ∧ wX7_takeCopy a10 a12 a14 x1 h8 (fun r17 h18 => hS h18 x0 = (1, 9) ∧ wX9_copiesOf x0 x1 h18 (fun r20 h21 => hS h21 x0 = (1, 9) ∧ wX9_ended x0 r17 r20 h21 (fun r23 h24 => Q (r23) h24))))
set_option maxHeartbeats 4000000 in
set_option maxRecDepth 100000 in
theorem gX9_take (x0 : Nat) (x1 : Int32) (h : MH) (Q : Int32 → MH → Prop) (hw : wX9_take x0 x1 h Q) : Cm MX9_take 4 0 0 [.ref (x0), .int (x1)] h (pI Q) := by
  refine cm_of [some (.ref (x0)), some (.int (x1)), none] rfl pnX9 (Nat.le_of_ble_eq_true rfl) rfl ?_
  unfold wX9_take at hw
  refine q_aload_nr eX9_take_0 rfl ?_
  obtain ⟨hs1, hw⟩ := hw
  obtain ⟨a2, hr3, hw⟩ := hw
  refine q_getR flX9_30 rfl hs1 hr3 eX9_take_1 ?_
  refine q_aload_nr eX9_take_4 rfl ?_
  obtain ⟨a4, hr5, hw⟩ := hw
  refine q_getR flX9_26 rfl hs1 hr5 eX9_take_5 ?_
  obtain ⟨hs6, hw⟩ := hw
  refine q_callV (b := 0) (t := 0) (gX6_copyFrom _ _ _ _ hw) mlX9_181 kX6_copyFrom vX6_copyFrom rfl hs6 ⟨rfl, rfl⟩ (by decide) rfl (Nat.le_of_ble_eq_true rfl) eX9_take_8 (kV fun h8 hw => ?_)
  refine q_aload_nr eX9_take_11 rfl ?_
  obtain ⟨hs9, hw⟩ := hw
  obtain ⟨a10, hr11, hw⟩ := hw
  refine q_getR flX9_51 rfl hs9 hr11 eX9_take_12 ?_
  refine q_aload_nr eX9_take_15 rfl ?_
  obtain ⟨a12, hr13, hw⟩ := hw
  refine q_getR flX9_19 rfl hs9 hr13 eX9_take_16 ?_
  refine q_aload_nr eX9_take_19 rfl ?_
  obtain ⟨a14, hr15, hw⟩ := hw
  refine q_getR flX9_26 rfl hs9 hr15 eX9_take_20 ?_
  refine q_iload_n eX9_take_23 rfl ?_
  obtain ⟨hs16, hw⟩ := hw
  refine q_callV (b := 0) (t := 0) (gX7_takeCopy _ _ _ _ _ _ hw) mlX9_194 kX7_takeCopy vX7_takeCopy rfl hs16 ⟨rfl, rfl⟩ (by decide) rfl (Nat.le_of_ble_eq_true rfl) eX9_take_24 (kI fun r17 h18 hw => ?_)
  refine x_istore_n (ls' := [_, _, _]) eX9_take_27 (by decide) rfl rfl ?_
  refine q_aload_nr eX9_take_28 rfl ?_
  refine q_iload_n eX9_take_29 rfl ?_
  refine q_aload_nr eX9_take_30 rfl ?_
  refine q_iload_n eX9_take_31 rfl ?_
  obtain ⟨hs19, hw⟩ := hw
  refine q_callV (b := 0) (t := 0) (gX9_copiesOf _ _ _ _ hw) mlX9_188 kX9_copiesOf vX9_copiesOf rfl hs19 ⟨rfl, rfl⟩ (by decide) rfl (Nat.le_of_ble_eq_true rfl) eX9_take_32 (kI fun r20 h21 hw => ?_)
  obtain ⟨hs22, hw⟩ := hw
  refine q_callV (b := 0) (t := 0) (gX9_ended _ _ _ _ _ hw) mlX9_191 kX9_ended vX9_ended rfl hs22 ⟨rfl, rfl⟩ (by decide) rfl (Nat.le_of_ble_eq_true rfl) eX9_take_35 (kI fun r23 h24 hw => ?_)
  exact q_ret rfl eX9_take_38 ⟨_, rfl, hw⟩
def wX9_fail (x0 : Nat) (x1 : Int32) (h : MH) (Q : Int32 → MH → Prop) : Prop := hS h x0 = (1, 9) ∧ ∃ a2, hR h x0 3 = some a2 ∧ ∃ a4, hR h x0 2 = some a4 ∧ hS h a2 = (1, 6) ∧ wX6_copyFrom a2 a4 h (fun h8 => hS h8 x0 = (1, 9) ∧ ∃ a10, hR h8 x0 6 = some a10 ∧ ∃ a12, hR h8 x0 1 = some a12 ∧ ∃ a14, hR h8 x0 2 = some a14 ∧ hS h8 a10 = (1, 7) ∧ wX7_failLink a10 a12 a14 x1 h8 (fun r17 h18 => hS h18 x0 = (1, 9) ∧ ∃ a20, hR h18 x0 6 = some a20 ∧ ∃ a22, hR h18 x0 1 = some a22 ∧ ∃ a24, hR h18 x0 2 = some a24 ∧ hS h18 a20 = (1, 7) ∧ wX7_lostUnits a20 a22 a24 h18 (fun r27 h28 => hS h28 x0 = (1, 9) ∧ wX9_ended x0 r17 r27 h28 (fun r30 h31 => Q (r30) h31))))
set_option maxHeartbeats 4000000 in
set_option maxRecDepth 100000 in
theorem gX9_fail (x0 : Nat) (x1 : Int32) (h : MH) (Q : Int32 → MH → Prop) (hw : wX9_fail x0 x1 h Q) : Cm MX9_fail 4 0 0 [.ref (x0), .int (x1)] h (pI Q) := by
  refine cm_of [some (.ref (x0)), some (.int (x1)), none] rfl pnX9 (Nat.le_of_ble_eq_true rfl) rfl ?_
  unfold wX9_fail at hw
  refine q_aload_nr eX9_fail_0 rfl ?_
  obtain ⟨hs1, hw⟩ := hw
  obtain ⟨a2, hr3, hw⟩ := hw
  refine q_getR flX9_30 rfl hs1 hr3 eX9_fail_1 ?_
  refine q_aload_nr eX9_fail_4 rfl ?_
  obtain ⟨a4, hr5, hw⟩ := hw
  refine q_getR flX9_26 rfl hs1 hr5 eX9_fail_5 ?_
  obtain ⟨hs6, hw⟩ := hw
  refine q_callV (b := 0) (t := 0) (gX6_copyFrom _ _ _ _ hw) mlX9_181 kX6_copyFrom vX6_copyFrom rfl hs6 ⟨rfl, rfl⟩ (by decide) rfl (Nat.le_of_ble_eq_true rfl) eX9_fail_8 (kV fun h8 hw => ?_)
  refine q_aload_nr eX9_fail_11 rfl ?_
  obtain ⟨hs9, hw⟩ := hw
  obtain ⟨a10, hr11, hw⟩ := hw
  refine q_getR flX9_51 rfl hs9 hr11 eX9_fail_12 ?_
  refine q_aload_nr eX9_fail_15 rfl ?_
  obtain ⟨a12, hr13, hw⟩ := hw
  refine q_getR flX9_19 rfl hs9 hr13 eX9_fail_16 ?_
  refine q_aload_nr eX9_fail_19 rfl ?_
  obtain ⟨a14, hr15, hw⟩ := hw
  refine q_getR flX9_26 rfl hs9 hr15 eX9_fail_20 ?_
  refine q_iload_n eX9_fail_23 rfl ?_
  obtain ⟨hs16, hw⟩ := hw
  refine q_callV (b := 0) (t := 0) (gX7_failLink _ _ _ _ _ _ hw) mlX9_197 kX7_failLink vX7_failLink rfl hs16 ⟨rfl, rfl⟩ (by decide) rfl (Nat.le_of_ble_eq_true rfl) eX9_fail_24 (kI fun r17 h18 hw => ?_)
  refine x_istore_n (ls' := [_, _, _]) eX9_fail_27 (by decide) rfl rfl ?_
  refine q_aload_nr eX9_fail_28 rfl ?_
  refine q_iload_n eX9_fail_29 rfl ?_
  refine q_aload_nr eX9_fail_30 rfl ?_
  obtain ⟨hs19, hw⟩ := hw
  obtain ⟨a20, hr21, hw⟩ := hw
  refine q_getR flX9_51 rfl hs19 hr21 eX9_fail_31 ?_
  refine q_aload_nr eX9_fail_34 rfl ?_
  obtain ⟨a22, hr23, hw⟩ := hw
  refine q_getR flX9_19 rfl hs19 hr23 eX9_fail_35 ?_
  refine q_aload_nr eX9_fail_38 rfl ?_
  obtain ⟨a24, hr25, hw⟩ := hw
  refine q_getR flX9_26 rfl hs19 hr25 eX9_fail_39 ?_
  obtain ⟨hs26, hw⟩ := hw
  refine q_callV (b := 0) (t := 0) (gX7_lostUnits _ _ _ _ _ hw) mlX9_200 kX7_lostUnits vX7_lostUnits rfl hs26 ⟨rfl, rfl⟩ (by decide) rfl (Nat.le_of_ble_eq_true rfl) eX9_fail_42 (kI fun r27 h28 hw => ?_)
  obtain ⟨hs29, hw⟩ := hw
  refine q_callV (b := 0) (t := 0) (gX9_ended _ _ _ _ _ hw) mlX9_191 kX9_ended vX9_ended rfl hs29 ⟨rfl, rfl⟩ (by decide) rfl (Nat.le_of_ble_eq_true rfl) eX9_fail_45 (kI fun r30 h31 hw => ?_)
  exact q_ret rfl eX9_fail_48 ⟨_, rfl, hw⟩
def wX9_mend (x0 : Nat) (x1 : Int32) (h : MH) (Q : Int32 → MH → Prop) : Prop := hS h x0 = (1, 9) ∧ ∃ a2, hR h x0 3 = some a2 ∧ ∃ a4, hR h x0 2 = some a4 ∧ hS h a2 = (1, 6) ∧ wX6_copyFrom a2 a4 h (fun h8 => hS h8 x0 = (1, 9) ∧ ∃ a10, hR h8 x0 6 = some a10 ∧ ∃ a12, hR h8 x0 1 = some a12 ∧ ∃ a14, hR h8 x0 2 = some a14 ∧ hS h8 a10 = (1, 7) ∧ wX7_mendLink a10 a12 a14 x1 h8 (fun r17 h18 => hS h18 x0 = (1, 9) ∧ ∃ a20, hR h18 x0 6 = some a20 ∧ ∃ a22, hR h18 x0 1 = some a22 ∧ ∃ a24, hR h18 x0 2 = some a24 ∧ hS h18 a20 = (1, 7) ∧ wX7_lostUnits a20 a22 a24 h18 (fun r27 h28 => hS h28 x0 = (1, 9) ∧ wX9_ended x0 r17 r27 h28 (fun r30 h31 => Q (r30) h31))))
set_option maxHeartbeats 4000000 in
set_option maxRecDepth 100000 in
theorem gX9_mend (x0 : Nat) (x1 : Int32) (h : MH) (Q : Int32 → MH → Prop) (hw : wX9_mend x0 x1 h Q) : Cm MX9_mend 4 0 0 [.ref (x0), .int (x1)] h (pI Q) := by
  refine cm_of [some (.ref (x0)), some (.int (x1)), none] rfl pnX9 (Nat.le_of_ble_eq_true rfl) rfl ?_
  unfold wX9_mend at hw
  refine q_aload_nr eX9_mend_0 rfl ?_
  obtain ⟨hs1, hw⟩ := hw
  obtain ⟨a2, hr3, hw⟩ := hw
  refine q_getR flX9_30 rfl hs1 hr3 eX9_mend_1 ?_
  refine q_aload_nr eX9_mend_4 rfl ?_
  obtain ⟨a4, hr5, hw⟩ := hw
  refine q_getR flX9_26 rfl hs1 hr5 eX9_mend_5 ?_
  obtain ⟨hs6, hw⟩ := hw
  refine q_callV (b := 0) (t := 0) (gX6_copyFrom _ _ _ _ hw) mlX9_181 kX6_copyFrom vX6_copyFrom rfl hs6 ⟨rfl, rfl⟩ (by decide) rfl (Nat.le_of_ble_eq_true rfl) eX9_mend_8 (kV fun h8 hw => ?_)
  refine q_aload_nr eX9_mend_11 rfl ?_
  obtain ⟨hs9, hw⟩ := hw
  obtain ⟨a10, hr11, hw⟩ := hw
  refine q_getR flX9_51 rfl hs9 hr11 eX9_mend_12 ?_
  refine q_aload_nr eX9_mend_15 rfl ?_
  obtain ⟨a12, hr13, hw⟩ := hw
  refine q_getR flX9_19 rfl hs9 hr13 eX9_mend_16 ?_
  refine q_aload_nr eX9_mend_19 rfl ?_
  obtain ⟨a14, hr15, hw⟩ := hw
  refine q_getR flX9_26 rfl hs9 hr15 eX9_mend_20 ?_
  refine q_iload_n eX9_mend_23 rfl ?_
  obtain ⟨hs16, hw⟩ := hw
  refine q_callV (b := 0) (t := 0) (gX7_mendLink _ _ _ _ _ _ hw) mlX9_204 kX7_mendLink vX7_mendLink rfl hs16 ⟨rfl, rfl⟩ (by decide) rfl (Nat.le_of_ble_eq_true rfl) eX9_mend_24 (kI fun r17 h18 hw => ?_)
  refine x_istore_n (ls' := [_, _, _]) eX9_mend_27 (by decide) rfl rfl ?_
  refine q_aload_nr eX9_mend_28 rfl ?_
  refine q_iload_n eX9_mend_29 rfl ?_
  refine q_aload_nr eX9_mend_30 rfl ?_
  obtain ⟨hs19, hw⟩ := hw
  obtain ⟨a20, hr21, hw⟩ := hw
  refine q_getR flX9_51 rfl hs19 hr21 eX9_mend_31 ?_
  refine q_aload_nr eX9_mend_34 rfl ?_
  obtain ⟨a22, hr23, hw⟩ := hw
  refine q_getR flX9_19 rfl hs19 hr23 eX9_mend_35 ?_
  refine q_aload_nr eX9_mend_38 rfl ?_
  obtain ⟨a24, hr25, hw⟩ := hw
  refine q_getR flX9_26 rfl hs19 hr25 eX9_mend_39 ?_
  obtain ⟨hs26, hw⟩ := hw
  refine q_callV (b := 0) (t := 0) (gX7_lostUnits _ _ _ _ _ hw) mlX9_200 kX7_lostUnits vX7_lostUnits rfl hs26 ⟨rfl, rfl⟩ (by decide) rfl (Nat.le_of_ble_eq_true rfl) eX9_mend_42 (kI fun r27 h28 hw => ?_)
  obtain ⟨hs29, hw⟩ := hw
  refine q_callV (b := 0) (t := 0) (gX9_ended _ _ _ _ _ hw) mlX9_191 kX9_ended vX9_ended rfl hs29 ⟨rfl, rfl⟩ (by decide) rfl (Nat.le_of_ble_eq_true rfl) eX9_mend_45 (kI fun r30 h31 hw => ?_)
  exact q_ret rfl eX9_mend_48 ⟨_, rfl, hw⟩
def wX9_rate (x0 : Nat) (x1 : Int32) (h : MH) (Q : Int32 → MH → Prop) : Prop := hS h x0 = (1, 9) ∧ ∃ a2, hR h x0 3 = some a2 ∧ ∃ a4, hR h x0 2 = some a4 ∧ hS h a2 = (1, 6) ∧ wX6_copyFrom a2 a4 h (fun h8 => hS h8 x0 = (1, 9) ∧ ∃ a10, hR h8 x0 6 = some a10 ∧ ∃ a12, hR h8 x0 1 = some a12 ∧ ∃ a14, hR h8 x0 2 = some a14 ∧ hS h8 a10 = (1, 7) ∧ wX7_changeRate a10 a12 a14 x1 h8 (fun r17 h18 => hS h18 x0 = (1, 9) ∧ ∃ a20, hR h18 x0 1 = some a20 ∧ ∃ a22, hR h18 x0 2 = some a22 ∧ hS h18 a22 = (1, 6) ∧ hS h18 a20 = (1, 4) ∧ wX4_ringCount a20 (hI h18 a22 0) h18 (fun r26 h27 => hS h27 x0 = (1, 9) ∧ wX9_ended x0 r17 r26 h27 (fun r29 h30 => Q (r29) h30))))
set_option maxHeartbeats 4000000 in
set_option maxRecDepth 100000 in
theorem gX9_rate (x0 : Nat) (x1 : Int32) (h : MH) (Q : Int32 → MH → Prop) (hw : wX9_rate x0 x1 h Q) : Cm MX9_rate 4 0 0 [.ref (x0), .int (x1)] h (pI Q) := by
  refine cm_of [some (.ref (x0)), some (.int (x1)), none] rfl pnX9 (Nat.le_of_ble_eq_true rfl) rfl ?_
  unfold wX9_rate at hw
  refine q_aload_nr eX9_rate_0 rfl ?_
  obtain ⟨hs1, hw⟩ := hw
  obtain ⟨a2, hr3, hw⟩ := hw
  refine q_getR flX9_30 rfl hs1 hr3 eX9_rate_1 ?_
  refine q_aload_nr eX9_rate_4 rfl ?_
  obtain ⟨a4, hr5, hw⟩ := hw
  refine q_getR flX9_26 rfl hs1 hr5 eX9_rate_5 ?_
  obtain ⟨hs6, hw⟩ := hw
  refine q_callV (b := 0) (t := 0) (gX6_copyFrom _ _ _ _ hw) mlX9_181 kX6_copyFrom vX6_copyFrom rfl hs6 ⟨rfl, rfl⟩ (by decide) rfl (Nat.le_of_ble_eq_true rfl) eX9_rate_8 (kV fun h8 hw => ?_)
  refine q_aload_nr eX9_rate_11 rfl ?_
  obtain ⟨hs9, hw⟩ := hw
  obtain ⟨a10, hr11, hw⟩ := hw
  refine q_getR flX9_51 rfl hs9 hr11 eX9_rate_12 ?_
  refine q_aload_nr eX9_rate_15 rfl ?_
  obtain ⟨a12, hr13, hw⟩ := hw
  refine q_getR flX9_19 rfl hs9 hr13 eX9_rate_16 ?_
  refine q_aload_nr eX9_rate_19 rfl ?_
  obtain ⟨a14, hr15, hw⟩ := hw
  refine q_getR flX9_26 rfl hs9 hr15 eX9_rate_20 ?_
  refine q_iload_n eX9_rate_23 rfl ?_
  obtain ⟨hs16, hw⟩ := hw
  refine q_callV (b := 0) (t := 0) (gX7_changeRate _ _ _ _ _ _ hw) mlX9_207 kX7_changeRate vX7_changeRate rfl hs16 ⟨rfl, rfl⟩ (by decide) rfl (Nat.le_of_ble_eq_true rfl) eX9_rate_24 (kI fun r17 h18 hw => ?_)
  refine x_istore_n (ls' := [_, _, _]) eX9_rate_27 (by decide) rfl rfl ?_
  refine q_aload_nr eX9_rate_28 rfl ?_
  refine q_iload_n eX9_rate_29 rfl ?_
  refine q_aload_nr eX9_rate_30 rfl ?_
  obtain ⟨hs19, hw⟩ := hw
  obtain ⟨a20, hr21, hw⟩ := hw
  refine q_getR flX9_19 rfl hs19 hr21 eX9_rate_31 ?_
  refine q_aload_nr eX9_rate_34 rfl ?_
  obtain ⟨a22, hr23, hw⟩ := hw
  refine q_getR flX9_26 rfl hs19 hr23 eX9_rate_35 ?_
  obtain ⟨hs24, hw⟩ := hw
  refine q_getI flX9_145 rfl hs24 eX9_rate_38 ?_
  obtain ⟨hs25, hw⟩ := hw
  refine q_callV (b := 0) (t := 0) (gX4_ringCount _ _ _ _ hw) mlX9_171 kX4_ringCount vX4_ringCount rfl hs25 ⟨rfl, rfl⟩ (by decide) rfl (Nat.le_of_ble_eq_true rfl) eX9_rate_41 (kI fun r26 h27 hw => ?_)
  obtain ⟨hs28, hw⟩ := hw
  refine q_callV (b := 0) (t := 0) (gX9_ended _ _ _ _ _ hw) mlX9_191 kX9_ended vX9_ended rfl hs28 ⟨rfl, rfl⟩ (by decide) rfl (Nat.le_of_ble_eq_true rfl) eX9_rate_44 (kI fun r29 h30 hw => ?_)
  exact q_ret rfl eX9_rate_47 ⟨_, rfl, hw⟩
def wX9_undo (x0 : Nat) (x1 : Int32) (h : MH) (Q : Int32 → MH → Prop) : Prop := (x1 < nI 1 → Q ((-3 : Int32)) h) ∧ (¬ (x1 < nI 1) → hS h x0 = (1, 9) ∧ ∃ a2, hR h x0 5 = some a2 ∧ hS h a2 = (1, 2) ∧ (x1 ≤ hI h a2 2 → ∃ a5, hR h x0 2 = some a5 ∧ wX2_bringBack a2 x1 a5 h (fun h8 => hS h8 x0 = (1, 9) ∧ ∃ a10, hR h8 x0 5 = some a10 ∧ hS h8 a10 = (1, 2) ∧ Q (hI h8 a10 2) h8)) ∧ (¬ (x1 ≤ hI h a2 2) → Q ((-3 : Int32)) h))
set_option maxHeartbeats 4000000 in
set_option maxRecDepth 100000 in
theorem gX9_undo (x0 : Nat) (x1 : Int32) (h : MH) (Q : Int32 → MH → Prop) (hw : wX9_undo x0 x1 h Q) : Cm MX9_undo 3 0 0 [.ref (x0), .int (x1)] h (pI Q) := by
  refine cm_of [some (.ref (x0)), some (.int (x1))] rfl pnX9 (Nat.le_of_ble_eq_true rfl) rfl ?_
  unfold wX9_undo at hw
  refine q_iload_n eX9_undo_0 rfl ?_
  refine q_iconst (v := nI 1) eX9_undo_1 (by decide) ?_
  obtain ⟨hw1, hw2⟩ := hw
  refine q_icmp_lt (tgt := 16) eX9_undo_2 (by decide) (fun c => ?_) (fun c => ?_)
  · have hw := hw1 c
    refine q_bipush (v := (-3 : Int32)) eX9_undo_16 (by decide) ?_
    exact q_ret rfl eX9_undo_18 ⟨_, rfl, hw⟩
  · have hw := hw2 c
    refine q_iload_n eX9_undo_5 rfl ?_
    refine q_aload_nr eX9_undo_6 rfl ?_
    obtain ⟨hs1, hw⟩ := hw
    obtain ⟨a2, hr3, hw⟩ := hw
    refine q_getR flX9_44 rfl hs1 hr3 eX9_undo_7 ?_
    obtain ⟨hs4, hw⟩ := hw
    refine q_getI flX9_213 rfl hs4 eX9_undo_10 ?_
    obtain ⟨hw1, hw2⟩ := hw
    refine q_icmp_le (tgt := 19) eX9_undo_13 (by decide) (fun c => ?_) (fun c => ?_)
    · have hw := hw1 c
      refine q_aload_nr eX9_undo_19 rfl ?_
      refine q_getR flX9_44 rfl hs1 hr3 eX9_undo_20 ?_
      refine q_iload_n eX9_undo_23 rfl ?_
      refine q_aload_nr eX9_undo_24 rfl ?_
      obtain ⟨a5, hr6, hw⟩ := hw
      refine q_getR flX9_26 rfl hs1 hr6 eX9_undo_25 ?_
      refine q_callV (b := 0) (t := 0) (gX2_bringBack _ _ _ _ _ hw) mlX9_216 kX2_bringBack vX2_bringBack rfl hs4 ⟨rfl, rfl⟩ (by decide) rfl (Nat.le_of_ble_eq_true rfl) eX9_undo_28 (kV fun h8 hw => ?_)
      refine q_aload_nr eX9_undo_31 rfl ?_
      obtain ⟨hs9, hw⟩ := hw
      obtain ⟨a10, hr11, hw⟩ := hw
      refine q_getR flX9_44 rfl hs9 hr11 eX9_undo_32 ?_
      obtain ⟨hs12, hw⟩ := hw
      refine q_getI flX9_213 rfl hs12 eX9_undo_35 ?_
      exact q_ret rfl eX9_undo_38 ⟨_, rfl, hw⟩
    · have hw := hw2 c
      refine q_bipush (v := (-3 : Int32)) eX9_undo_16 (by decide) ?_
      exact q_ret rfl eX9_undo_18 ⟨_, rfl, hw⟩
def wX9_isTray (x0 : Int32) (h : MH) (Q : Int32 → MH → Prop) : Prop := ((if x0 < 0 then nI 0 else (if nI 4 ≤ x0 then nI 0 else nI 1)) = 0 ∨ (if x0 < 0 then nI 0 else (if nI 4 ≤ x0 then nI 0 else nI 1)) = 1) ∧ Q ((if x0 < 0 then nI 0 else (if nI 4 ≤ x0 then nI 0 else nI 1))) h
set_option maxHeartbeats 4000000 in
set_option maxRecDepth 100000 in
theorem gX9_isTray (x0 : Int32) (h : MH) (Q : Int32 → MH → Prop) (hw : wX9_isTray x0 h Q) : Cm MX9_isTray 0 0 0 [.int (x0)] h (pI Q) := by
  refine cm_of [some (.int (x0))] rfl pnX9 (Nat.le_of_ble_eq_true rfl) rfl ?_
  unfold wX9_isTray at hw
  refine q_iload_n eX9_isTray_0 rfl ?_
  have hj3 : Wm MX9_isTray 0 0 0 14 [some (.int (x0))] [.int ((if x0 < 0 then nI 0 else (if nI 4 ≤ x0 then nI 0 else nI 1)))] h (pI Q) := by
    obtain ⟨hz2, hw⟩ := hw
    exact q_retZ rfl hz2 eX9_isTray_14 ⟨_, rfl, hw⟩
  refine q_if_lt (tgt := 13) eX9_isTray_1 (by decide) (fun c => ?_) (fun c => ?_)
  · refine q_iconst (v := nI 0) eX9_isTray_13 (by decide) ?_
    rw [if_pos c] at hj3
    exact hj3
  · refine q_iload_n eX9_isTray_4 rfl ?_
    refine q_iconst (v := nI 4) eX9_isTray_5 (by decide) ?_
    have hj4 : Wm MX9_isTray 0 0 0 14 [some (.int (x0))] [.int ((if nI 4 ≤ x0 then nI 0 else nI 1))] h (pI Q) := by
      rw [if_neg c] at hj3
      exact hj3
    refine q_icmp_ge (tgt := 13) eX9_isTray_6 (by decide) (fun c => ?_) (fun c => ?_)
    · refine q_iconst (v := nI 0) eX9_isTray_13 (by decide) ?_
      rw [if_pos c] at hj4
      exact hj4
    · refine q_iconst (v := nI 1) eX9_isTray_9 (by decide) ?_
      refine q_goto (tgt := 14) eX9_isTray_10 (by decide) ?_
      rw [if_neg c] at hj4
      exact hj4
def wX9_judge (x0 : Nat) (x1 : Int32) (x2 : Int32) (h : MH) (Q : Int32 → MH → Prop) : Prop := wX9_isTray x1 h (fun r1 h2 => (r1 = 0 → Q ((-2 : Int32)) h2) ∧ (¬ (r1 = 0) → (x2 < 0 → Q ((-2 : Int32)) h2) ∧ (¬ (x2 < 0) → (x2 ≤ nI 3 → hS h2 x0 = (1, 9) ∧ ∃ a4, hR h2 x0 9 = some a4 ∧ ∃ n7, hS h2 a4 = (7, n7) ∧ vp_in (x1) n7 ∧ ∃ a9, hR h2 a4 (x1).toNatClampNeg = some a9 ∧ hS h2 a9 = (1, 8) ∧ wX8_isMissing a9 h2 (fun r12 h13 => (r12 = 0 → hS h13 x0 = (1, 9) ∧ ∃ a15, hR h13 x0 4 = some a15 ∧ ∃ n18, hS h13 a15 = (6, n18) ∧ vp_in (nI 0) n18 ∧ ∃ a20, hR h13 a15 (nI 0).toNatClampNeg = some a20 ∧ ∃ a22, hR h13 x0 2 = some a22 ∧ hS h13 a20 = (1, 6) ∧ wX6_copyFrom a20 a22 h13 (fun h26 => hS h26 x0 = (1, 9) ∧ ∃ a28, hR h26 x0 6 = some a28 ∧ ∃ a30, hR h26 x0 1 = some a30 ∧ hS h26 a28 = (1, 7) ∧ wX7_doAll a28 a30 a20 a9 h26 (fun r33 h34 => ((x2).toInt < 0 ∨ 2 < (x2).toInt → hS h34 a20 = (1, 6) ∧ Q (hI h34 a20 1) h34) ∧ (x2 = nI 0 → hS h34 a9 = (1, 8) ∧ Q ((if hI h34 a9 1 ≤ r33 then (-1 : Int32) else r33)) h34) ∧ (x2 = nI 1 → hS h34 a9 = (1, 8) ∧ (hI h34 a9 1 ≤ r33 → Q (nI 0) h34) ∧ (¬ (hI h34 a9 1 ≤ r33) → hS h34 x0 = (1, 9) ∧ ∃ a41, hR h34 x0 6 = some a41 ∧ ∃ a43, hR h34 x0 1 = some a43 ∧ ∃ a45, hR h34 a9 2 = some a45 ∧ ∃ n48, hS h34 a45 = (3, n48) ∧ vp_in (r33) n48 ∧ hS h34 a41 = (1, 7) ∧ wX7_doDeed a41 a43 a20 (hL h34 a45 (r33).toNatClampNeg) h34 (fun r51 h52 => Q (r51) h52))) ∧ (x2 = nI 2 → hS h34 x0 = (1, 9) ∧ ∃ a54, hR h34 x0 6 = some a54 ∧ ∃ a56, hR h34 x0 1 = some a56 ∧ hS h34 a54 = (1, 7) ∧ wX7_lostUnits a54 a56 a20 h34 (fun r59 h60 => Q (r59) h60))))) ∧ (¬ (r12 = 0) → Q ((-6 : Int32)) h13))) ∧ (¬ (x2 ≤ nI 3) → Q ((-2 : Int32)) h2))))
set_option maxHeartbeats 4000000 in
set_option maxRecDepth 100000 in
theorem gX9_judge (x0 : Nat) (x1 : Int32) (x2 : Int32) (h : MH) (Q : Int32 → MH → Prop) (hw : wX9_judge x0 x1 x2 h Q) : Cm MX9_judge 6 0 0 [.ref (x0), .int (x1), .int (x2)] h (pI Q) := by
  refine cm_of [some (.ref (x0)), some (.int (x1)), some (.int (x2)), none, none, none] rfl pnX9 (Nat.le_of_ble_eq_true rfl) rfl ?_
  unfold wX9_judge at hw
  refine q_iload_n eX9_judge_0 rfl ?_
  refine q_callS (b := 0) (t := 0) (gX9_isTray _ _ _ hw) mlX9_220 kX9_isTray sX9_isTray rfl (by decide) rfl (Nat.le_of_ble_eq_true rfl) eX9_judge_1 (kI fun r1 h2 hw => ?_)
  obtain ⟨hw1, hw2⟩ := hw
  refine q_if_eq (tgt := 16) eX9_judge_4 (by decide) (fun c => ?_) (fun c => ?_)
  · have hw := hw1 c
    refine q_bipush (v := (-2 : Int32)) eX9_judge_16 (by decide) ?_
    exact q_ret rfl eX9_judge_18 ⟨_, rfl, hw⟩
  · have hw := hw2 c
    refine q_iload_n eX9_judge_7 rfl ?_
    obtain ⟨hw1, hw2⟩ := hw
    refine q_if_lt (tgt := 16) eX9_judge_8 (by decide) (fun c => ?_) (fun c => ?_)
    · have hw := hw1 c
      refine q_bipush (v := (-2 : Int32)) eX9_judge_16 (by decide) ?_
      exact q_ret rfl eX9_judge_18 ⟨_, rfl, hw⟩
    · have hw := hw2 c
      refine q_iload_n eX9_judge_11 rfl ?_
      refine q_iconst (v := nI 3) eX9_judge_12 (by decide) ?_
      obtain ⟨hw1, hw2⟩ := hw
      refine q_icmp_le (tgt := 19) eX9_judge_13 (by decide) (fun c => ?_) (fun c => ?_)
      · have hw := hw1 c
        refine q_aload_nr eX9_judge_19 rfl ?_
        obtain ⟨hs3, hw⟩ := hw
        obtain ⟨a4, hr5, hw⟩ := hw
        refine q_getR flX9_73 rfl hs3 hr5 eX9_judge_20 ?_
        refine q_iload_n eX9_judge_23 rfl ?_
        obtain ⟨n7, hs6, hw⟩ := hw
        obtain ⟨hi8, hw⟩ := hw
        obtain ⟨a9, hr10, hw⟩ := hw
        refine q_aald (Or.inr (Or.inl rfl)) hs6 hi8 hr10 eX9_judge_24 ?_
        refine x_astore_nr (ls' := [_, _, _, _, _, _]) eX9_judge_25 (by decide) rfl rfl ?_
        refine q_aload_nr eX9_judge_26 rfl ?_
        obtain ⟨hs11, hw⟩ := hw
        refine q_callV (b := 0) (t := 0) (gX8_isMissing _ _ _ hw) mlX9_223 kX8_isMissing vX8_isMissing rfl hs11 ⟨rfl, rfl⟩ (by decide) rfl (Nat.le_of_ble_eq_true rfl) eX9_judge_27 (kI fun r12 h13 hw => ?_)
        obtain ⟨hw1, hw2⟩ := hw
        refine q_if_eq (tgt := 36) eX9_judge_30 (by decide) (fun c => ?_) (fun c => ?_)
        · have hw := hw1 c
          refine q_aload_nr eX9_judge_36 rfl ?_
          obtain ⟨hs14, hw⟩ := hw
          obtain ⟨a15, hr16, hw⟩ := hw
          refine q_getR flX9_37 rfl hs14 hr16 eX9_judge_37 ?_
          refine q_iconst (v := nI 0) eX9_judge_40 (by decide) ?_
          obtain ⟨n18, hs17, hw⟩ := hw
          obtain ⟨hi19, hw⟩ := hw
          obtain ⟨a20, hr21, hw⟩ := hw
          refine q_aald (Or.inl rfl) hs17 hi19 hr21 eX9_judge_41 ?_
          refine x_astorer (ls' := [_, _, _, _, _, _]) eX9_judge_42 (by decide) rfl rfl ?_
          refine q_aloadr eX9_judge_44 rfl ?_
          refine q_aload_nr eX9_judge_46 rfl ?_
          obtain ⟨a22, hr23, hw⟩ := hw
          refine q_getR flX9_26 rfl hs14 hr23 eX9_judge_47 ?_
          obtain ⟨hs24, hw⟩ := hw
          refine q_callV (b := 0) (t := 0) (gX6_copyFrom _ _ _ _ hw) mlX9_181 kX6_copyFrom vX6_copyFrom rfl hs24 ⟨rfl, rfl⟩ (by decide) rfl (Nat.le_of_ble_eq_true rfl) eX9_judge_50 (kV fun h26 hw => ?_)
          refine q_aload_nr eX9_judge_53 rfl ?_
          obtain ⟨hs27, hw⟩ := hw
          obtain ⟨a28, hr29, hw⟩ := hw
          refine q_getR flX9_51 rfl hs27 hr29 eX9_judge_54 ?_
          refine q_aload_nr eX9_judge_57 rfl ?_
          obtain ⟨a30, hr31, hw⟩ := hw
          refine q_getR flX9_19 rfl hs27 hr31 eX9_judge_58 ?_
          refine q_aloadr eX9_judge_61 rfl ?_
          refine q_aload_nr eX9_judge_63 rfl ?_
          obtain ⟨hs32, hw⟩ := hw
          refine q_callV (b := 0) (t := 0) (gX7_doAll _ _ _ _ _ _ hw) mlX9_227 kX7_doAll vX7_doAll rfl hs32 ⟨rfl, rfl⟩ (by decide) rfl (Nat.le_of_ble_eq_true rfl) eX9_judge_64 (kI fun r33 h34 hw => ?_)
          refine x_istore (ls' := [_, _, _, _, _, _]) eX9_judge_67 (by decide) rfl rfl ?_
          refine q_iload_n eX9_judge_69 rfl ?_
          obtain ⟨hw0, hw1, hw2, hw3⟩ := hw
          by_cases hx : (x2).toInt < 0 ∨ 2 < (x2).toInt
          · have hw := hw0 hx
            refine q_tabOut (tgt := 160) eX9_judge_70 hx (by decide) ?_
            refine q_aloadr eX9_judge_160 rfl ?_
            obtain ⟨hs35, hw⟩ := hw
            refine q_getI flX9_240 rfl hs35 eX9_judge_162 ?_
            exact q_ret rfl eX9_judge_165 ⟨_, rfl, hw⟩
          · have hk : (x2).toInt = 0 ∨ (x2).toInt = 1 ∨ (x2).toInt = 2 := by omega
            rcases hk with hk | hk | hk
            · have hw := hw1 (x_toInt (by decide) hk)
              refine q_tabIn (off := 26) (tgt := 96) eX9_judge_70 (by omega) (by omega) (by rw [hk]; rfl) (by decide) ?_
              refine q_iload eX9_judge_96 rfl ?_
              refine q_aload_nr eX9_judge_98 rfl ?_
              obtain ⟨hs36, hw⟩ := hw
              refine q_getI flX9_231 rfl hs36 eX9_judge_99 ?_
              have hj38 : Wm MX9_judge 6 0 0 111 [some (.ref (x0)), some (.int (x1)), some (.int (x2)), some (.ref (a9)), some (.ref (a20)), some (.int (r33))] [.int ((if hI h34 a9 1 ≤ r33 then (-1 : Int32) else r33))] h34 (pI Q) := by
                exact q_ret rfl eX9_judge_111 ⟨_, rfl, hw⟩
              refine q_icmp_ge (tgt := 110) eX9_judge_102 (by decide) (fun c => ?_) (fun c => ?_)
              · refine q_iconst (v := (-1 : Int32)) eX9_judge_110 (by decide) ?_
                rw [if_pos c] at hj38
                exact hj38
              · refine q_iload eX9_judge_105 rfl ?_
                refine q_goto (tgt := 111) eX9_judge_107 (by decide) ?_
                rw [if_neg c] at hj38
                exact hj38
            · have hw := hw2 (x_toInt (by decide) hk)
              refine q_tabIn (off := 42) (tgt := 112) eX9_judge_70 (by omega) (by omega) (by rw [hk]; rfl) (by decide) ?_
              refine q_iload eX9_judge_112 rfl ?_
              refine q_aload_nr eX9_judge_114 rfl ?_
              obtain ⟨hs39, hw⟩ := hw
              refine q_getI flX9_231 rfl hs39 eX9_judge_115 ?_
              obtain ⟨hw1, hw2⟩ := hw
              refine q_icmp_ge (tgt := 144) eX9_judge_118 (by decide) (fun c => ?_) (fun c => ?_)
              · have hw := hw1 c
                refine q_iconst (v := nI 0) eX9_judge_144 (by decide) ?_
                exact q_ret rfl eX9_judge_145 ⟨_, rfl, hw⟩
              · have hw := hw2 c
                refine q_aload_nr eX9_judge_121 rfl ?_
                obtain ⟨hs40, hw⟩ := hw
                obtain ⟨a41, hr42, hw⟩ := hw
                refine q_getR flX9_51 rfl hs40 hr42 eX9_judge_122 ?_
                refine q_aload_nr eX9_judge_125 rfl ?_
                obtain ⟨a43, hr44, hw⟩ := hw
                refine q_getR flX9_19 rfl hs40 hr44 eX9_judge_126 ?_
                refine q_aloadr eX9_judge_129 rfl ?_
                refine q_aload_nr eX9_judge_131 rfl ?_
                obtain ⟨a45, hr46, hw⟩ := hw
                refine q_getR flX9_232 rfl hs39 hr46 eX9_judge_132 ?_
                refine q_iload eX9_judge_135 rfl ?_
                obtain ⟨n48, hs47, hw⟩ := hw
                obtain ⟨hi49, hw⟩ := hw
                refine q_lald hs47 hi49 eX9_judge_137 ?_
                obtain ⟨hs50, hw⟩ := hw
                refine q_callV (b := 0) (t := 0) (gX7_doDeed _ _ _ _ _ _ hw) mlX9_236 kX7_doDeed vX7_doDeed rfl hs50 ⟨rfl, rfl⟩ (by decide) rfl (Nat.le_of_ble_eq_true rfl) eX9_judge_138 (kI fun r51 h52 hw => ?_)
                refine q_goto (tgt := 145) eX9_judge_141 (by decide) ?_
                exact q_ret rfl eX9_judge_145 ⟨_, rfl, hw⟩
            · have hw := hw3 (x_toInt (by decide) hk)
              refine q_tabIn (off := 76) (tgt := 146) eX9_judge_70 (by omega) (by omega) (by rw [hk]; rfl) (by decide) ?_
              refine q_aload_nr eX9_judge_146 rfl ?_
              obtain ⟨hs53, hw⟩ := hw
              obtain ⟨a54, hr55, hw⟩ := hw
              refine q_getR flX9_51 rfl hs53 hr55 eX9_judge_147 ?_
              refine q_aload_nr eX9_judge_150 rfl ?_
              obtain ⟨a56, hr57, hw⟩ := hw
              refine q_getR flX9_19 rfl hs53 hr57 eX9_judge_151 ?_
              refine q_aloadr eX9_judge_154 rfl ?_
              obtain ⟨hs58, hw⟩ := hw
              refine q_callV (b := 0) (t := 0) (gX7_lostUnits _ _ _ _ _ hw) mlX9_200 kX7_lostUnits vX7_lostUnits rfl hs58 ⟨rfl, rfl⟩ (by decide) rfl (Nat.le_of_ble_eq_true rfl) eX9_judge_156 (kI fun r59 h60 hw => ?_)
              exact q_ret rfl eX9_judge_159 ⟨_, rfl, hw⟩
        · have hw := hw2 c
          refine q_bipush (v := (-6 : Int32)) eX9_judge_33 (by decide) ?_
          exact q_ret rfl eX9_judge_35 ⟨_, rfl, hw⟩
      · have hw := hw2 c
        refine q_bipush (v := (-2 : Int32)) eX9_judge_16 (by decide) ?_
        exact q_ret rfl eX9_judge_18 ⟨_, rfl, hw⟩
def wX9_keptIfSome (x0 : Nat) (x1 : Int32) (h : MH) (Q : Int32 → MH → Prop) : Prop := (x1 ≤ 0 → Q (x1) h) ∧ (¬ (x1 ≤ 0) → hS h x0 = (1, 9) ∧ ∃ a2, hR h x0 5 = some a2 ∧ ∃ a4, hR h x0 3 = some a4 ∧ hS h a2 = (1, 2) ∧ wX2_keep a2 a4 h (fun h8 => Q (x1) h8))
set_option maxHeartbeats 4000000 in
set_option maxRecDepth 100000 in
theorem gX9_keptIfSome (x0 : Nat) (x1 : Int32) (h : MH) (Q : Int32 → MH → Prop) (hw : wX9_keptIfSome x0 x1 h Q) : Cm MX9_keptIfSome 3 0 0 [.ref (x0), .int (x1)] h (pI Q) := by
  refine cm_of [some (.ref (x0)), some (.int (x1))] rfl pnX9 (Nat.le_of_ble_eq_true rfl) rfl ?_
  unfold wX9_keptIfSome at hw
  refine q_iload_n eX9_keptIfSome_0 rfl ?_
  obtain ⟨hw1, hw2⟩ := hw
  refine q_if_le (tgt := 15) eX9_keptIfSome_1 (by decide) (fun c => ?_) (fun c => ?_)
  · have hw := hw1 c
    refine q_iload_n eX9_keptIfSome_15 rfl ?_
    exact q_ret rfl eX9_keptIfSome_16 ⟨_, rfl, hw⟩
  · have hw := hw2 c
    refine q_aload_nr eX9_keptIfSome_4 rfl ?_
    obtain ⟨hs1, hw⟩ := hw
    obtain ⟨a2, hr3, hw⟩ := hw
    refine q_getR flX9_44 rfl hs1 hr3 eX9_keptIfSome_5 ?_
    refine q_aload_nr eX9_keptIfSome_8 rfl ?_
    obtain ⟨a4, hr5, hw⟩ := hw
    refine q_getR flX9_30 rfl hs1 hr5 eX9_keptIfSome_9 ?_
    obtain ⟨hs6, hw⟩ := hw
    refine q_callV (b := 0) (t := 0) (gX2_keep _ _ _ _ hw) mlX9_210 kX2_keep vX2_keep rfl hs6 ⟨rfl, rfl⟩ (by decide) rfl (Nat.le_of_ble_eq_true rfl) eX9_keptIfSome_12 (kV fun h8 hw => ?_)
    refine q_iload_n eX9_keptIfSome_15 rfl ?_
    exact q_ret rfl eX9_keptIfSome_16 ⟨_, rfl, hw⟩
def wX9_perform (x0 : Nat) (x1 : Int32) (h : MH) (Q : Int32 → MH → Prop) : Prop := wX9_isTray x1 h (fun r1 h2 => (¬ (r1 = 0) → hS h2 x0 = (1, 9) ∧ ∃ a4, hR h2 x0 9 = some a4 ∧ ∃ n7, hS h2 a4 = (7, n7) ∧ vp_in (x1) n7 ∧ ∃ a9, hR h2 a4 (x1).toNatClampNeg = some a9 ∧ hS h2 a9 = (1, 8) ∧ wX8_isMissing a9 h2 (fun r12 h13 => (r12 = 0 → hS h13 x0 = (1, 9) ∧ ∃ a15, hR h13 x0 3 = some a15 ∧ ∃ a17, hR h13 x0 2 = some a17 ∧ hS h13 a15 = (1, 6) ∧ wX6_copyFrom a15 a17 h13 (fun h21 => hS h21 x0 = (1, 9) ∧ ∃ a23, hR h21 x0 6 = some a23 ∧ ∃ a25, hR h21 x0 1 = some a25 ∧ ∃ a27, hR h21 x0 2 = some a27 ∧ ∃ a29, hR h21 x0 9 = some a29 ∧ ∃ n32, hS h21 a29 = (7, n32) ∧ vp_in (x1) n32 ∧ ∃ a34, hR h21 a29 (x1).toNatClampNeg = some a34 ∧ hS h21 a23 = (1, 7) ∧ wX7_doAll a23 a25 a27 a34 h21 (fun r37 h38 => hS h38 x0 = (1, 9) ∧ wX9_keptIfSome x0 r37 h38 (fun r40 h41 => Q (r40) h41)))) ∧ (¬ (r12 = 0) → Q ((-6 : Int32)) h13))) ∧ (r1 = 0 → Q ((-2 : Int32)) h2))
set_option maxHeartbeats 4000000 in
set_option maxRecDepth 100000 in
theorem gX9_perform (x0 : Nat) (x1 : Int32) (h : MH) (Q : Int32 → MH → Prop) (hw : wX9_perform x0 x1 h Q) : Cm MX9_perform 6 0 0 [.ref (x0), .int (x1)] h (pI Q) := by
  refine cm_of [some (.ref (x0)), some (.int (x1))] rfl pnX9 (Nat.le_of_ble_eq_true rfl) rfl ?_
  unfold wX9_perform at hw
  refine q_iload_n eX9_perform_0 rfl ?_
  refine q_callS (b := 0) (t := 0) (gX9_isTray _ _ _ hw) mlX9_220 kX9_isTray sX9_isTray rfl (by decide) rfl (Nat.le_of_ble_eq_true rfl) eX9_perform_1 (kI fun r1 h2 hw => ?_)
  obtain ⟨hw1, hw2⟩ := hw
  refine q_if_ne (tgt := 10) eX9_perform_4 (by decide) (fun c => ?_) (fun c => ?_)
  · have hw := hw1 c
    refine q_aload_nr eX9_perform_10 rfl ?_
    obtain ⟨hs3, hw⟩ := hw
    obtain ⟨a4, hr5, hw⟩ := hw
    refine q_getR flX9_73 rfl hs3 hr5 eX9_perform_11 ?_
    refine q_iload_n eX9_perform_14 rfl ?_
    obtain ⟨n7, hs6, hw⟩ := hw
    obtain ⟨hi8, hw⟩ := hw
    obtain ⟨a9, hr10, hw⟩ := hw
    refine q_aald (Or.inr (Or.inl rfl)) hs6 hi8 hr10 eX9_perform_15 ?_
    obtain ⟨hs11, hw⟩ := hw
    refine q_callV (b := 0) (t := 0) (gX8_isMissing _ _ _ hw) mlX9_223 kX8_isMissing vX8_isMissing rfl hs11 ⟨rfl, rfl⟩ (by decide) rfl (Nat.le_of_ble_eq_true rfl) eX9_perform_16 (kI fun r12 h13 hw => ?_)
    obtain ⟨hw1, hw2⟩ := hw
    refine q_if_eq (tgt := 25) eX9_perform_19 (by decide) (fun c => ?_) (fun c => ?_)
    · have hw := hw1 c
      refine q_aload_nr eX9_perform_25 rfl ?_
      obtain ⟨hs14, hw⟩ := hw
      obtain ⟨a15, hr16, hw⟩ := hw
      refine q_getR flX9_30 rfl hs14 hr16 eX9_perform_26 ?_
      refine q_aload_nr eX9_perform_29 rfl ?_
      obtain ⟨a17, hr18, hw⟩ := hw
      refine q_getR flX9_26 rfl hs14 hr18 eX9_perform_30 ?_
      obtain ⟨hs19, hw⟩ := hw
      refine q_callV (b := 0) (t := 0) (gX6_copyFrom _ _ _ _ hw) mlX9_181 kX6_copyFrom vX6_copyFrom rfl hs19 ⟨rfl, rfl⟩ (by decide) rfl (Nat.le_of_ble_eq_true rfl) eX9_perform_33 (kV fun h21 hw => ?_)
      refine q_aload_nr eX9_perform_36 rfl ?_
      refine q_aload_nr eX9_perform_37 rfl ?_
      obtain ⟨hs22, hw⟩ := hw
      obtain ⟨a23, hr24, hw⟩ := hw
      refine q_getR flX9_51 rfl hs22 hr24 eX9_perform_38 ?_
      refine q_aload_nr eX9_perform_41 rfl ?_
      obtain ⟨a25, hr26, hw⟩ := hw
      refine q_getR flX9_19 rfl hs22 hr26 eX9_perform_42 ?_
      refine q_aload_nr eX9_perform_45 rfl ?_
      obtain ⟨a27, hr28, hw⟩ := hw
      refine q_getR flX9_26 rfl hs22 hr28 eX9_perform_46 ?_
      refine q_aload_nr eX9_perform_49 rfl ?_
      obtain ⟨a29, hr30, hw⟩ := hw
      refine q_getR flX9_73 rfl hs22 hr30 eX9_perform_50 ?_
      refine q_iload_n eX9_perform_53 rfl ?_
      obtain ⟨n32, hs31, hw⟩ := hw
      obtain ⟨hi33, hw⟩ := hw
      obtain ⟨a34, hr35, hw⟩ := hw
      refine q_aald (Or.inr (Or.inl rfl)) hs31 hi33 hr35 eX9_perform_54 ?_
      obtain ⟨hs36, hw⟩ := hw
      refine q_callV (b := 0) (t := 0) (gX7_doAll _ _ _ _ _ _ hw) mlX9_227 kX7_doAll vX7_doAll rfl hs36 ⟨rfl, rfl⟩ (by decide) rfl (Nat.le_of_ble_eq_true rfl) eX9_perform_55 (kI fun r37 h38 hw => ?_)
      obtain ⟨hs39, hw⟩ := hw
      refine q_callV (b := 0) (t := 0) (gX9_keptIfSome _ _ _ _ hw) mlX9_243 kX9_keptIfSome vX9_keptIfSome rfl hs39 ⟨rfl, rfl⟩ (by decide) rfl (Nat.le_of_ble_eq_true rfl) eX9_perform_58 (kI fun r40 h41 hw => ?_)
      exact q_ret rfl eX9_perform_61 ⟨_, rfl, hw⟩
    · have hw := hw2 c
      refine q_bipush (v := (-6 : Int32)) eX9_perform_22 (by decide) ?_
      exact q_ret rfl eX9_perform_24 ⟨_, rfl, hw⟩
  · have hw := hw2 c
    refine q_bipush (v := (-2 : Int32)) eX9_perform_7 (by decide) ?_
    exact q_ret rfl eX9_perform_9 ⟨_, rfl, hw⟩
def wX9_year (x0 : Nat) (x1 : Int32) (x2 : Int32) (h : MH) (Q : Int32 → MH → Prop) : Prop := (x2 < nI 1 → Q ((-3 : Int32)) h) ∧ (¬ (x2 < nI 1) → (x2 ≤ nI 40 → hS h x0 = (1, 9) ∧ ∃ a2, hR h x0 3 = some a2 ∧ ∃ a4, hR h x0 2 = some a4 ∧ hS h a2 = (1, 6) ∧ wX6_copyFrom a2 a4 h (fun h8 => hS h8 x0 = (1, 9) ∧ ∃ a10, hR h8 x0 6 = some a10 ∧ ∃ a12, hR h8 x0 1 = some a12 ∧ ∃ a14, hR h8 x0 2 = some a14 ∧ hS h8 a10 = (1, 7) ∧ wX7_doYear a10 a12 a14 x1 x2 h8 (fun r17 h18 => hS h18 x0 = (1, 9) ∧ wX9_keptIfSome x0 r17 h18 (fun r20 h21 => Q (r20) h21)))) ∧ (¬ (x2 ≤ nI 40) → Q ((-3 : Int32)) h))
set_option maxHeartbeats 4000000 in
set_option maxRecDepth 100000 in
theorem gX9_year (x0 : Nat) (x1 : Int32) (x2 : Int32) (h : MH) (Q : Int32 → MH → Prop) (hw : wX9_year x0 x1 x2 h Q) : Cm MX9_year 6 0 0 [.ref (x0), .int (x1), .int (x2)] h (pI Q) := by
  refine cm_of [some (.ref (x0)), some (.int (x1)), some (.int (x2))] rfl pnX9 (Nat.le_of_ble_eq_true rfl) rfl ?_
  unfold wX9_year at hw
  refine q_iload_n eX9_year_0 rfl ?_
  refine q_iconst (v := nI 1) eX9_year_1 (by decide) ?_
  obtain ⟨hw1, hw2⟩ := hw
  refine q_icmp_lt (tgt := 11) eX9_year_2 (by decide) (fun c => ?_) (fun c => ?_)
  · have hw := hw1 c
    refine q_bipush (v := (-3 : Int32)) eX9_year_11 (by decide) ?_
    exact q_ret rfl eX9_year_13 ⟨_, rfl, hw⟩
  · have hw := hw2 c
    refine q_iload_n eX9_year_5 rfl ?_
    refine q_bipush (v := nI 40) eX9_year_6 (by decide) ?_
    obtain ⟨hw1, hw2⟩ := hw
    refine q_icmp_le (tgt := 14) eX9_year_8 (by decide) (fun c => ?_) (fun c => ?_)
    · have hw := hw1 c
      refine q_aload_nr eX9_year_14 rfl ?_
      obtain ⟨hs1, hw⟩ := hw
      obtain ⟨a2, hr3, hw⟩ := hw
      refine q_getR flX9_30 rfl hs1 hr3 eX9_year_15 ?_
      refine q_aload_nr eX9_year_18 rfl ?_
      obtain ⟨a4, hr5, hw⟩ := hw
      refine q_getR flX9_26 rfl hs1 hr5 eX9_year_19 ?_
      obtain ⟨hs6, hw⟩ := hw
      refine q_callV (b := 0) (t := 0) (gX6_copyFrom _ _ _ _ hw) mlX9_181 kX6_copyFrom vX6_copyFrom rfl hs6 ⟨rfl, rfl⟩ (by decide) rfl (Nat.le_of_ble_eq_true rfl) eX9_year_22 (kV fun h8 hw => ?_)
      refine q_aload_nr eX9_year_25 rfl ?_
      refine q_aload_nr eX9_year_26 rfl ?_
      obtain ⟨hs9, hw⟩ := hw
      obtain ⟨a10, hr11, hw⟩ := hw
      refine q_getR flX9_51 rfl hs9 hr11 eX9_year_27 ?_
      refine q_aload_nr eX9_year_30 rfl ?_
      obtain ⟨a12, hr13, hw⟩ := hw
      refine q_getR flX9_19 rfl hs9 hr13 eX9_year_31 ?_
      refine q_aload_nr eX9_year_34 rfl ?_
      obtain ⟨a14, hr15, hw⟩ := hw
      refine q_getR flX9_26 rfl hs9 hr15 eX9_year_35 ?_
      refine q_iload_n eX9_year_38 rfl ?_
      refine q_iload_n eX9_year_39 rfl ?_
      obtain ⟨hs16, hw⟩ := hw
      refine q_callV (b := 0) (t := 0) (gX7_doYear _ _ _ _ _ _ _ hw) mlX9_246 kX7_doYear vX7_doYear rfl hs16 ⟨rfl, rfl⟩ (by decide) rfl (Nat.le_of_ble_eq_true rfl) eX9_year_40 (kI fun r17 h18 hw => ?_)
      obtain ⟨hs19, hw⟩ := hw
      refine q_callV (b := 0) (t := 0) (gX9_keptIfSome _ _ _ _ hw) mlX9_243 kX9_keptIfSome vX9_keptIfSome rfl hs19 ⟨rfl, rfl⟩ (by decide) rfl (Nat.le_of_ble_eq_true rfl) eX9_year_43 (kI fun r20 h21 hw => ?_)
      exact q_ret rfl eX9_year_46 ⟨_, rfl, hw⟩
    · have hw := hw2 c
      refine q_bipush (v := (-3 : Int32)) eX9_year_11 (by decide) ?_
      exact q_ret rfl eX9_year_13 ⟨_, rfl, hw⟩
def wX9_isCover (x0 : Nat) (h : MH) (Q : Int32 → MH → Prop) : Prop := hS h x0 = (1, 9) ∧ ∃ a2, hR h x0 1 = some a2 ∧ ∃ a4, hR h x0 2 = some a4 ∧ hS h a2 = (1, 4) ∧ wX4_lacking a2 a4 (nI 1) h (fun r7 h8 => Q ((if r7 = 0 then nI 1 else nI 0)) h8)
set_option maxHeartbeats 4000000 in
set_option maxRecDepth 100000 in
theorem gX9_isCover (x0 : Nat) (h : MH) (Q : Int32 → MH → Prop) (hw : wX9_isCover x0 h Q) : Cm MX9_isCover 3 0 0 [.ref (x0)] h (pI Q) := by
  refine cm_of [some (.ref (x0))] rfl pnX9 (Nat.le_of_ble_eq_true rfl) rfl ?_
  unfold wX9_isCover at hw
  refine q_aload_nr eX9_isCover_0 rfl ?_
  obtain ⟨hs1, hw⟩ := hw
  obtain ⟨a2, hr3, hw⟩ := hw
  refine q_getR flX9_19 rfl hs1 hr3 eX9_isCover_1 ?_
  refine q_aload_nr eX9_isCover_4 rfl ?_
  obtain ⟨a4, hr5, hw⟩ := hw
  refine q_getR flX9_26 rfl hs1 hr5 eX9_isCover_5 ?_
  refine q_iconst (v := nI 1) eX9_isCover_8 (by decide) ?_
  obtain ⟨hs6, hw⟩ := hw
  refine q_callV (b := 0) (t := 0) (gX4_lacking _ _ _ _ _ hw) mlX9_250 kX4_lacking vX4_lacking rfl hs6 ⟨rfl, rfl⟩ (by decide) rfl (Nat.le_of_ble_eq_true rfl) eX9_isCover_9 (kI fun r7 h8 hw => ?_)
  have hj10 : Wm MX9_isCover 3 0 0 20 [some (.ref (x0))] [.int ((if r7 = 0 then nI 1 else nI 0))] h8 (pI Q) := by
    exact q_ret rfl eX9_isCover_20 ⟨_, rfl, hw⟩
  refine q_if_ne (tgt := 19) eX9_isCover_12 (by decide) (fun c => ?_) (fun c => ?_)
  · refine q_iconst (v := nI 0) eX9_isCover_19 (by decide) ?_
    rw [if_neg c] at hj10
    exact hj10
  · refine q_iconst (v := nI 1) eX9_isCover_15 (by decide) ?_
    refine q_goto (tgt := 20) eX9_isCover_16 (by decide) ?_
    rw [if_pos c] at hj10
    exact hj10
def wX9_cost_4 (Q : Int32 → MH → Prop) : Nat → Nat → Int32 → Int32 → MH → Prop
  | 0, _, _, _, _ => False
  | n + 1, x0, x1, x2, h => hS h x0 = (1, 9) ∧ ∃ a2, hR h x0 1 = some a2 ∧ hS h a2 = (1, 4) ∧ (hI h a2 10 ≤ x2 → Q (x1) h) ∧ (¬ (hI h a2 10 ≤ x2) → ∃ a5, hR h x0 2 = some a5 ∧ hS h a5 = (1, 6) ∧ ∃ a8, hR h a5 2 = some a8 ∧ ∃ n11, hS h a8 = (2, n11) ∧ vp_in (x2) n11 ∧ wX4_priceOf a2 x2 (hI h a5 0) h (fun r13 h14 => ∀ v15, v15 = (x1 + (hI h a8 (x2).toNatClampNeg * r13)) → wX9_cost_4 Q n x0 v15 (x2 + nI 1) h14))
set_option maxHeartbeats 4000000 in
set_option maxRecDepth 100000 in
theorem tX9_cost_4 {Q : Int32 → MH → Prop} : ∀ (n : Nat) (h : MH) (x0 : Nat) (x1 : Int32) (x2 : Int32), wX9_cost_4 Q n x0 x1 x2 h → Wm MX9_cost 1 0 0 4 [some (.ref (x0)), some (.int (x1)), some (.int (x2))] [] h (pI Q) := by
  intro n
  induction n with
  | zero => intro h x0 x1 x2 hw; exact hw.elim
  | succ n ih =>
    intro h x0 x1 x2 hw
    unfold wX9_cost_4 at hw
    refine q_iload_n eX9_cost_4 rfl ?_
    refine q_aload_nr eX9_cost_5 rfl ?_
    obtain ⟨hs1, hw⟩ := hw
    obtain ⟨a2, hr3, hw⟩ := hw
    refine q_getR flX9_19 rfl hs1 hr3 eX9_cost_6 ?_
    obtain ⟨hs4, hw⟩ := hw
    refine q_getI flX9_253 rfl hs4 eX9_cost_9 ?_
    obtain ⟨hw1, hw2⟩ := hw
    refine q_icmp_ge (tgt := 49) eX9_cost_12 (by decide) (fun c => ?_) (fun c => ?_)
    · have hw := hw1 c
      refine q_iload_n eX9_cost_49 rfl ?_
      exact q_ret rfl eX9_cost_50 ⟨_, rfl, hw⟩
    · have hw := hw2 c
      refine q_iload_n eX9_cost_15 rfl ?_
      refine q_aload_nr eX9_cost_16 rfl ?_
      obtain ⟨a5, hr6, hw⟩ := hw
      refine q_getR flX9_26 rfl hs1 hr6 eX9_cost_17 ?_
      obtain ⟨hs7, hw⟩ := hw
      obtain ⟨a8, hr9, hw⟩ := hw
      refine q_getR flX9_168 rfl hs7 hr9 eX9_cost_20 ?_
      refine q_iload_n eX9_cost_23 rfl ?_
      obtain ⟨n11, hs10, hw⟩ := hw
      obtain ⟨hi12, hw⟩ := hw
      refine q_iald hs10 hi12 eX9_cost_24 ?_
      refine q_aload_nr eX9_cost_25 rfl ?_
      refine q_getR flX9_19 rfl hs1 hr3 eX9_cost_26 ?_
      refine q_iload_n eX9_cost_29 rfl ?_
      refine q_aload_nr eX9_cost_30 rfl ?_
      refine q_getR flX9_26 rfl hs1 hr6 eX9_cost_31 ?_
      refine q_getI flX9_145 rfl hs7 eX9_cost_34 ?_
      refine q_callV (b := 0) (t := 0) (gX4_priceOf _ _ _ _ _ hw) mlX9_161 kX4_priceOf vX4_priceOf rfl hs4 ⟨rfl, rfl⟩ (by decide) rfl (Nat.le_of_ble_eq_true rfl) eX9_cost_37 (kI fun r13 h14 hw => ?_)
      refine q_imul eX9_cost_40 ?_
      refine q_iadd eX9_cost_41 ?_
      have hw := hw _ rfl
      refine x_istore_n (ls' := [_, _, _]) eX9_cost_42 (by decide) rfl rfl ?_
      refine x_iinc (v := (x2 + nI 1)) (ls' := [_, _, _]) eX9_cost_43 rfl rfl rfl rfl ?_
      refine q_goto (tgt := 4) eX9_cost_46 (by decide) ?_
      refine q_le (ls' := [some _, some _, some _]) ⟨rfl, rfl, rfl, trivial⟩ ?_
      exact ih _ _ _ _ hw
def wX9_cost (x0 : Nat) (h : MH) (Q : Int32 → MH → Prop) : Prop := ∃ m16, wX9_cost_4 Q m16 x0 (nI 0) (nI 0) h
set_option maxHeartbeats 4000000 in
set_option maxRecDepth 100000 in
theorem gX9_cost (x0 : Nat) (h : MH) (Q : Int32 → MH → Prop) (hw : wX9_cost x0 h Q) : Cm MX9_cost 1 0 0 [.ref (x0)] h (pI Q) := by
  refine cm_of [some (.ref (x0)), none, none] rfl pnX9 (Nat.le_of_ble_eq_true rfl) rfl ?_
  unfold wX9_cost at hw
  refine q_iconst (v := nI 0) eX9_cost_0 (by decide) ?_
  refine x_istore_n (ls' := [_, _, _]) eX9_cost_1 (by decide) rfl rfl ?_
  refine q_iconst (v := nI 0) eX9_cost_2 (by decide) ?_
  refine x_istore_n (ls' := [_, _, _]) eX9_cost_3 (by decide) rfl rfl ?_
  refine q_le (ls' := [some _, some _, some _]) ⟨rfl, rfl, rfl, trivial⟩ ?_
  obtain ⟨m16, hw⟩ := hw
  exact tX9_cost_4 m16 _ _ _ _ hw
def wX9_isAim (x0 : Int32) (h : MH) (Q : Int32 → MH → Prop) : Prop := ((if x0 = 0 then nI 1 else (if x0 = nI 1 then nI 1 else nI 0)) = 0 ∨ (if x0 = 0 then nI 1 else (if x0 = nI 1 then nI 1 else nI 0)) = 1) ∧ Q ((if x0 = 0 then nI 1 else (if x0 = nI 1 then nI 1 else nI 0))) h
set_option maxHeartbeats 4000000 in
set_option maxRecDepth 100000 in
theorem gX9_isAim (x0 : Int32) (h : MH) (Q : Int32 → MH → Prop) (hw : wX9_isAim x0 h Q) : Cm MX9_isAim 0 0 0 [.int (x0)] h (pI Q) := by
  refine cm_of [some (.int (x0))] rfl pnX9 (Nat.le_of_ble_eq_true rfl) rfl ?_
  unfold wX9_isAim at hw
  refine q_iload_n eX9_isAim_0 rfl ?_
  have hj3 : Wm MX9_isAim 0 0 0 14 [some (.int (x0))] [.int ((if x0 = 0 then nI 1 else (if x0 = nI 1 then nI 1 else nI 0)))] h (pI Q) := by
    obtain ⟨hz2, hw⟩ := hw
    exact q_retZ rfl hz2 eX9_isAim_14 ⟨_, rfl, hw⟩
  refine q_if_eq (tgt := 9) eX9_isAim_1 (by decide) (fun c => ?_) (fun c => ?_)
  · refine q_iconst (v := nI 1) eX9_isAim_9 (by decide) ?_
    refine q_goto (tgt := 14) eX9_isAim_10 (by decide) ?_
    rw [if_pos c] at hj3
    exact hj3
  · refine q_iload_n eX9_isAim_4 rfl ?_
    refine q_iconst (v := nI 1) eX9_isAim_5 (by decide) ?_
    have hj4 : Wm MX9_isAim 0 0 0 14 [some (.int (x0))] [.int ((if x0 = nI 1 then nI 1 else nI 0))] h (pI Q) := by
      rw [if_neg c] at hj3
      exact hj3
    refine q_icmp_ne (tgt := 13) eX9_isAim_6 (by decide) (fun c => ?_) (fun c => ?_)
    · refine q_iconst (v := nI 0) eX9_isAim_13 (by decide) ?_
      rw [if_neg c] at hj4
      exact hj4
    · refine q_iconst (v := nI 1) eX9_isAim_9 (by decide) ?_
      refine q_goto (tgt := 14) eX9_isAim_10 (by decide) ?_
      rw [if_pos c] at hj4
      exact hj4
def wX9_yet (b t : Nat) (x0 : Nat) (x1 : Int32) (x2 : Int32) (h : MH) (Q : Int32 → MH → Prop) : Prop := wX9_isAim x1 h (fun r1 h2 => (r1 = 0 → Q ((-2 : Int32)) h2) ∧ (¬ (r1 = 0) → (x2 < 0 → Q ((-2 : Int32)) h2) ∧ (¬ (x2 < 0) → (x2 ≤ nI 1 → hS h2 x0 = (1, 9) ∧ ∃ a4, hR h2 x0 7 = some a4 ∧ ∃ a6, hR h2 x0 1 = some a6 ∧ ∃ a8, hR h2 x0 2 = some a8 ∧ hS h2 a4 = (1, 0) ∧ 1 ≤ b ∧ 2048 ≤ t ∧ wX0_solve 1 2048 a4 a6 a8 x1 h2 (fun r13 h14 => (¬ (r13 = 0) → (¬ (x2 = 0) → hS h14 x0 = (1, 9) ∧ ∃ a16, hR h14 x0 7 = some a16 ∧ hS h14 a16 = (1, 0) ∧ Q (hI h14 a16 10) h14) ∧ (x2 = 0 → hS h14 x0 = (1, 9) ∧ ∃ a20, hR h14 x0 7 = some a20 ∧ hS h14 a20 = (1, 0) ∧ Q (hI h14 a20 11) h14)) ∧ (r13 = 0 → Q ((-1 : Int32)) h14))) ∧ (¬ (x2 ≤ nI 1) → Q ((-2 : Int32)) h2))))
set_option maxHeartbeats 4000000 in
set_option maxRecDepth 100000 in
theorem gX9_yet (b t : Nat) (x0 : Nat) (x1 : Int32) (x2 : Int32) (h : MH) (Q : Int32 → MH → Prop) (hw : wX9_yet b t x0 x1 x2 h Q) : Cm MX9_yet 303 b t [.ref (x0), .int (x1), .int (x2)] h (pI Q) := by
  refine cm_of [some (.ref (x0)), some (.int (x1)), some (.int (x2))] rfl pnX9 (Nat.le_of_ble_eq_true rfl) rfl ?_
  unfold wX9_yet at hw
  refine q_iload_n eX9_yet_0 rfl ?_
  refine q_bud (b' := b + 0) (t' := t + 0) (Nat.add_zero _) (Nat.add_zero _) ?_
  refine q_callS (b := b) (t := t) (gX9_isAim _ _ _ hw) mlX9_256 kX9_isAim sX9_isAim rfl (by decide) rfl (Nat.le_of_ble_eq_true rfl) eX9_yet_1 (kI fun r1 h2 hw => ?_)
  obtain ⟨hw1, hw2⟩ := hw
  refine q_if_eq (tgt := 16) eX9_yet_4 (by decide) (fun c => ?_) (fun c => ?_)
  · have hw := hw1 c
    refine q_bipush (v := (-2 : Int32)) eX9_yet_16 (by decide) ?_
    exact q_ret rfl eX9_yet_18 ⟨_, rfl, hw⟩
  · have hw := hw2 c
    refine q_iload_n eX9_yet_7 rfl ?_
    obtain ⟨hw1, hw2⟩ := hw
    refine q_if_lt (tgt := 16) eX9_yet_8 (by decide) (fun c => ?_) (fun c => ?_)
    · have hw := hw1 c
      refine q_bipush (v := (-2 : Int32)) eX9_yet_16 (by decide) ?_
      exact q_ret rfl eX9_yet_18 ⟨_, rfl, hw⟩
    · have hw := hw2 c
      refine q_iload_n eX9_yet_11 rfl ?_
      refine q_iconst (v := nI 1) eX9_yet_12 (by decide) ?_
      obtain ⟨hw1, hw2⟩ := hw
      refine q_icmp_le (tgt := 19) eX9_yet_13 (by decide) (fun c => ?_) (fun c => ?_)
      · have hw := hw1 c
        refine q_aload_nr eX9_yet_19 rfl ?_
        obtain ⟨hs3, hw⟩ := hw
        obtain ⟨a4, hr5, hw⟩ := hw
        refine q_getR flX9_58 rfl hs3 hr5 eX9_yet_20 ?_
        refine q_aload_nr eX9_yet_23 rfl ?_
        obtain ⟨a6, hr7, hw⟩ := hw
        refine q_getR flX9_19 rfl hs3 hr7 eX9_yet_24 ?_
        refine q_aload_nr eX9_yet_27 rfl ?_
        obtain ⟨a8, hr9, hw⟩ := hw
        refine q_getR flX9_26 rfl hs3 hr9 eX9_yet_28 ?_
        refine q_iload_n eX9_yet_31 rfl ?_
        obtain ⟨hs10, hw⟩ := hw
        obtain ⟨hc11, hc12, hw⟩ := hw
        refine q_bud (b' := (b - 1) + 1) (t' := (t - 2048) + 2048) (by omega) (by omega) ?_
        refine q_callV (b := (b - 1)) (t := (t - 2048)) (gX0_solve 1 2048 _ _ _ _ _ _ hw) mlX9_259 kX0_solve vX0_solve rfl hs10 ⟨rfl, rfl⟩ (by decide) rfl (Nat.le_of_ble_eq_true rfl) eX9_yet_32 (kI fun r13 h14 hw => ?_)
        obtain ⟨hw1, hw2⟩ := hw
        refine q_if_ne (tgt := 40) eX9_yet_35 (by decide) (fun c => ?_) (fun c => ?_)
        · have hw := hw1 c
          refine q_iload_n eX9_yet_40 rfl ?_
          obtain ⟨hw1, hw2⟩ := hw
          refine q_if_ne (tgt := 54) eX9_yet_41 (by decide) (fun c => ?_) (fun c => ?_)
          · have hw := hw1 c
            refine q_aload_nr eX9_yet_54 rfl ?_
            obtain ⟨hs15, hw⟩ := hw
            obtain ⟨a16, hr17, hw⟩ := hw
            refine q_getR flX9_58 rfl hs15 hr17 eX9_yet_55 ?_
            obtain ⟨hs18, hw⟩ := hw
            refine q_getI flX9_266 rfl hs18 eX9_yet_58 ?_
            exact q_ret rfl eX9_yet_61 ⟨_, rfl, hw⟩
          · have hw := hw2 c
            refine q_aload_nr eX9_yet_44 rfl ?_
            obtain ⟨hs19, hw⟩ := hw
            obtain ⟨a20, hr21, hw⟩ := hw
            refine q_getR flX9_58 rfl hs19 hr21 eX9_yet_45 ?_
            obtain ⟨hs22, hw⟩ := hw
            refine q_getI flX9_263 rfl hs22 eX9_yet_48 ?_
            refine q_goto (tgt := 61) eX9_yet_51 (by decide) ?_
            exact q_ret rfl eX9_yet_61 ⟨_, rfl, hw⟩
        · have hw := hw2 c
          refine q_iconst (v := (-1 : Int32)) eX9_yet_38 (by decide) ?_
          exact q_ret rfl eX9_yet_39 ⟨_, rfl, hw⟩
      · have hw := hw2 c
        refine q_bipush (v := (-2 : Int32)) eX9_yet_16 (by decide) ?_
        exact q_ret rfl eX9_yet_18 ⟨_, rfl, hw⟩
def wX9_among (b t : Nat) (x0 : Nat) (x1 : Int32) (x2 : Int32) (h : MH) (Q : Int32 → MH → Prop) : Prop := wX9_isAim x1 h (fun r1 h2 => (r1 = 0 → Q ((-2 : Int32)) h2) ∧ (¬ (r1 = 0) → hS h2 x0 = (1, 9) ∧ ∃ a4, hR h2 x0 1 = some a4 ∧ ∃ a6, hR h2 x0 2 = some a6 ∧ hS h2 a6 = (1, 6) ∧ hS h2 a4 = (1, 4) ∧ wX4_cycleOf a4 (hI h2 a6 0) x2 h2 (fun r10 h11 => (0 ≤ r10 → hS h11 x0 = (1, 9) ∧ ∃ a13, hR h11 x0 7 = some a13 ∧ ∃ a15, hR h11 x0 1 = some a15 ∧ ∃ a17, hR h11 x0 2 = some a17 ∧ hS h11 a13 = (1, 0) ∧ 1 ≤ b ∧ 2048 ≤ t ∧ wX0_solve 1 2048 a13 a15 a17 x1 h11 (fun r22 h23 => (r22 = 0 → Q ((-1 : Int32)) h23) ∧ (¬ (r22 = 0) → hS h23 x0 = (1, 9) ∧ ∃ a25, hR h23 x0 7 = some a25 ∧ hS h23 a25 = (1, 0) ∧ ∃ a28, hR h23 a25 9 = some a28 ∧ ∃ n31, hS h23 a28 = (2, n31) ∧ vp_in (x2) n31 ∧ Q (hI h23 a28 (x2).toNatClampNeg) h23))) ∧ (¬ (0 ≤ r10) → Q ((-2 : Int32)) h11))))
set_option maxHeartbeats 4000000 in
set_option maxRecDepth 100000 in
theorem gX9_among (b t : Nat) (x0 : Nat) (x1 : Int32) (x2 : Int32) (h : MH) (Q : Int32 → MH → Prop) (hw : wX9_among b t x0 x1 x2 h Q) : Cm MX9_among 303 b t [.ref (x0), .int (x1), .int (x2)] h (pI Q) := by
  refine cm_of [some (.ref (x0)), some (.int (x1)), some (.int (x2))] rfl pnX9 (Nat.le_of_ble_eq_true rfl) rfl ?_
  unfold wX9_among at hw
  refine q_iload_n eX9_among_0 rfl ?_
  refine q_bud (b' := b + 0) (t' := t + 0) (Nat.add_zero _) (Nat.add_zero _) ?_
  refine q_callS (b := b) (t := t) (gX9_isAim _ _ _ hw) mlX9_256 kX9_isAim sX9_isAim rfl (by decide) rfl (Nat.le_of_ble_eq_true rfl) eX9_among_1 (kI fun r1 h2 hw => ?_)
  obtain ⟨hw1, hw2⟩ := hw
  refine q_if_eq (tgt := 25) eX9_among_4 (by decide) (fun c => ?_) (fun c => ?_)
  · have hw := hw1 c
    refine q_bipush (v := (-2 : Int32)) eX9_among_25 (by decide) ?_
    exact q_ret rfl eX9_among_27 ⟨_, rfl, hw⟩
  · have hw := hw2 c
    refine q_aload_nr eX9_among_7 rfl ?_
    obtain ⟨hs3, hw⟩ := hw
    obtain ⟨a4, hr5, hw⟩ := hw
    refine q_getR flX9_19 rfl hs3 hr5 eX9_among_8 ?_
    refine q_aload_nr eX9_among_11 rfl ?_
    obtain ⟨a6, hr7, hw⟩ := hw
    refine q_getR flX9_26 rfl hs3 hr7 eX9_among_12 ?_
    obtain ⟨hs8, hw⟩ := hw
    refine q_getI flX9_145 rfl hs8 eX9_among_15 ?_
    refine q_iload_n eX9_among_18 rfl ?_
    obtain ⟨hs9, hw⟩ := hw
    refine q_bud (b' := b + 0) (t' := t + 0) (Nat.add_zero _) (Nat.add_zero _) ?_
    refine q_callV (b := b) (t := t) (gX4_cycleOf _ _ _ _ _ hw) mlX9_148 kX4_cycleOf vX4_cycleOf rfl hs9 ⟨rfl, rfl⟩ (by decide) rfl (Nat.le_of_ble_eq_true rfl) eX9_among_19 (kI fun r10 h11 hw => ?_)
    obtain ⟨hw1, hw2⟩ := hw
    refine q_if_ge (tgt := 28) eX9_among_22 (by decide) (fun c => ?_) (fun c => ?_)
    · have hw := hw1 c
      refine q_aload_nr eX9_among_28 rfl ?_
      obtain ⟨hs12, hw⟩ := hw
      obtain ⟨a13, hr14, hw⟩ := hw
      refine q_getR flX9_58 rfl hs12 hr14 eX9_among_29 ?_
      refine q_aload_nr eX9_among_32 rfl ?_
      obtain ⟨a15, hr16, hw⟩ := hw
      refine q_getR flX9_19 rfl hs12 hr16 eX9_among_33 ?_
      refine q_aload_nr eX9_among_36 rfl ?_
      obtain ⟨a17, hr18, hw⟩ := hw
      refine q_getR flX9_26 rfl hs12 hr18 eX9_among_37 ?_
      refine q_iload_n eX9_among_40 rfl ?_
      obtain ⟨hs19, hw⟩ := hw
      obtain ⟨hc20, hc21, hw⟩ := hw
      refine q_bud (b' := (b - 1) + 1) (t' := (t - 2048) + 2048) (by omega) (by omega) ?_
      refine q_callV (b := (b - 1)) (t := (t - 2048)) (gX0_solve 1 2048 _ _ _ _ _ _ hw) mlX9_259 kX0_solve vX0_solve rfl hs19 ⟨rfl, rfl⟩ (by decide) rfl (Nat.le_of_ble_eq_true rfl) eX9_among_41 (kI fun r22 h23 hw => ?_)
      obtain ⟨hw1, hw2⟩ := hw
      refine q_if_eq (tgt := 59) eX9_among_44 (by decide) (fun c => ?_) (fun c => ?_)
      · have hw := hw1 c
        refine q_iconst (v := (-1 : Int32)) eX9_among_59 (by decide) ?_
        exact q_ret rfl eX9_among_60 ⟨_, rfl, hw⟩
      · have hw := hw2 c
        refine q_aload_nr eX9_among_47 rfl ?_
        obtain ⟨hs24, hw⟩ := hw
        obtain ⟨a25, hr26, hw⟩ := hw
        refine q_getR flX9_58 rfl hs24 hr26 eX9_among_48 ?_
        obtain ⟨hs27, hw⟩ := hw
        obtain ⟨a28, hr29, hw⟩ := hw
        refine q_getR flX9_269 rfl hs27 hr29 eX9_among_51 ?_
        refine q_iload_n eX9_among_54 rfl ?_
        obtain ⟨n31, hs30, hw⟩ := hw
        obtain ⟨hi32, hw⟩ := hw
        refine q_iald hs30 hi32 eX9_among_55 ?_
        refine q_goto (tgt := 60) eX9_among_56 (by decide) ?_
        exact q_ret rfl eX9_among_60 ⟨_, rfl, hw⟩
    · have hw := hw2 c
      refine q_bipush (v := (-2 : Int32)) eX9_among_25 (by decide) ?_
      exact q_ret rfl eX9_among_27 ⟨_, rfl, hw⟩
def wX9_bound (x0 : Nat) (x1 : Int32) (h : MH) (Q : Int64 → MH → Prop) : Prop := (x1 < 0 → Q ((-2 : Int64)) h) ∧ (¬ (x1 < 0) → (x1 ≤ nI 1 → hS h x0 = (1, 9) ∧ ∃ a2, hR h x0 7 = some a2 ∧ ∃ a4, hR h x0 1 = some a4 ∧ ∃ a6, hR h x0 2 = some a6 ∧ hS h a6 = (1, 6) ∧ ∃ a9, hR h x0 8 = some a9 ∧ hS h a2 = (1, 0) ∧ wX0_tellBound a2 a4 (hI h a6 0) a9 h (fun r12 h13 => (¬ (r12 = 0) → hS h13 x0 = (1, 9) ∧ ∃ a15, hR h13 x0 8 = some a15 ∧ hS h13 a15 = (1, 1) ∧ wX1_part a15 x1 h13 (fun r18 h19 => Q (r18) h19)) ∧ (r12 = 0 → Q ((-1 : Int64)) h13))) ∧ (¬ (x1 ≤ nI 1) → Q ((-2 : Int64)) h))
set_option maxHeartbeats 4000000 in
set_option maxRecDepth 100000 in
theorem gX9_bound (x0 : Nat) (x1 : Int32) (h : MH) (Q : Int64 → MH → Prop) (hw : wX9_bound x0 x1 h Q) : Cm MX9_bound 5 0 0 [.ref (x0), .int (x1)] h (pL Q) := by
  refine cm_of [some (.ref (x0)), some (.int (x1))] rfl pnX9 (Nat.le_of_ble_eq_true rfl) rfl ?_
  unfold wX9_bound at hw
  refine q_iload_n eX9_bound_0 rfl ?_
  obtain ⟨hw1, hw2⟩ := hw
  refine q_if_lt (tgt := 9) eX9_bound_1 (by decide) (fun c => ?_) (fun c => ?_)
  · have hw := hw1 c
    refine q_ldc2 coX9_272 eX9_bound_9 ?_
    exact q_retL rfl eX9_bound_12 ⟨_, rfl, hw⟩
  · have hw := hw2 c
    refine q_iload_n eX9_bound_4 rfl ?_
    refine q_iconst (v := nI 1) eX9_bound_5 (by decide) ?_
    obtain ⟨hw1, hw2⟩ := hw
    refine q_icmp_le (tgt := 13) eX9_bound_6 (by decide) (fun c => ?_) (fun c => ?_)
    · have hw := hw1 c
      refine q_aload_nr eX9_bound_13 rfl ?_
      obtain ⟨hs1, hw⟩ := hw
      obtain ⟨a2, hr3, hw⟩ := hw
      refine q_getR flX9_58 rfl hs1 hr3 eX9_bound_14 ?_
      refine q_aload_nr eX9_bound_17 rfl ?_
      obtain ⟨a4, hr5, hw⟩ := hw
      refine q_getR flX9_19 rfl hs1 hr5 eX9_bound_18 ?_
      refine q_aload_nr eX9_bound_21 rfl ?_
      obtain ⟨a6, hr7, hw⟩ := hw
      refine q_getR flX9_26 rfl hs1 hr7 eX9_bound_22 ?_
      obtain ⟨hs8, hw⟩ := hw
      refine q_getI flX9_145 rfl hs8 eX9_bound_25 ?_
      refine q_aload_nr eX9_bound_28 rfl ?_
      obtain ⟨a9, hr10, hw⟩ := hw
      refine q_getR flX9_65 rfl hs1 hr10 eX9_bound_29 ?_
      obtain ⟨hs11, hw⟩ := hw
      refine q_callV (b := 0) (t := 0) (gX0_tellBound _ _ _ _ _ _ hw) mlX9_274 kX0_tellBound vX0_tellBound rfl hs11 ⟨rfl, rfl⟩ (by decide) rfl (Nat.le_of_ble_eq_true rfl) eX9_bound_32 (kI fun r12 h13 hw => ?_)
      obtain ⟨hw1, hw2⟩ := hw
      refine q_if_ne (tgt := 42) eX9_bound_35 (by decide) (fun c => ?_) (fun c => ?_)
      · have hw := hw1 c
        refine q_aload_nr eX9_bound_42 rfl ?_
        obtain ⟨hs14, hw⟩ := hw
        obtain ⟨a15, hr16, hw⟩ := hw
        refine q_getR flX9_65 rfl hs14 hr16 eX9_bound_43 ?_
        refine q_iload_n eX9_bound_46 rfl ?_
        obtain ⟨hs17, hw⟩ := hw
        refine q_callV (b := 0) (t := 0) (gX1_part _ _ _ _ hw) mlX9_280 kX1_part vX1_part rfl hs17 ⟨rfl, rfl⟩ (by decide) rfl (Nat.le_of_ble_eq_true rfl) eX9_bound_47 (kL fun r18 h19 hw => ?_)
        exact q_retL rfl eX9_bound_50 ⟨_, rfl, hw⟩
      · have hw := hw2 c
        refine q_ldc2 coX9_278 eX9_bound_38 ?_
        exact q_retL rfl eX9_bound_41 ⟨_, rfl, hw⟩
    · have hw := hw2 c
      refine q_ldc2 coX9_272 eX9_bound_9 ?_
      exact q_retL rfl eX9_bound_12 ⟨_, rfl, hw⟩
def wX9_covers (x0 : Nat) (x1 : Int32) (h : MH) (Q : Int32 → MH → Prop) : Prop := (x1 < 0 → Q ((-3 : Int32)) h) ∧ (¬ (x1 < 0) → (x1 ≤ nI 3 → hS h x0 = (1, 9) ∧ ∃ a2, hR h x0 7 = some a2 ∧ ∃ a4, hR h x0 1 = some a4 ∧ ∃ a6, hR h x0 2 = some a6 ∧ hS h a6 = (1, 6) ∧ hS h a2 = (1, 0) ∧ wX0_countWays a2 a4 (hI h a6 0) x1 h (fun r10 h11 => Q (r10) h11)) ∧ (¬ (x1 ≤ nI 3) → Q ((-3 : Int32)) h))
set_option maxHeartbeats 4000000 in
set_option maxRecDepth 100000 in
theorem gX9_covers (x0 : Nat) (x1 : Int32) (h : MH) (Q : Int32 → MH → Prop) (hw : wX9_covers x0 x1 h Q) : Cm MX9_covers 302 0 0 [.ref (x0), .int (x1)] h (pI Q) := by
  refine cm_of [some (.ref (x0)), some (.int (x1))] rfl pnX9 (Nat.le_of_ble_eq_true rfl) rfl ?_
  unfold wX9_covers at hw
  refine q_iload_n eX9_covers_0 rfl ?_
  obtain ⟨hw1, hw2⟩ := hw
  refine q_if_lt (tgt := 9) eX9_covers_1 (by decide) (fun c => ?_) (fun c => ?_)
  · have hw := hw1 c
    refine q_bipush (v := (-3 : Int32)) eX9_covers_9 (by decide) ?_
    exact q_ret rfl eX9_covers_11 ⟨_, rfl, hw⟩
  · have hw := hw2 c
    refine q_iload_n eX9_covers_4 rfl ?_
    refine q_iconst (v := nI 3) eX9_covers_5 (by decide) ?_
    obtain ⟨hw1, hw2⟩ := hw
    refine q_icmp_le (tgt := 12) eX9_covers_6 (by decide) (fun c => ?_) (fun c => ?_)
    · have hw := hw1 c
      refine q_aload_nr eX9_covers_12 rfl ?_
      obtain ⟨hs1, hw⟩ := hw
      obtain ⟨a2, hr3, hw⟩ := hw
      refine q_getR flX9_58 rfl hs1 hr3 eX9_covers_13 ?_
      refine q_aload_nr eX9_covers_16 rfl ?_
      obtain ⟨a4, hr5, hw⟩ := hw
      refine q_getR flX9_19 rfl hs1 hr5 eX9_covers_17 ?_
      refine q_aload_nr eX9_covers_20 rfl ?_
      obtain ⟨a6, hr7, hw⟩ := hw
      refine q_getR flX9_26 rfl hs1 hr7 eX9_covers_21 ?_
      obtain ⟨hs8, hw⟩ := hw
      refine q_getI flX9_145 rfl hs8 eX9_covers_24 ?_
      refine q_iload_n eX9_covers_27 rfl ?_
      obtain ⟨hs9, hw⟩ := hw
      refine q_callV (b := 0) (t := 0) (gX0_countWays _ _ _ _ _ _ hw) mlX9_284 kX0_countWays vX0_countWays rfl hs9 ⟨rfl, rfl⟩ (by decide) rfl (Nat.le_of_ble_eq_true rfl) eX9_covers_28 (kI fun r10 h11 hw => ?_)
      exact q_ret rfl eX9_covers_31 ⟨_, rfl, hw⟩
    · have hw := hw2 c
      refine q_bipush (v := (-3 : Int32)) eX9_covers_9 (by decide) ?_
      exact q_ret rfl eX9_covers_11 ⟨_, rfl, hw⟩
def wX9_best (x0 : Nat) (h : MH) (Q : Int32 → MH → Prop) : Prop := hS h x0 = (1, 9) ∧ ∃ a2, hR h x0 7 = some a2 ∧ ∃ a4, hR h x0 1 = some a4 ∧ ∃ a6, hR h x0 2 = some a6 ∧ hS h a6 = (1, 6) ∧ hS h a2 = (1, 0) ∧ wX0_bestFor a2 a4 (hI h a6 0) (-1 : Int32) h (fun r10 h11 => Q (r10) h11)
set_option maxHeartbeats 4000000 in
set_option maxRecDepth 100000 in
theorem gX9_best (x0 : Nat) (h : MH) (Q : Int32 → MH → Prop) (hw : wX9_best x0 h Q) : Cm MX9_best 4 0 0 [.ref (x0)] h (pI Q) := by
  refine cm_of [some (.ref (x0))] rfl pnX9 (Nat.le_of_ble_eq_true rfl) rfl ?_
  unfold wX9_best at hw
  refine q_aload_nr eX9_best_0 rfl ?_
  obtain ⟨hs1, hw⟩ := hw
  obtain ⟨a2, hr3, hw⟩ := hw
  refine q_getR flX9_58 rfl hs1 hr3 eX9_best_1 ?_
  refine q_aload_nr eX9_best_4 rfl ?_
  obtain ⟨a4, hr5, hw⟩ := hw
  refine q_getR flX9_19 rfl hs1 hr5 eX9_best_5 ?_
  refine q_aload_nr eX9_best_8 rfl ?_
  obtain ⟨a6, hr7, hw⟩ := hw
  refine q_getR flX9_26 rfl hs1 hr7 eX9_best_9 ?_
  obtain ⟨hs8, hw⟩ := hw
  refine q_getI flX9_145 rfl hs8 eX9_best_12 ?_
  refine q_iconst (v := (-1 : Int32)) eX9_best_15 (by decide) ?_
  obtain ⟨hs9, hw⟩ := hw
  refine q_callV (b := 0) (t := 0) (gX0_bestFor _ _ _ _ _ _ hw) mlX9_288 kX0_bestFor vX0_bestFor rfl hs9 ⟨rfl, rfl⟩ (by decide) rfl (Nat.le_of_ble_eq_true rfl) eX9_best_16 (kI fun r10 h11 hw => ?_)
  exact q_ret rfl eX9_best_19 ⟨_, rfl, hw⟩
def wX9_spare_128 (Q : Int32 → MH → Prop) (K57 : Nat → Nat → Int32 → Int32 → Int32 → MH → Prop) (x0 : Nat) (x1 : Nat) (x3 : Int32) (x4 : Int32) (x5 : Int32) (s0 : Int32) (s1 : Int32) (h : MH) : Prop := hS h x1 = (1, 6) ∧ ∃ a57, hR h x1 2 = some a57 ∧ ∃ n60, hS h a57 = (2, n60) ∧ vp_in (x5) n60 ∧ vp_in (x5) n60 ∧ ∀ h63, h63 = sI h a57 (x5).toNatClampNeg ((hI h a57 (x5).toNatClampNeg + nI 1)) → K57 x0 x1 (s1 ||| s0) x3 (x4 + nI 1) h63
set_option maxHeartbeats 4000000 in
set_option maxRecDepth 100000 in
theorem tX9_spare_128 {Q : Int32 → MH → Prop} {K57 : Nat → Nat → Int32 → Int32 → Int32 → MH → Prop} (hK57 : ∀ (h : MH) (x0 : Nat) (x1 : Nat) (x2 : Int32) (x3 : Int32) (x4 : Int32), K57 x0 x1 x2 x3 x4 h → Wm MX9_spare 3 0 0 57 [some (.ref (x0)), some (.ref (x1)), some (.int (x2)), some (.int (x3)), some (.int (x4)), none] [] h (pI Q)) (h : MH) (x0 : Nat) (x1 : Nat) (x3 : Int32) (x4 : Int32) (x5 : Int32) (s0 : Int32) (s1 : Int32) (hw : wX9_spare_128 Q K57 x0 x1 x3 x4 x5 s0 s1 h) : Wm MX9_spare 3 0 0 128 [some (.ref (x0)), some (.ref (x1)), none, some (.int (x3)), some (.int (x4)), some (.int (x5))] [.int (s0), .int (s1)] h (pI Q) := by
  unfold wX9_spare_128 at hw
  refine q_ior eX9_spare_128 ?_
  refine x_istore_n (ls' := [_, _, _, _, _, _]) eX9_spare_129 (by decide) rfl rfl ?_
  refine q_aload_nr eX9_spare_130 rfl ?_
  obtain ⟨hs56, hw⟩ := hw
  obtain ⟨a57, hr58, hw⟩ := hw
  refine q_getR flX9_168 rfl hs56 hr58 eX9_spare_131 ?_
  refine q_iload eX9_spare_134 rfl ?_
  refine q_dup2 eX9_spare_136 rfl rfl ?_
  obtain ⟨n60, hs59, hw⟩ := hw
  obtain ⟨hi61, hw⟩ := hw
  refine q_iald hs59 hi61 eX9_spare_137 ?_
  refine q_iconst (v := nI 1) eX9_spare_138 (by decide) ?_
  refine q_iadd eX9_spare_139 ?_
  obtain ⟨hi62, hw⟩ := hw
  have hw := hw _ rfl
  refine q_iast hs59 hi62 eX9_spare_140 ?_
  refine x_iinc (v := (x4 + nI 1)) (ls' := [_, _, _, _, _, _]) eX9_spare_141 rfl rfl rfl rfl ?_
  refine q_goto (tgt := 57) eX9_spare_144 (by decide) ?_
  refine q_le (ls' := [some _, some _, some _, some _, some _, none]) ⟨rfl, rfl, rfl, rfl, rfl, trivial⟩ ?_
  exact hK57 _ _ _ _ _ _ hw
def wX9_spare_57 (Q : Int32 → MH → Prop) : Nat → Nat → Nat → Int32 → Int32 → Int32 → MH → Prop
  | 0, _, _, _, _, _, _ => False
  | n + 1, x0, x1, x2, x3, x4, h => (x3 ≤ x4 → Q (x2) h) ∧ (¬ (x3 ≤ x4) → hS h x0 = (1, 9) ∧ ∃ a32, hR h x0 1 = some a32 ∧ ∃ a34, hR h x0 2 = some a34 ∧ hS h a34 = (1, 6) ∧ hS h a32 = (1, 4) ∧ wX4_cycleOf a32 (hI h a34 0) x4 h (fun r38 h39 => (r38 < 0 → wX9_spare_57 Q n x0 x1 x2 x3 (x4 + nI 1) h39) ∧ (¬ (r38 < 0) → hS h39 x1 = (1, 6) ∧ ∃ a41, hR h39 x1 2 = some a41 ∧ ∃ n44, hS h39 a41 = (2, n44) ∧ vp_in (r38) n44 ∧ (hI h39 a41 (r38).toNatClampNeg ≤ 0 → wX9_spare_57 Q n x0 x1 x2 x3 (x4 + nI 1) h39) ∧ (¬ (hI h39 a41 (r38).toNatClampNeg ≤ 0) → vp_in (r38) n44 ∧ vp_in (r38) n44 ∧ ∀ h48, h48 = sI h39 a41 (r38).toNatClampNeg ((hI h39 a41 (r38).toNatClampNeg - nI 1)) → hS h48 x0 = (1, 9) ∧ ∃ a50, hR h48 x0 1 = some a50 ∧ hS h48 a50 = (1, 4) ∧ wX4_lacking a50 x1 (nI 1) h48 (fun r53 h54 => wX9_spare_128 Q (wX9_spare_57 Q n) x0 x1 x3 x4 r38 (if r53 = 0 then (nI 1 <<< (x4 &&& 31)) else nI 0) x2 h54)))))
set_option maxHeartbeats 4000000 in
set_option maxRecDepth 100000 in
theorem tX9_spare_57 {Q : Int32 → MH → Prop} : ∀ (n : Nat) (h : MH) (x0 : Nat) (x1 : Nat) (x2 : Int32) (x3 : Int32) (x4 : Int32), wX9_spare_57 Q n x0 x1 x2 x3 x4 h → Wm MX9_spare 3 0 0 57 [some (.ref (x0)), some (.ref (x1)), some (.int (x2)), some (.int (x3)), some (.int (x4)), none] [] h (pI Q) := by
  intro n
  induction n with
  | zero => intro h x0 x1 x2 x3 x4 hw; exact hw.elim
  | succ n ih =>
    intro h x0 x1 x2 x3 x4 hw
    unfold wX9_spare_57 at hw
    refine q_iload eX9_spare_57 rfl ?_
    refine q_iload_n eX9_spare_59 rfl ?_
    obtain ⟨hw1, hw2⟩ := hw
    refine q_icmp_ge (tgt := 147) eX9_spare_60 (by decide) (fun c => ?_) (fun c => ?_)
    · have hw := hw1 c
      refine q_iload_n eX9_spare_147 rfl ?_
      exact q_ret rfl eX9_spare_148 ⟨_, rfl, hw⟩
    · have hw := hw2 c
      refine q_aload_nr eX9_spare_63 rfl ?_
      obtain ⟨hs31, hw⟩ := hw
      obtain ⟨a32, hr33, hw⟩ := hw
      refine q_getR flX9_19 rfl hs31 hr33 eX9_spare_64 ?_
      refine q_aload_nr eX9_spare_67 rfl ?_
      obtain ⟨a34, hr35, hw⟩ := hw
      refine q_getR flX9_26 rfl hs31 hr35 eX9_spare_68 ?_
      obtain ⟨hs36, hw⟩ := hw
      refine q_getI flX9_145 rfl hs36 eX9_spare_71 ?_
      refine q_iload eX9_spare_74 rfl ?_
      obtain ⟨hs37, hw⟩ := hw
      refine q_callV (b := 0) (t := 0) (gX4_cycleOf _ _ _ _ _ hw) mlX9_148 kX4_cycleOf vX4_cycleOf rfl hs37 ⟨rfl, rfl⟩ (by decide) rfl (Nat.le_of_ble_eq_true rfl) eX9_spare_76 (kI fun r38 h39 hw => ?_)
      refine x_istore (ls' := [_, _, _, _, _, _]) eX9_spare_79 (by decide) rfl rfl ?_
      refine q_iload eX9_spare_81 rfl ?_
      obtain ⟨hw1, hw2⟩ := hw
      refine q_if_lt (tgt := 141) eX9_spare_83 (by decide) (fun c => ?_) (fun c => ?_)
      · have hw := hw1 c
        refine x_iinc (v := (x4 + nI 1)) (ls' := [_, _, _, _, _, _]) eX9_spare_141 rfl rfl rfl rfl ?_
        refine q_goto (tgt := 57) eX9_spare_144 (by decide) ?_
        refine q_le (ls' := [some _, some _, some _, some _, some _, none]) ⟨rfl, rfl, rfl, rfl, rfl, trivial⟩ ?_
        exact ih _ _ _ _ _ _ hw
      · have hw := hw2 c
        refine q_aload_nr eX9_spare_86 rfl ?_
        obtain ⟨hs40, hw⟩ := hw
        obtain ⟨a41, hr42, hw⟩ := hw
        refine q_getR flX9_168 rfl hs40 hr42 eX9_spare_87 ?_
        refine q_iload eX9_spare_90 rfl ?_
        obtain ⟨n44, hs43, hw⟩ := hw
        obtain ⟨hi45, hw⟩ := hw
        refine q_iald hs43 hi45 eX9_spare_92 ?_
        obtain ⟨hw1, hw2⟩ := hw
        refine q_if_le (tgt := 141) eX9_spare_93 (by decide) (fun c => ?_) (fun c => ?_)
        · have hw := hw1 c
          refine x_iinc (v := (x4 + nI 1)) (ls' := [_, _, _, _, _, _]) eX9_spare_141 rfl rfl rfl rfl ?_
          refine q_goto (tgt := 57) eX9_spare_144 (by decide) ?_
          refine q_le (ls' := [some _, some _, some _, some _, some _, none]) ⟨rfl, rfl, rfl, rfl, rfl, trivial⟩ ?_
          exact ih _ _ _ _ _ _ hw
        · have hw := hw2 c
          refine q_aload_nr eX9_spare_96 rfl ?_
          refine q_getR flX9_168 rfl hs40 hr42 eX9_spare_97 ?_
          refine q_iload eX9_spare_100 rfl ?_
          refine q_dup2 eX9_spare_102 rfl rfl ?_
          obtain ⟨hi46, hw⟩ := hw
          refine q_iald hs43 hi46 eX9_spare_103 ?_
          refine q_iconst (v := nI 1) eX9_spare_104 (by decide) ?_
          refine q_isub eX9_spare_105 ?_
          obtain ⟨hi47, hw⟩ := hw
          have hw := hw _ rfl
          refine q_iast hs43 hi47 eX9_spare_106 ?_
          refine q_iload_n eX9_spare_107 rfl ?_
          refine q_aload_nr eX9_spare_108 rfl ?_
          obtain ⟨hs49, hw⟩ := hw
          obtain ⟨a50, hr51, hw⟩ := hw
          refine q_getR flX9_19 rfl hs49 hr51 eX9_spare_109 ?_
          refine q_aload_nr eX9_spare_112 rfl ?_
          refine q_iconst (v := nI 1) eX9_spare_113 (by decide) ?_
          obtain ⟨hs52, hw⟩ := hw
          refine q_callV (b := 0) (t := 0) (gX4_lacking _ _ _ _ _ hw) mlX9_250 kX4_lacking vX4_lacking rfl hs52 ⟨rfl, rfl⟩ (by decide) rfl (Nat.le_of_ble_eq_true rfl) eX9_spare_114 (kI fun r53 h54 hw => ?_)
          have hj64 : Wm MX9_spare 3 0 0 128 [some (.ref (x0)), some (.ref (x1)), some (.int (x2)), some (.int (x3)), some (.int (x4)), some (.int (r38))] [.int ((if r53 = 0 then (nI 1 <<< (x4 &&& 31)) else nI 0)), .int (x2)] h54 (pI Q) := by
            refine q_le (ls' := [some _, some _, none, some _, some _, some _]) ⟨rfl, rfl, rfl, rfl, rfl, trivial⟩ ?_
            exact tX9_spare_128 ih _ _ _ _ _ _ _ _ hw
          refine q_if_ne (tgt := 127) eX9_spare_117 (by decide) (fun c => ?_) (fun c => ?_)
          · refine q_iconst (v := nI 0) eX9_spare_127 (by decide) ?_
            rw [if_neg c] at hj64
            exact hj64
          · refine q_iconst (v := nI 1) eX9_spare_120 (by decide) ?_
            refine q_iload eX9_spare_121 rfl ?_
            refine q_ishl eX9_spare_123 ?_
            refine q_goto (tgt := 128) eX9_spare_124 (by decide) ?_
            rw [if_pos c] at hj64
            exact hj64
def wX9_spare (x0 : Nat) (h : MH) (Q : Int32 → MH → Prop) : Prop := hS h x0 = (1, 9) ∧ ∃ a2, hR h x0 1 = some a2 ∧ ∃ a4, hR h x0 2 = some a4 ∧ hS h a2 = (1, 4) ∧ wX4_lacking a2 a4 (nI 1) h (fun r7 h8 => (r7 = 0 → hS h8 x0 = (1, 9) ∧ ∃ a10, hR h8 x0 4 = some a10 ∧ ∃ n13, hS h8 a10 = (6, n13) ∧ vp_in (nI 0) n13 ∧ ∃ a15, hR h8 a10 (nI 0).toNatClampNeg = some a15 ∧ ∃ a17, hR h8 x0 2 = some a17 ∧ hS h8 a15 = (1, 6) ∧ wX6_copyFrom a15 a17 h8 (fun h21 => hS h21 x0 = (1, 9) ∧ ∃ a23, hR h21 x0 1 = some a23 ∧ ∃ a25, hR h21 x0 2 = some a25 ∧ hS h21 a25 = (1, 6) ∧ hS h21 a23 = (1, 4) ∧ wX4_ringCount a23 (hI h21 a25 0) h21 (fun r29 h30 => ∃ m65, wX9_spare_57 Q m65 x0 a15 (nI 0) (if nI 31 < r29 then nI 31 else r29) (nI 0) h30))) ∧ (¬ (r7 = 0) → Q (nI 0) h8))
set_option maxHeartbeats 4000000 in
set_option maxRecDepth 100000 in
theorem gX9_spare (x0 : Nat) (h : MH) (Q : Int32 → MH → Prop) (hw : wX9_spare x0 h Q) : Cm MX9_spare 3 0 0 [.ref (x0)] h (pI Q) := by
  refine cm_of [some (.ref (x0)), none, none, none, none, none] rfl pnX9 (Nat.le_of_ble_eq_true rfl) rfl ?_
  unfold wX9_spare at hw
  refine q_aload_nr eX9_spare_0 rfl ?_
  obtain ⟨hs1, hw⟩ := hw
  obtain ⟨a2, hr3, hw⟩ := hw
  refine q_getR flX9_19 rfl hs1 hr3 eX9_spare_1 ?_
  refine q_aload_nr eX9_spare_4 rfl ?_
  obtain ⟨a4, hr5, hw⟩ := hw
  refine q_getR flX9_26 rfl hs1 hr5 eX9_spare_5 ?_
  refine q_iconst (v := nI 1) eX9_spare_8 (by decide) ?_
  obtain ⟨hs6, hw⟩ := hw
  refine q_callV (b := 0) (t := 0) (gX4_lacking _ _ _ _ _ hw) mlX9_250 kX4_lacking vX4_lacking rfl hs6 ⟨rfl, rfl⟩ (by decide) rfl (Nat.le_of_ble_eq_true rfl) eX9_spare_9 (kI fun r7 h8 hw => ?_)
  obtain ⟨hw1, hw2⟩ := hw
  refine q_if_eq (tgt := 17) eX9_spare_12 (by decide) (fun c => ?_) (fun c => ?_)
  · have hw := hw1 c
    refine q_aload_nr eX9_spare_17 rfl ?_
    obtain ⟨hs9, hw⟩ := hw
    obtain ⟨a10, hr11, hw⟩ := hw
    refine q_getR flX9_37 rfl hs9 hr11 eX9_spare_18 ?_
    refine q_iconst (v := nI 0) eX9_spare_21 (by decide) ?_
    obtain ⟨n13, hs12, hw⟩ := hw
    obtain ⟨hi14, hw⟩ := hw
    obtain ⟨a15, hr16, hw⟩ := hw
    refine q_aald (Or.inl rfl) hs12 hi14 hr16 eX9_spare_22 ?_
    refine x_astore_nr (ls' := [_, _, _, _, _, _]) eX9_spare_23 (by decide) rfl rfl ?_
    refine q_aload_nr eX9_spare_24 rfl ?_
    refine q_aload_nr eX9_spare_25 rfl ?_
    obtain ⟨a17, hr18, hw⟩ := hw
    refine q_getR flX9_26 rfl hs9 hr18 eX9_spare_26 ?_
    obtain ⟨hs19, hw⟩ := hw
    refine q_callV (b := 0) (t := 0) (gX6_copyFrom _ _ _ _ hw) mlX9_181 kX6_copyFrom vX6_copyFrom rfl hs19 ⟨rfl, rfl⟩ (by decide) rfl (Nat.le_of_ble_eq_true rfl) eX9_spare_29 (kV fun h21 hw => ?_)
    refine q_iconst (v := nI 0) eX9_spare_32 (by decide) ?_
    refine x_istore_n (ls' := [_, _, _, _, _, _]) eX9_spare_33 (by decide) rfl rfl ?_
    refine q_aload_nr eX9_spare_34 rfl ?_
    obtain ⟨hs22, hw⟩ := hw
    obtain ⟨a23, hr24, hw⟩ := hw
    refine q_getR flX9_19 rfl hs22 hr24 eX9_spare_35 ?_
    refine q_aload_nr eX9_spare_38 rfl ?_
    obtain ⟨a25, hr26, hw⟩ := hw
    refine q_getR flX9_26 rfl hs22 hr26 eX9_spare_39 ?_
    obtain ⟨hs27, hw⟩ := hw
    refine q_getI flX9_145 rfl hs27 eX9_spare_42 ?_
    obtain ⟨hs28, hw⟩ := hw
    refine q_callV (b := 0) (t := 0) (gX4_ringCount _ _ _ _ hw) mlX9_171 kX4_ringCount vX4_ringCount rfl hs28 ⟨rfl, rfl⟩ (by decide) rfl (Nat.le_of_ble_eq_true rfl) eX9_spare_45 (kI fun r29 h30 hw => ?_)
    refine q_bipush (v := nI 31) eX9_spare_48 (by decide) ?_
    refine q_mmin mlX9_291 sMmin iNMath cMmin (by decide) (Nat.le_of_ble_eq_true rfl) eX9_spare_50 ?_
    refine x_istore_n (ls' := [_, _, _, _, _, _]) eX9_spare_53 (by decide) rfl rfl ?_
    refine q_iconst (v := nI 0) eX9_spare_54 (by decide) ?_
    refine x_istore (ls' := [_, _, _, _, _, _]) eX9_spare_55 (by decide) rfl rfl ?_
    refine q_le (ls' := [some _, some _, some _, some _, some _, none]) ⟨rfl, rfl, rfl, rfl, rfl, trivial⟩ ?_
    obtain ⟨m65, hw⟩ := hw
    exact tX9_spare_57 m65 _ _ _ _ _ _ hw
  · have hw := hw2 c
    refine q_iconst (v := nI 0) eX9_spare_15 (by decide) ?_
    exact q_ret rfl eX9_spare_16 ⟨_, rfl, hw⟩
def wX9_runs (x0 : Nat) (x1 : Int32) (x2 : Int32) (x3 : Int32) (h : MH) (Q : Int32 → MH → Prop) : Prop := hS h x0 = (1, 9) ∧ ∃ a2, hR h x0 1 = some a2 ∧ hS h a2 = (1, 4) ∧ wX4_hasLink a2 x1 h (fun r5 h6 => (r5 = 0 → Q ((-2 : Int32)) h6) ∧ (¬ (r5 = 0) → (x2 < 0 → Q ((-2 : Int32)) h6) ∧ (¬ (x2 < 0) → hS h6 x0 = (1, 9) ∧ ∃ a8, hR h6 x0 1 = some a8 ∧ hS h6 a8 = (1, 4) ∧ ∃ a11, hR h6 a8 7 = some a11 ∧ ∃ n14, hS h6 a11 = (2, n14) ∧ vp_in (x1) n14 ∧ (hI h6 a11 (x1).toNatClampNeg ≤ x2 → Q ((-2 : Int32)) h6) ∧ (¬ (hI h6 a11 (x1).toNatClampNeg ≤ x2) → (x3 < 0 → Q ((-2 : Int32)) h6) ∧ (¬ (x3 < 0) → (x3 ≤ nI 2 → ∃ a16, hR h6 x0 2 = some a16 ∧ hS h6 a16 = (1, 6) ∧ ∃ a19, hR h6 a16 3 = some a19 ∧ ∃ n22, hS h6 a19 = (2, n22) ∧ vp_in (((x1 * nI 2) + x2)) n22 ∧ ∀ v24, v24 = hI h6 a19 (((x1 * nI 2) + x2)).toNatClampNeg → (0 ≤ v24 → (¬ x3 = nI 0 → ¬ x3 = nI 1 → wX6_pathAt v24 h6 (fun r25 h26 => Q (r25) h26)) ∧ (x3 = nI 0 → ¬ nI 9 = 0 ∧ wX4_ringNumber a8 (hI h6 a16 0) ((v24 >>> (nI 10 &&& 31)) / nI 9) h6 (fun r28 h29 => Q (r28) h29)) ∧ (x3 = nI 1 → ¬ nI 9 = 0 ∧ Q (((v24 >>> (nI 10 &&& 31)) - (v24 >>> (nI 10 &&& 31)) / nI 9 * nI 9)) h6)) ∧ (¬ (0 ≤ v24) → Q ((-1 : Int32)) h6)) ∧ (¬ (x3 ≤ nI 2) → Q ((-2 : Int32)) h6))))))
set_option maxHeartbeats 4000000 in
set_option maxRecDepth 100000 in
theorem gX9_runs (x0 : Nat) (x1 : Int32) (x2 : Int32) (x3 : Int32) (h : MH) (Q : Int32 → MH → Prop) (hw : wX9_runs x0 x1 x2 x3 h Q) : Cm MX9_runs 2 0 0 [.ref (x0), .int (x1), .int (x2), .int (x3)] h (pI Q) := by
  refine cm_of [some (.ref (x0)), some (.int (x1)), some (.int (x2)), some (.int (x3)), none, none] rfl pnX9 (Nat.le_of_ble_eq_true rfl) rfl ?_
  unfold wX9_runs at hw
  refine q_aload_nr eX9_runs_0 rfl ?_
  obtain ⟨hs1, hw⟩ := hw
  obtain ⟨a2, hr3, hw⟩ := hw
  refine q_getR flX9_19 rfl hs1 hr3 eX9_runs_1 ?_
  refine q_iload_n eX9_runs_4 rfl ?_
  obtain ⟨hs4, hw⟩ := hw
  refine q_callV (b := 0) (t := 0) (gX4_hasLink _ _ _ _ hw) mlX9_117 kX4_hasLink vX4_hasLink rfl hs4 ⟨rfl, rfl⟩ (by decide) rfl (Nat.le_of_ble_eq_true rfl) eX9_runs_5 (kI fun r5 h6 hw => ?_)
  obtain ⟨hw1, hw2⟩ := hw
  refine q_if_eq (tgt := 37) eX9_runs_8 (by decide) (fun c => ?_) (fun c => ?_)
  · have hw := hw1 c
    refine q_bipush (v := (-2 : Int32)) eX9_runs_37 (by decide) ?_
    exact q_ret rfl eX9_runs_39 ⟨_, rfl, hw⟩
  · have hw := hw2 c
    refine q_iload_n eX9_runs_11 rfl ?_
    obtain ⟨hw1, hw2⟩ := hw
    refine q_if_lt (tgt := 37) eX9_runs_12 (by decide) (fun c => ?_) (fun c => ?_)
    · have hw := hw1 c
      refine q_bipush (v := (-2 : Int32)) eX9_runs_37 (by decide) ?_
      exact q_ret rfl eX9_runs_39 ⟨_, rfl, hw⟩
    · have hw := hw2 c
      refine q_iload_n eX9_runs_15 rfl ?_
      refine q_aload_nr eX9_runs_16 rfl ?_
      obtain ⟨hs7, hw⟩ := hw
      obtain ⟨a8, hr9, hw⟩ := hw
      refine q_getR flX9_19 rfl hs7 hr9 eX9_runs_17 ?_
      obtain ⟨hs10, hw⟩ := hw
      obtain ⟨a11, hr12, hw⟩ := hw
      refine q_getR flX9_131 rfl hs10 hr12 eX9_runs_20 ?_
      refine q_iload_n eX9_runs_23 rfl ?_
      obtain ⟨n14, hs13, hw⟩ := hw
      obtain ⟨hi15, hw⟩ := hw
      refine q_iald hs13 hi15 eX9_runs_24 ?_
      obtain ⟨hw1, hw2⟩ := hw
      refine q_icmp_ge (tgt := 37) eX9_runs_25 (by decide) (fun c => ?_) (fun c => ?_)
      · have hw := hw1 c
        refine q_bipush (v := (-2 : Int32)) eX9_runs_37 (by decide) ?_
        exact q_ret rfl eX9_runs_39 ⟨_, rfl, hw⟩
      · have hw := hw2 c
        refine q_iload_n eX9_runs_28 rfl ?_
        obtain ⟨hw1, hw2⟩ := hw
        refine q_if_lt (tgt := 37) eX9_runs_29 (by decide) (fun c => ?_) (fun c => ?_)
        · have hw := hw1 c
          refine q_bipush (v := (-2 : Int32)) eX9_runs_37 (by decide) ?_
          exact q_ret rfl eX9_runs_39 ⟨_, rfl, hw⟩
        · have hw := hw2 c
          refine q_iload_n eX9_runs_32 rfl ?_
          refine q_iconst (v := nI 2) eX9_runs_33 (by decide) ?_
          obtain ⟨hw1, hw2⟩ := hw
          refine q_icmp_le (tgt := 40) eX9_runs_34 (by decide) (fun c => ?_) (fun c => ?_)
          · have hw := hw1 c
            refine q_aload_nr eX9_runs_40 rfl ?_
            obtain ⟨a16, hr17, hw⟩ := hw
            refine q_getR flX9_26 rfl hs7 hr17 eX9_runs_41 ?_
            obtain ⟨hs18, hw⟩ := hw
            obtain ⟨a19, hr20, hw⟩ := hw
            refine q_getR flX9_296 rfl hs18 hr20 eX9_runs_44 ?_
            refine q_iload_n eX9_runs_47 rfl ?_
            refine q_iconst (v := nI 2) eX9_runs_48 (by decide) ?_
            refine q_imul eX9_runs_49 ?_
            refine q_iload_n eX9_runs_50 rfl ?_
            refine q_iadd eX9_runs_51 ?_
            obtain ⟨n22, hs21, hw⟩ := hw
            obtain ⟨hi23, hw⟩ := hw
            refine q_iald hs21 hi23 eX9_runs_52 ?_
            have hw := hw _ rfl
            refine x_istore (ls' := [_, _, _, _, _, _]) eX9_runs_53 (by decide) rfl rfl ?_
            refine q_iload eX9_runs_55 rfl ?_
            obtain ⟨hw1, hw2⟩ := hw
            refine q_if_ge (tgt := 62) eX9_runs_57 (by decide) (fun c => ?_) (fun c => ?_)
            · have hw := hw1 c
              refine q_iload eX9_runs_62 rfl ?_
              refine q_bipush (v := nI 10) eX9_runs_64 (by decide) ?_
              refine q_ishr eX9_runs_66 ?_
              refine x_istore (ls' := [_, _, _, _, _, _]) eX9_runs_67 (by decide) rfl rfl ?_
              refine q_iload_n eX9_runs_69 rfl ?_
              obtain ⟨hw0, hw1, hw2⟩ := hw
              by_cases hq0 : x3 = nI 0
              · have hw := hw1 hq0
                refine q_lookup (off := 26) (tgt := 96) eX9_runs_70 (by decide) (by show Op.lookupswitch.offset [(0, 26), (1, 46)] _ _ = _; rw [hq0]; rfl) (by decide) ?_
                refine q_aload_nr eX9_runs_96 rfl ?_
                refine q_getR flX9_19 rfl hs7 hr9 eX9_runs_97 ?_
                refine q_aload_nr eX9_runs_100 rfl ?_
                refine q_getR flX9_26 rfl hs7 hr17 eX9_runs_101 ?_
                refine q_getI flX9_145 rfl hs18 eX9_runs_104 ?_
                refine q_iload eX9_runs_107 rfl ?_
                refine q_bipush (v := nI 9) eX9_runs_109 (by decide) ?_
                obtain ⟨hz27, hw⟩ := hw
                refine q_idiv eX9_runs_111 hz27 ?_
                refine q_callV (b := 0) (t := 0) (gX4_ringNumber _ _ _ _ _ hw) mlX9_299 kX4_ringNumber vX4_ringNumber rfl hs10 ⟨rfl, rfl⟩ (by decide) rfl (Nat.le_of_ble_eq_true rfl) eX9_runs_112 (kI fun r28 h29 hw => ?_)
                exact q_ret rfl eX9_runs_115 ⟨_, rfl, hw⟩
              · by_cases hq1 : x3 = nI 1
                · have hw := hw2 hq1
                  refine q_lookup (off := 46) (tgt := 116) eX9_runs_70 (by decide) (by show Op.lookupswitch.offset [(0, 26), (1, 46)] _ _ = _; rw [lv_osw (k := nI 0) hq0 (by decide)]; rw [hq1]; rfl) (by decide) ?_
                  refine q_iload eX9_runs_116 rfl ?_
                  refine q_bipush (v := nI 9) eX9_runs_118 (by decide) ?_
                  obtain ⟨hz30, hw⟩ := hw
                  refine q_irem eX9_runs_120 hz30 ?_
                  exact q_ret rfl eX9_runs_121 ⟨_, rfl, hw⟩
                · have hw := hw0 hq0 hq1
                  refine q_lookup (off := 52) (tgt := 122) eX9_runs_70 (by decide) (by show Op.lookupswitch.offset [(0, 26), (1, 46)] _ _ = _; rw [lv_osw (k := nI 0) hq0 (by decide)]; rw [lv_osw (k := nI 1) hq1 (by decide)]; rfl) (by decide) ?_
                  refine q_iload eX9_runs_122 rfl ?_
                  refine q_callS (b := 0) (t := 0) (gX6_pathAt _ _ _ hw) mlX9_302 kX6_pathAt sX6_pathAt rfl (by decide) rfl (Nat.le_of_ble_eq_true rfl) eX9_runs_124 (kI fun r25 h26 hw => ?_)
                  exact q_ret rfl eX9_runs_127 ⟨_, rfl, hw⟩
            · have hw := hw2 c
              refine q_iconst (v := (-1 : Int32)) eX9_runs_60 (by decide) ?_
              exact q_ret rfl eX9_runs_61 ⟨_, rfl, hw⟩
          · have hw := hw2 c
            refine q_bipush (v := (-2 : Int32)) eX9_runs_37 (by decide) ?_
            exact q_ret rfl eX9_runs_39 ⟨_, rfl, hw⟩
def wX9_lost (x0 : Nat) (h : MH) (Q : Int32 → MH → Prop) : Prop := hS h x0 = (1, 9) ∧ ∃ a2, hR h x0 6 = some a2 ∧ ∃ a4, hR h x0 1 = some a4 ∧ ∃ a6, hR h x0 2 = some a6 ∧ hS h a2 = (1, 7) ∧ wX7_lostUnits a2 a4 a6 h (fun r9 h10 => Q (r9) h10)
set_option maxHeartbeats 4000000 in
set_option maxRecDepth 100000 in
theorem gX9_lost (x0 : Nat) (h : MH) (Q : Int32 → MH → Prop) (hw : wX9_lost x0 h Q) : Cm MX9_lost 3 0 0 [.ref (x0)] h (pI Q) := by
  refine cm_of [some (.ref (x0))] rfl pnX9 (Nat.le_of_ble_eq_true rfl) rfl ?_
  unfold wX9_lost at hw
  refine q_aload_nr eX9_lost_0 rfl ?_
  obtain ⟨hs1, hw⟩ := hw
  obtain ⟨a2, hr3, hw⟩ := hw
  refine q_getR flX9_51 rfl hs1 hr3 eX9_lost_1 ?_
  refine q_aload_nr eX9_lost_4 rfl ?_
  obtain ⟨a4, hr5, hw⟩ := hw
  refine q_getR flX9_19 rfl hs1 hr5 eX9_lost_5 ?_
  refine q_aload_nr eX9_lost_8 rfl ?_
  obtain ⟨a6, hr7, hw⟩ := hw
  refine q_getR flX9_26 rfl hs1 hr7 eX9_lost_9 ?_
  obtain ⟨hs8, hw⟩ := hw
  refine q_callV (b := 0) (t := 0) (gX7_lostUnits _ _ _ _ _ hw) mlX9_200 kX7_lostUnits vX7_lostUnits rfl hs8 ⟨rfl, rfl⟩ (by decide) rfl (Nat.le_of_ble_eq_true rfl) eX9_lost_12 (kI fun r9 h10 hw => ?_)
  exact q_ret rfl eX9_lost_15 ⟨_, rfl, hw⟩
def wX9_lostBehind (x0 : Nat) (x1 : Nat) (x2 : Int32) (x3 : Nat) (h : MH) (Q : Int32 → MH → Prop) : Prop := hS h x3 = (1, 6) ∧ wX6_copyFrom x3 x1 h (fun h3 => hS h3 x0 = (1, 9) ∧ ∃ a5, hR h3 x0 6 = some a5 ∧ ∃ a7, hR h3 x0 1 = some a7 ∧ hS h3 a5 = (1, 7) ∧ wX7_failLink a5 a7 x3 x2 h3 (fun r10 h11 => hS h11 x0 = (1, 9) ∧ ∃ a13, hR h11 x0 6 = some a13 ∧ ∃ a15, hR h11 x0 1 = some a15 ∧ hS h11 a13 = (1, 7) ∧ wX7_lostUnits a13 a15 x3 h11 (fun r18 h19 => Q (r18) h19)))
set_option maxHeartbeats 4000000 in
set_option maxRecDepth 100000 in
theorem gX9_lostBehind (x0 : Nat) (x1 : Nat) (x2 : Int32) (x3 : Nat) (h : MH) (Q : Int32 → MH → Prop) (hw : wX9_lostBehind x0 x1 x2 x3 h Q) : Cm MX9_lostBehind 4 0 0 [.ref (x0), .ref (x1), .int (x2), .ref (x3)] h (pI Q) := by
  refine cm_of [some (.ref (x0)), some (.ref (x1)), some (.int (x2)), some (.ref (x3))] rfl pnX9 (Nat.le_of_ble_eq_true rfl) rfl ?_
  unfold wX9_lostBehind at hw
  refine q_aload_nr eX9_lostBehind_0 rfl ?_
  refine q_aload_nr eX9_lostBehind_1 rfl ?_
  obtain ⟨hs1, hw⟩ := hw
  refine q_callV (b := 0) (t := 0) (gX6_copyFrom _ _ _ _ hw) mlX9_181 kX6_copyFrom vX6_copyFrom rfl hs1 ⟨rfl, rfl⟩ (by decide) rfl (Nat.le_of_ble_eq_true rfl) eX9_lostBehind_2 (kV fun h3 hw => ?_)
  refine q_aload_nr eX9_lostBehind_5 rfl ?_
  obtain ⟨hs4, hw⟩ := hw
  obtain ⟨a5, hr6, hw⟩ := hw
  refine q_getR flX9_51 rfl hs4 hr6 eX9_lostBehind_6 ?_
  refine q_aload_nr eX9_lostBehind_9 rfl ?_
  obtain ⟨a7, hr8, hw⟩ := hw
  refine q_getR flX9_19 rfl hs4 hr8 eX9_lostBehind_10 ?_
  refine q_aload_nr eX9_lostBehind_13 rfl ?_
  refine q_iload_n eX9_lostBehind_14 rfl ?_
  obtain ⟨hs9, hw⟩ := hw
  refine q_callV (b := 0) (t := 0) (gX7_failLink _ _ _ _ _ _ hw) mlX9_197 kX7_failLink vX7_failLink rfl hs9 ⟨rfl, rfl⟩ (by decide) rfl (Nat.le_of_ble_eq_true rfl) eX9_lostBehind_15 (kI fun r10 h11 hw => ?_)
  refine q_pop eX9_lostBehind_18 rfl ?_
  refine q_aload_nr eX9_lostBehind_19 rfl ?_
  obtain ⟨hs12, hw⟩ := hw
  obtain ⟨a13, hr14, hw⟩ := hw
  refine q_getR flX9_51 rfl hs12 hr14 eX9_lostBehind_20 ?_
  refine q_aload_nr eX9_lostBehind_23 rfl ?_
  obtain ⟨a15, hr16, hw⟩ := hw
  refine q_getR flX9_19 rfl hs12 hr16 eX9_lostBehind_24 ?_
  refine q_aload_nr eX9_lostBehind_27 rfl ?_
  obtain ⟨hs17, hw⟩ := hw
  refine q_callV (b := 0) (t := 0) (gX7_lostUnits _ _ _ _ _ hw) mlX9_200 kX7_lostUnits vX7_lostUnits rfl hs17 ⟨rfl, rfl⟩ (by decide) rfl (Nat.le_of_ble_eq_true rfl) eX9_lostBehind_28 (kI fun r18 h19 hw => ?_)
  exact q_ret rfl eX9_lostBehind_31 ⟨_, rfl, hw⟩
def wX9_ifFails (x0 : Nat) (x1 : Int32) (h : MH) (Q : Int32 → MH → Prop) : Prop := hS h x0 = (1, 9) ∧ ∃ a2, hR h x0 1 = some a2 ∧ hS h a2 = (1, 4) ∧ wX4_hasLink a2 x1 h (fun r5 h6 => (¬ (r5 = 0) → hS h6 x0 = (1, 9) ∧ ∃ a8, hR h6 x0 2 = some a8 ∧ hS h6 a8 = (1, 6) ∧ wX6_hasFailed a8 x1 h6 (fun r11 h12 => (r11 = 0 → hS h12 x0 = (1, 9) ∧ ∃ a14, hR h12 x0 2 = some a14 ∧ ∃ a16, hR h12 x0 4 = some a16 ∧ ∃ n19, hS h12 a16 = (6, n19) ∧ vp_in (nI 0) n19 ∧ ∃ a21, hR h12 a16 (nI 0).toNatClampNeg = some a21 ∧ wX9_lostBehind x0 a14 x1 a21 h12 (fun r23 h24 => Q (r23) h24)) ∧ (¬ (r11 = 0) → Q ((-5 : Int32)) h12))) ∧ (r5 = 0 → Q ((-2 : Int32)) h6))
set_option maxHeartbeats 4000000 in
set_option maxRecDepth 100000 in
theorem gX9_ifFails (x0 : Nat) (x1 : Int32) (h : MH) (Q : Int32 → MH → Prop) (hw : wX9_ifFails x0 x1 h Q) : Cm MX9_ifFails 5 0 0 [.ref (x0), .int (x1)] h (pI Q) := by
  refine cm_of [some (.ref (x0)), some (.int (x1))] rfl pnX9 (Nat.le_of_ble_eq_true rfl) rfl ?_
  unfold wX9_ifFails at hw
  refine q_aload_nr eX9_ifFails_0 rfl ?_
  obtain ⟨hs1, hw⟩ := hw
  obtain ⟨a2, hr3, hw⟩ := hw
  refine q_getR flX9_19 rfl hs1 hr3 eX9_ifFails_1 ?_
  refine q_iload_n eX9_ifFails_4 rfl ?_
  obtain ⟨hs4, hw⟩ := hw
  refine q_callV (b := 0) (t := 0) (gX4_hasLink _ _ _ _ hw) mlX9_117 kX4_hasLink vX4_hasLink rfl hs4 ⟨rfl, rfl⟩ (by decide) rfl (Nat.le_of_ble_eq_true rfl) eX9_ifFails_5 (kI fun r5 h6 hw => ?_)
  obtain ⟨hw1, hw2⟩ := hw
  refine q_if_ne (tgt := 14) eX9_ifFails_8 (by decide) (fun c => ?_) (fun c => ?_)
  · have hw := hw1 c
    refine q_aload_nr eX9_ifFails_14 rfl ?_
    obtain ⟨hs7, hw⟩ := hw
    obtain ⟨a8, hr9, hw⟩ := hw
    refine q_getR flX9_26 rfl hs7 hr9 eX9_ifFails_15 ?_
    refine q_iload_n eX9_ifFails_18 rfl ?_
    obtain ⟨hs10, hw⟩ := hw
    refine q_callV (b := 0) (t := 0) (gX6_hasFailed _ _ _ _ hw) mlX9_134 kX6_hasFailed vX6_hasFailed rfl hs10 ⟨rfl, rfl⟩ (by decide) rfl (Nat.le_of_ble_eq_true rfl) eX9_ifFails_19 (kI fun r11 h12 hw => ?_)
    obtain ⟨hw1, hw2⟩ := hw
    refine q_if_eq (tgt := 30) eX9_ifFails_22 (by decide) (fun c => ?_) (fun c => ?_)
    · have hw := hw1 c
      refine q_aload_nr eX9_ifFails_30 rfl ?_
      refine q_aload_nr eX9_ifFails_31 rfl ?_
      obtain ⟨hs13, hw⟩ := hw
      obtain ⟨a14, hr15, hw⟩ := hw
      refine q_getR flX9_26 rfl hs13 hr15 eX9_ifFails_32 ?_
      refine q_iload_n eX9_ifFails_35 rfl ?_
      refine q_aload_nr eX9_ifFails_36 rfl ?_
      obtain ⟨a16, hr17, hw⟩ := hw
      refine q_getR flX9_37 rfl hs13 hr17 eX9_ifFails_37 ?_
      refine q_iconst (v := nI 0) eX9_ifFails_40 (by decide) ?_
      obtain ⟨n19, hs18, hw⟩ := hw
      obtain ⟨hi20, hw⟩ := hw
      obtain ⟨a21, hr22, hw⟩ := hw
      refine q_aald (Or.inl rfl) hs18 hi20 hr22 eX9_ifFails_41 ?_
      refine q_callV (b := 0) (t := 0) (gX9_lostBehind _ _ _ _ _ _ hw) mlX9_305 kX9_lostBehind vX9_lostBehind rfl hs13 ⟨rfl, rfl⟩ (by decide) rfl (Nat.le_of_ble_eq_true rfl) eX9_ifFails_42 (kI fun r23 h24 hw => ?_)
      exact q_ret rfl eX9_ifFails_45 ⟨_, rfl, hw⟩
    · have hw := hw2 c
      refine q_bipush (v := (-5 : Int32)) eX9_ifFails_25 (by decide) ?_
      refine q_goto (tgt := 45) eX9_ifFails_27 (by decide) ?_
      exact q_ret rfl eX9_ifFails_45 ⟨_, rfl, hw⟩
  · have hw := hw2 c
    refine q_bipush (v := (-2 : Int32)) eX9_ifFails_11 (by decide) ?_
    exact q_ret rfl eX9_ifFails_13 ⟨_, rfl, hw⟩
def wX9_worst_47 (Q : Int32 → MH → Prop) (K6 : Nat → Int32 → Int32 → Int32 → MH → Prop) (x0 : Nat) (x1 : Int32) (x2 : Int32) (x3 : Int32) (s0 : Int32) (h : MH) : Prop := (s0 ≤ x1 → K6 x0 x1 x2 (x3 + nI 1) h) ∧ (¬ (s0 ≤ x1) → K6 x0 s0 x3 (x3 + nI 1) h)
set_option maxHeartbeats 4000000 in
set_option maxRecDepth 100000 in
theorem tX9_worst_47 {Q : Int32 → MH → Prop} {K6 : Nat → Int32 → Int32 → Int32 → MH → Prop} (hK6 : ∀ (h : MH) (x0 : Nat) (x1 : Int32) (x2 : Int32) (x3 : Int32), K6 x0 x1 x2 x3 h → Wm MX9_worst 5 0 0 6 [some (.ref (x0)), some (.int (x1)), some (.int (x2)), some (.int (x3)), none] [] h (pI Q)) (h : MH) (x0 : Nat) (x1 : Int32) (x2 : Int32) (x3 : Int32) (s0 : Int32) (hw : wX9_worst_47 Q K6 x0 x1 x2 x3 s0 h) : Wm MX9_worst 5 0 0 47 [some (.ref (x0)), some (.int (x1)), some (.int (x2)), some (.int (x3)), none] [.int (s0)] h (pI Q) := by
  unfold wX9_worst_47 at hw
  refine x_istore (ls' := [_, _, _, _, _]) eX9_worst_47 (by decide) rfl rfl ?_
  refine q_iload eX9_worst_49 rfl ?_
  refine q_iload_n eX9_worst_51 rfl ?_
  obtain ⟨hw1, hw2⟩ := hw
  refine q_icmp_le (tgt := 60) eX9_worst_52 (by decide) (fun c => ?_) (fun c => ?_)
  · have hw := hw1 c
    refine x_iinc (v := (x3 + nI 1)) (ls' := [_, _, _, _, _]) eX9_worst_60 rfl rfl rfl rfl ?_
    refine q_goto (tgt := 6) eX9_worst_63 (by decide) ?_
    refine q_le (ls' := [some _, some _, some _, some _, none]) ⟨rfl, rfl, rfl, rfl, trivial⟩ ?_
    exact hK6 _ _ _ _ _ hw
  · have hw := hw2 c
    refine q_iload eX9_worst_55 rfl ?_
    refine x_istore_n (ls' := [_, _, _, _, _]) eX9_worst_57 (by decide) rfl rfl ?_
    refine q_iload_n eX9_worst_58 rfl ?_
    refine x_istore_n (ls' := [_, _, _, _, _]) eX9_worst_59 (by decide) rfl rfl ?_
    refine x_iinc (v := (x3 + nI 1)) (ls' := [_, _, _, _, _]) eX9_worst_60 rfl rfl rfl rfl ?_
    refine q_goto (tgt := 6) eX9_worst_63 (by decide) ?_
    refine q_le (ls' := [some _, some _, some _, some _, none]) ⟨rfl, rfl, rfl, rfl, trivial⟩ ?_
    exact hK6 _ _ _ _ _ hw
def wX9_worst_6 (Q : Int32 → MH → Prop) : Nat → Nat → Int32 → Int32 → Int32 → MH → Prop
  | 0, _, _, _, _, _ => False
  | n + 1, x0, x1, x2, x3, h => hS h x0 = (1, 9) ∧ ∃ a2, hR h x0 1 = some a2 ∧ hS h a2 = (1, 4) ∧ (hI h a2 3 ≤ x3 → Q (x2) h) ∧ (¬ (hI h a2 3 ≤ x3) → ∃ a5, hR h x0 2 = some a5 ∧ hS h a5 = (1, 6) ∧ wX6_hasFailed a5 x3 h (fun r8 h9 => (r8 = 0 → hS h9 x0 = (1, 9) ∧ ∃ a11, hR h9 x0 2 = some a11 ∧ ∃ a13, hR h9 x0 4 = some a13 ∧ ∃ n16, hS h9 a13 = (6, n16) ∧ vp_in (nI 0) n16 ∧ ∃ a18, hR h9 a13 (nI 0).toNatClampNeg = some a18 ∧ wX9_lostBehind x0 a11 x3 a18 h9 (fun r20 h21 => wX9_worst_47 Q (wX9_worst_6 Q n) x0 x1 x2 x3 r20 h21)) ∧ (¬ (r8 = 0) → wX9_worst_47 Q (wX9_worst_6 Q n) x0 x1 x2 x3 (-1 : Int32) h9)))
set_option maxHeartbeats 4000000 in
set_option maxRecDepth 100000 in
theorem tX9_worst_6 {Q : Int32 → MH → Prop} : ∀ (n : Nat) (h : MH) (x0 : Nat) (x1 : Int32) (x2 : Int32) (x3 : Int32), wX9_worst_6 Q n x0 x1 x2 x3 h → Wm MX9_worst 5 0 0 6 [some (.ref (x0)), some (.int (x1)), some (.int (x2)), some (.int (x3)), none] [] h (pI Q) := by
  intro n
  induction n with
  | zero => intro h x0 x1 x2 x3 hw; exact hw.elim
  | succ n ih =>
    intro h x0 x1 x2 x3 hw
    unfold wX9_worst_6 at hw
    refine q_iload_n eX9_worst_6 rfl ?_
    refine q_aload_nr eX9_worst_7 rfl ?_
    obtain ⟨hs1, hw⟩ := hw
    obtain ⟨a2, hr3, hw⟩ := hw
    refine q_getR flX9_19 rfl hs1 hr3 eX9_worst_8 ?_
    obtain ⟨hs4, hw⟩ := hw
    refine q_getI flX9_309 rfl hs4 eX9_worst_11 ?_
    obtain ⟨hw1, hw2⟩ := hw
    refine q_icmp_ge (tgt := 66) eX9_worst_14 (by decide) (fun c => ?_) (fun c => ?_)
    · have hw := hw1 c
      refine q_iload_n eX9_worst_66 rfl ?_
      exact q_ret rfl eX9_worst_67 ⟨_, rfl, hw⟩
    · have hw := hw2 c
      refine q_aload_nr eX9_worst_17 rfl ?_
      obtain ⟨a5, hr6, hw⟩ := hw
      refine q_getR flX9_26 rfl hs1 hr6 eX9_worst_18 ?_
      refine q_iload_n eX9_worst_21 rfl ?_
      obtain ⟨hs7, hw⟩ := hw
      refine q_callV (b := 0) (t := 0) (gX6_hasFailed _ _ _ _ hw) mlX9_134 kX6_hasFailed vX6_hasFailed rfl hs7 ⟨rfl, rfl⟩ (by decide) rfl (Nat.le_of_ble_eq_true rfl) eX9_worst_22 (kI fun r8 h9 hw => ?_)
      obtain ⟨hw1, hw2⟩ := hw
      refine q_if_eq (tgt := 32) eX9_worst_25 (by decide) (fun c => ?_) (fun c => ?_)
      · have hw := hw1 c
        refine q_aload_nr eX9_worst_32 rfl ?_
        refine q_aload_nr eX9_worst_33 rfl ?_
        obtain ⟨hs10, hw⟩ := hw
        obtain ⟨a11, hr12, hw⟩ := hw
        refine q_getR flX9_26 rfl hs10 hr12 eX9_worst_34 ?_
        refine q_iload_n eX9_worst_37 rfl ?_
        refine q_aload_nr eX9_worst_38 rfl ?_
        obtain ⟨a13, hr14, hw⟩ := hw
        refine q_getR flX9_37 rfl hs10 hr14 eX9_worst_39 ?_
        refine q_iconst (v := nI 0) eX9_worst_42 (by decide) ?_
        obtain ⟨n16, hs15, hw⟩ := hw
        obtain ⟨hi17, hw⟩ := hw
        obtain ⟨a18, hr19, hw⟩ := hw
        refine q_aald (Or.inl rfl) hs15 hi17 hr19 eX9_worst_43 ?_
        refine q_callV (b := 0) (t := 0) (gX9_lostBehind _ _ _ _ _ _ hw) mlX9_305 kX9_lostBehind vX9_lostBehind rfl hs10 ⟨rfl, rfl⟩ (by decide) rfl (Nat.le_of_ble_eq_true rfl) eX9_worst_44 (kI fun r20 h21 hw => ?_)
        refine q_le (ls' := [some _, some _, some _, some _, none]) ⟨rfl, rfl, rfl, rfl, trivial⟩ ?_
        exact tX9_worst_47 ih _ _ _ _ _ _ hw
      · have hw := hw2 c
        refine q_iconst (v := (-1 : Int32)) eX9_worst_28 (by decide) ?_
        refine q_goto (tgt := 47) eX9_worst_29 (by decide) ?_
        refine q_le (ls' := [some _, some _, some _, some _, none]) ⟨rfl, rfl, rfl, rfl, trivial⟩ ?_
        exact tX9_worst_47 ih _ _ _ _ _ _ hw
def wX9_worst (x0 : Nat) (h : MH) (Q : Int32 → MH → Prop) : Prop := ∃ m22, wX9_worst_6 Q m22 x0 (-1 : Int32) (-1 : Int32) (nI 0) h
set_option maxHeartbeats 4000000 in
set_option maxRecDepth 100000 in
theorem gX9_worst (x0 : Nat) (h : MH) (Q : Int32 → MH → Prop) (hw : wX9_worst x0 h Q) : Cm MX9_worst 5 0 0 [.ref (x0)] h (pI Q) := by
  refine cm_of [some (.ref (x0)), none, none, none, none] rfl pnX9 (Nat.le_of_ble_eq_true rfl) rfl ?_
  unfold wX9_worst at hw
  refine q_iconst (v := (-1 : Int32)) eX9_worst_0 (by decide) ?_
  refine x_istore_n (ls' := [_, _, _, _, _]) eX9_worst_1 (by decide) rfl rfl ?_
  refine q_iconst (v := (-1 : Int32)) eX9_worst_2 (by decide) ?_
  refine x_istore_n (ls' := [_, _, _, _, _]) eX9_worst_3 (by decide) rfl rfl ?_
  refine q_iconst (v := nI 0) eX9_worst_4 (by decide) ?_
  refine x_istore_n (ls' := [_, _, _, _, _]) eX9_worst_5 (by decide) rfl rfl ?_
  refine q_le (ls' := [some _, some _, some _, some _, none]) ⟨rfl, rfl, rfl, rfl, trivial⟩ ?_
  obtain ⟨m22, hw⟩ := hw
  exact tX9_worst_6 m22 _ _ _ _ _ hw
def wX9_two (x0 : Nat) (x1 : Int32) (x2 : Int32) (h : MH) (Q : Int32 → MH → Prop) : Prop := hS h x0 = (1, 9) ∧ ∃ a2, hR h x0 1 = some a2 ∧ hS h a2 = (1, 4) ∧ wX4_hasLink a2 x1 h (fun r5 h6 => (r5 = 0 → Q ((-2 : Int32)) h6) ∧ (¬ (r5 = 0) → hS h6 x0 = (1, 9) ∧ ∃ a8, hR h6 x0 1 = some a8 ∧ hS h6 a8 = (1, 4) ∧ wX4_hasLink a8 x2 h6 (fun r11 h12 => (r11 = 0 → Q ((-2 : Int32)) h12) ∧ (¬ (r11 = 0) → (¬ (x1 = x2) → hS h12 x0 = (1, 9) ∧ ∃ a14, hR h12 x0 4 = some a14 ∧ ∃ n17, hS h12 a14 = (6, n17) ∧ vp_in (nI 0) n17 ∧ ∃ a19, hR h12 a14 (nI 0).toNatClampNeg = some a19 ∧ ∃ a21, hR h12 x0 2 = some a21 ∧ hS h12 a19 = (1, 6) ∧ wX6_freshFrom a19 a21 h12 (fun h25 => hS h25 x0 = (1, 9) ∧ ∃ a27, hR h25 x0 4 = some a27 ∧ ∃ n30, hS h25 a27 = (6, n30) ∧ vp_in (nI 0) n30 ∧ ∃ a32, hR h25 a27 (nI 0).toNatClampNeg = some a32 ∧ vp_in (nI 1) n30 ∧ ∃ a35, hR h25 a27 (nI 1).toNatClampNeg = some a35 ∧ wX9_lostBehind x0 a32 x1 a35 h25 (fun r37 h38 => hS h38 x0 = (1, 9) ∧ ∃ a40, hR h38 x0 4 = some a40 ∧ ∃ n43, hS h38 a40 = (6, n43) ∧ vp_in (nI 1) n43 ∧ ∃ a45, hR h38 a40 (nI 1).toNatClampNeg = some a45 ∧ vp_in (nI 2) n43 ∧ ∃ a48, hR h38 a40 (nI 2).toNatClampNeg = some a48 ∧ wX9_lostBehind x0 a45 x2 a48 h38 (fun r50 h51 => Q (r50) h51)))) ∧ (x1 = x2 → Q ((-2 : Int32)) h12)))))
set_option maxHeartbeats 4000000 in
set_option maxRecDepth 100000 in
theorem gX9_two (x0 : Nat) (x1 : Int32) (x2 : Int32) (h : MH) (Q : Int32 → MH → Prop) (hw : wX9_two x0 x1 x2 h Q) : Cm MX9_two 5 0 0 [.ref (x0), .int (x1), .int (x2)] h (pI Q) := by
  refine cm_of [some (.ref (x0)), some (.int (x1)), some (.int (x2))] rfl pnX9 (Nat.le_of_ble_eq_true rfl) rfl ?_
  unfold wX9_two at hw
  refine q_aload_nr eX9_two_0 rfl ?_
  obtain ⟨hs1, hw⟩ := hw
  obtain ⟨a2, hr3, hw⟩ := hw
  refine q_getR flX9_19 rfl hs1 hr3 eX9_two_1 ?_
  refine q_iload_n eX9_two_4 rfl ?_
  obtain ⟨hs4, hw⟩ := hw
  refine q_callV (b := 0) (t := 0) (gX4_hasLink _ _ _ _ hw) mlX9_117 kX4_hasLink vX4_hasLink rfl hs4 ⟨rfl, rfl⟩ (by decide) rfl (Nat.le_of_ble_eq_true rfl) eX9_two_5 (kI fun r5 h6 hw => ?_)
  obtain ⟨hw1, hw2⟩ := hw
  refine q_if_eq (tgt := 27) eX9_two_8 (by decide) (fun c => ?_) (fun c => ?_)
  · have hw := hw1 c
    refine q_bipush (v := (-2 : Int32)) eX9_two_27 (by decide) ?_
    exact q_ret rfl eX9_two_29 ⟨_, rfl, hw⟩
  · have hw := hw2 c
    refine q_aload_nr eX9_two_11 rfl ?_
    obtain ⟨hs7, hw⟩ := hw
    obtain ⟨a8, hr9, hw⟩ := hw
    refine q_getR flX9_19 rfl hs7 hr9 eX9_two_12 ?_
    refine q_iload_n eX9_two_15 rfl ?_
    obtain ⟨hs10, hw⟩ := hw
    refine q_callV (b := 0) (t := 0) (gX4_hasLink _ _ _ _ hw) mlX9_117 kX4_hasLink vX4_hasLink rfl hs10 ⟨rfl, rfl⟩ (by decide) rfl (Nat.le_of_ble_eq_true rfl) eX9_two_16 (kI fun r11 h12 hw => ?_)
    obtain ⟨hw1, hw2⟩ := hw
    refine q_if_eq (tgt := 27) eX9_two_19 (by decide) (fun c => ?_) (fun c => ?_)
    · have hw := hw1 c
      refine q_bipush (v := (-2 : Int32)) eX9_two_27 (by decide) ?_
      exact q_ret rfl eX9_two_29 ⟨_, rfl, hw⟩
    · have hw := hw2 c
      refine q_iload_n eX9_two_22 rfl ?_
      refine q_iload_n eX9_two_23 rfl ?_
      obtain ⟨hw1, hw2⟩ := hw
      refine q_icmp_ne (tgt := 30) eX9_two_24 (by decide) (fun c => ?_) (fun c => ?_)
      · have hw := hw1 c
        refine q_aload_nr eX9_two_30 rfl ?_
        obtain ⟨hs13, hw⟩ := hw
        obtain ⟨a14, hr15, hw⟩ := hw
        refine q_getR flX9_37 rfl hs13 hr15 eX9_two_31 ?_
        refine q_iconst (v := nI 0) eX9_two_34 (by decide) ?_
        obtain ⟨n17, hs16, hw⟩ := hw
        obtain ⟨hi18, hw⟩ := hw
        obtain ⟨a19, hr20, hw⟩ := hw
        refine q_aald (Or.inl rfl) hs16 hi18 hr20 eX9_two_35 ?_
        refine q_aload_nr eX9_two_36 rfl ?_
        obtain ⟨a21, hr22, hw⟩ := hw
        refine q_getR flX9_26 rfl hs13 hr22 eX9_two_37 ?_
        obtain ⟨hs23, hw⟩ := hw
        refine q_callV (b := 0) (t := 0) (gX6_freshFrom _ _ _ _ hw) mlX9_312 kX6_freshFrom vX6_freshFrom rfl hs23 ⟨rfl, rfl⟩ (by decide) rfl (Nat.le_of_ble_eq_true rfl) eX9_two_40 (kV fun h25 hw => ?_)
        refine q_aload_nr eX9_two_43 rfl ?_
        refine q_aload_nr eX9_two_44 rfl ?_
        obtain ⟨hs26, hw⟩ := hw
        obtain ⟨a27, hr28, hw⟩ := hw
        refine q_getR flX9_37 rfl hs26 hr28 eX9_two_45 ?_
        refine q_iconst (v := nI 0) eX9_two_48 (by decide) ?_
        obtain ⟨n30, hs29, hw⟩ := hw
        obtain ⟨hi31, hw⟩ := hw
        obtain ⟨a32, hr33, hw⟩ := hw
        refine q_aald (Or.inl rfl) hs29 hi31 hr33 eX9_two_49 ?_
        refine q_iload_n eX9_two_50 rfl ?_
        refine q_aload_nr eX9_two_51 rfl ?_
        refine q_getR flX9_37 rfl hs26 hr28 eX9_two_52 ?_
        refine q_iconst (v := nI 1) eX9_two_55 (by decide) ?_
        obtain ⟨hi34, hw⟩ := hw
        obtain ⟨a35, hr36, hw⟩ := hw
        refine q_aald (Or.inl rfl) hs29 hi34 hr36 eX9_two_56 ?_
        refine q_callV (b := 0) (t := 0) (gX9_lostBehind _ _ _ _ _ _ hw) mlX9_305 kX9_lostBehind vX9_lostBehind rfl hs26 ⟨rfl, rfl⟩ (by decide) rfl (Nat.le_of_ble_eq_true rfl) eX9_two_57 (kI fun r37 h38 hw => ?_)
        refine q_pop eX9_two_60 rfl ?_
        refine q_aload_nr eX9_two_61 rfl ?_
        refine q_aload_nr eX9_two_62 rfl ?_
        obtain ⟨hs39, hw⟩ := hw
        obtain ⟨a40, hr41, hw⟩ := hw
        refine q_getR flX9_37 rfl hs39 hr41 eX9_two_63 ?_
        refine q_iconst (v := nI 1) eX9_two_66 (by decide) ?_
        obtain ⟨n43, hs42, hw⟩ := hw
        obtain ⟨hi44, hw⟩ := hw
        obtain ⟨a45, hr46, hw⟩ := hw
        refine q_aald (Or.inl rfl) hs42 hi44 hr46 eX9_two_67 ?_
        refine q_iload_n eX9_two_68 rfl ?_
        refine q_aload_nr eX9_two_69 rfl ?_
        refine q_getR flX9_37 rfl hs39 hr41 eX9_two_70 ?_
        refine q_iconst (v := nI 2) eX9_two_73 (by decide) ?_
        obtain ⟨hi47, hw⟩ := hw
        obtain ⟨a48, hr49, hw⟩ := hw
        refine q_aald (Or.inl rfl) hs42 hi47 hr49 eX9_two_74 ?_
        refine q_callV (b := 0) (t := 0) (gX9_lostBehind _ _ _ _ _ _ hw) mlX9_305 kX9_lostBehind vX9_lostBehind rfl hs39 ⟨rfl, rfl⟩ (by decide) rfl (Nat.le_of_ble_eq_true rfl) eX9_two_75 (kI fun r50 h51 hw => ?_)
        exact q_ret rfl eX9_two_78 ⟨_, rfl, hw⟩
      · have hw := hw2 c
        refine q_bipush (v := (-2 : Int32)) eX9_two_27 (by decide) ?_
        exact q_ret rfl eX9_two_29 ⟨_, rfl, hw⟩
def wX9_twos_149 (Q : Int32 → MH → Prop) (K38 : Nat → Int32 → Int32 → Int32 → Int32 → Int32 → Int32 → MH → Prop) (K72 : Nat → Int32 → Int32 → Int32 → Int32 → Int32 → Int32 → Int32 → MH → Prop) (x0 : Nat) (x1 : Int32) (x2 : Int32) (x3 : Int32) (x4 : Int32) (x6 : Int32) (x7 : Int32) (x8 : Int32) (s0 : Int32) (h : MH) : Prop := K72 x0 x1 x2 x3 (if x4 < x8 then x8 else x4) s0 x6 (x7 + nI 1) h
set_option maxHeartbeats 4000000 in
set_option maxRecDepth 100000 in
theorem tX9_twos_149 {Q : Int32 → MH → Prop} {K38 : Nat → Int32 → Int32 → Int32 → Int32 → Int32 → Int32 → MH → Prop} {K72 : Nat → Int32 → Int32 → Int32 → Int32 → Int32 → Int32 → Int32 → MH → Prop} (hK38 : ∀ (h : MH) (x0 : Nat) (x1 : Int32) (x2 : Int32) (x3 : Int32) (x4 : Int32) (x5 : Int32) (x6 : Int32), K38 x0 x1 x2 x3 x4 x5 x6 h → Wm MX9_twos 5 0 0 38 [some (.ref (x0)), some (.int (x1)), some (.int (x2)), some (.int (x3)), some (.int (x4)), some (.int (x5)), some (.int (x6)), none, none] [] h (pI Q)) (hK72 : ∀ (h : MH) (x0 : Nat) (x1 : Int32) (x2 : Int32) (x3 : Int32) (x4 : Int32) (x5 : Int32) (x6 : Int32) (x7 : Int32), K72 x0 x1 x2 x3 x4 x5 x6 x7 h → Wm MX9_twos 5 0 0 72 [some (.ref (x0)), some (.int (x1)), some (.int (x2)), some (.int (x3)), some (.int (x4)), some (.int (x5)), some (.int (x6)), some (.int (x7)), none] [] h (pI Q)) (h : MH) (x0 : Nat) (x1 : Int32) (x2 : Int32) (x3 : Int32) (x4 : Int32) (x6 : Int32) (x7 : Int32) (x8 : Int32) (s0 : Int32) (hw : wX9_twos_149 Q K38 K72 x0 x1 x2 x3 x4 x6 x7 x8 s0 h) : Wm MX9_twos 5 0 0 149 [some (.ref (x0)), some (.int (x1)), some (.int (x2)), some (.int (x3)), some (.int (x4)), none, some (.int (x6)), some (.int (x7)), some (.int (x8))] [.int (s0)] h (pI Q) := by
  unfold wX9_twos_149 at hw
  refine x_istore (ls' := [_, _, _, _, _, _, _, _, _]) eX9_twos_149 (by decide) rfl rfl ?_
  refine q_iload eX9_twos_151 rfl ?_
  refine q_iload eX9_twos_153 rfl ?_
  refine q_mmax mlX9_315 sMmax iNMath cMmax (by decide) (Nat.le_of_ble_eq_true rfl) eX9_twos_155 ?_
  refine x_istore (ls' := [_, _, _, _, _, _, _, _, _]) eX9_twos_158 (by decide) rfl rfl ?_
  refine x_iinc (v := (x7 + nI 1)) (ls' := [_, _, _, _, _, _, _, _, _]) eX9_twos_160 rfl rfl rfl rfl ?_
  refine q_goto (tgt := 72) eX9_twos_163 (by decide) ?_
  refine q_le (ls' := [some _, some _, some _, some _, some _, some _, some _, some _, none]) ⟨rfl, rfl, rfl, rfl, rfl, rfl, rfl, rfl, trivial⟩ ?_
  exact hK72 _ _ _ _ _ _ _ _ _ hw
def wX9_twos_127 (Q : Int32 → MH → Prop) (K38 : Nat → Int32 → Int32 → Int32 → Int32 → Int32 → Int32 → MH → Prop) (K72 : Nat → Int32 → Int32 → Int32 → Int32 → Int32 → Int32 → Int32 → MH → Prop) (x0 : Nat) (x1 : Int32) (x2 : Int32) (x4 : Int32) (x5 : Int32) (x6 : Int32) (x7 : Int32) (x8 : Int32) (s0 : Int32) (s1 : Int32) (h : MH) : Prop := wX9_twos_149 Q K38 K72 x0 x1 x2 (s1 + s0) x4 x6 x7 x8 (if x8 ≤ x4 then x5 else ((nI 10 * x6) + x7)) h
set_option maxHeartbeats 4000000 in
set_option maxRecDepth 100000 in
theorem tX9_twos_127 {Q : Int32 → MH → Prop} {K38 : Nat → Int32 → Int32 → Int32 → Int32 → Int32 → Int32 → MH → Prop} {K72 : Nat → Int32 → Int32 → Int32 → Int32 → Int32 → Int32 → Int32 → MH → Prop} (hK38 : ∀ (h : MH) (x0 : Nat) (x1 : Int32) (x2 : Int32) (x3 : Int32) (x4 : Int32) (x5 : Int32) (x6 : Int32), K38 x0 x1 x2 x3 x4 x5 x6 h → Wm MX9_twos 5 0 0 38 [some (.ref (x0)), some (.int (x1)), some (.int (x2)), some (.int (x3)), some (.int (x4)), some (.int (x5)), some (.int (x6)), none, none] [] h (pI Q)) (hK72 : ∀ (h : MH) (x0 : Nat) (x1 : Int32) (x2 : Int32) (x3 : Int32) (x4 : Int32) (x5 : Int32) (x6 : Int32) (x7 : Int32), K72 x0 x1 x2 x3 x4 x5 x6 x7 h → Wm MX9_twos 5 0 0 72 [some (.ref (x0)), some (.int (x1)), some (.int (x2)), some (.int (x3)), some (.int (x4)), some (.int (x5)), some (.int (x6)), some (.int (x7)), none] [] h (pI Q)) (h : MH) (x0 : Nat) (x1 : Int32) (x2 : Int32) (x4 : Int32) (x5 : Int32) (x6 : Int32) (x7 : Int32) (x8 : Int32) (s0 : Int32) (s1 : Int32) (hw : wX9_twos_127 Q K38 K72 x0 x1 x2 x4 x5 x6 x7 x8 s0 s1 h) : Wm MX9_twos 5 0 0 127 [some (.ref (x0)), some (.int (x1)), some (.int (x2)), none, some (.int (x4)), some (.int (x5)), some (.int (x6)), some (.int (x7)), some (.int (x8))] [.int (s0), .int (s1)] h (pI Q) := by
  unfold wX9_twos_127 at hw
  refine q_iadd eX9_twos_127 ?_
  refine x_istore_n (ls' := [_, _, _, _, _, _, _, _, _]) eX9_twos_128 (by decide) rfl rfl ?_
  refine q_iload eX9_twos_129 rfl ?_
  refine q_iload eX9_twos_131 rfl ?_
  have hj51 : Wm MX9_twos 5 0 0 149 [some (.ref (x0)), some (.int (x1)), some (.int (x2)), some (.int ((s1 + s0))), some (.int (x4)), some (.int (x5)), some (.int (x6)), some (.int (x7)), some (.int (x8))] [.int ((if x8 ≤ x4 then x5 else ((nI 10 * x6) + x7)))] h (pI Q) := by
    refine q_le (ls' := [some _, some _, some _, some _, some _, none, some _, some _, some _]) ⟨rfl, rfl, rfl, rfl, rfl, rfl, rfl, rfl, trivial⟩ ?_
    exact tX9_twos_149 hK38 hK72 _ _ _ _ _ _ _ _ _ _ hw
  refine q_icmp_le (tgt := 147) eX9_twos_133 (by decide) (fun c => ?_) (fun c => ?_)
  · refine q_iload eX9_twos_147 rfl ?_
    rw [if_pos c] at hj51
    exact hj51
  · refine q_bipush (v := nI 10) eX9_twos_136 (by decide) ?_
    refine q_iload eX9_twos_138 rfl ?_
    refine q_imul eX9_twos_140 ?_
    refine q_iload eX9_twos_141 rfl ?_
    refine q_iadd eX9_twos_143 ?_
    refine q_goto (tgt := 149) eX9_twos_144 (by decide) ?_
    rw [if_neg c] at hj51
    exact hj51
def wX9_twos_72 (Q : Int32 → MH → Prop) (K38 : Nat → Int32 → Int32 → Int32 → Int32 → Int32 → Int32 → MH → Prop) : Nat → Nat → Int32 → Int32 → Int32 → Int32 → Int32 → Int32 → Int32 → MH → Prop
  | 0, _, _, _, _, _, _, _, _, _ => False
  | n + 1, x0, x1, x2, x3, x4, x5, x6, x7, h => hS h x0 = (1, 9) ∧ ∃ a34, hR h x0 1 = some a34 ∧ hS h a34 = (1, 4) ∧ (hI h a34 3 ≤ x7 → K38 x0 x1 x2 x3 x4 x5 (x6 + nI 1) h) ∧ (¬ (hI h a34 3 ≤ x7) → (x7 = x6 → wX9_twos_72 Q K38 n x0 x1 x2 x3 x4 x5 x6 (x7 + nI 1) h) ∧ (¬ (x7 = x6) → ∃ a37, hR h x0 4 = some a37 ∧ ∃ n40, hS h a37 = (6, n40) ∧ vp_in (nI 1) n40 ∧ ∃ a42, hR h a37 (nI 1).toNatClampNeg = some a42 ∧ vp_in (nI 2) n40 ∧ ∃ a45, hR h a37 (nI 2).toNatClampNeg = some a45 ∧ wX9_lostBehind x0 a42 x7 a45 h (fun r47 h48 => wX9_twos_127 Q K38 (wX9_twos_72 Q K38 n) x0 x1 (x2 + r47) x4 x5 x6 x7 r47 (if r47 ≤ 0 then nI 0 else nI 1) x3 h48)))
set_option maxHeartbeats 4000000 in
set_option maxRecDepth 100000 in
theorem tX9_twos_72 {Q : Int32 → MH → Prop} {K38 : Nat → Int32 → Int32 → Int32 → Int32 → Int32 → Int32 → MH → Prop} (hK38 : ∀ (h : MH) (x0 : Nat) (x1 : Int32) (x2 : Int32) (x3 : Int32) (x4 : Int32) (x5 : Int32) (x6 : Int32), K38 x0 x1 x2 x3 x4 x5 x6 h → Wm MX9_twos 5 0 0 38 [some (.ref (x0)), some (.int (x1)), some (.int (x2)), some (.int (x3)), some (.int (x4)), some (.int (x5)), some (.int (x6)), none, none] [] h (pI Q)) : ∀ (n : Nat) (h : MH) (x0 : Nat) (x1 : Int32) (x2 : Int32) (x3 : Int32) (x4 : Int32) (x5 : Int32) (x6 : Int32) (x7 : Int32), wX9_twos_72 Q K38 n x0 x1 x2 x3 x4 x5 x6 x7 h → Wm MX9_twos 5 0 0 72 [some (.ref (x0)), some (.int (x1)), some (.int (x2)), some (.int (x3)), some (.int (x4)), some (.int (x5)), some (.int (x6)), some (.int (x7)), none] [] h (pI Q) := by
  intro n
  induction n with
  | zero => intro h x0 x1 x2 x3 x4 x5 x6 x7 hw; exact hw.elim
  | succ n ih =>
    intro h x0 x1 x2 x3 x4 x5 x6 x7 hw
    unfold wX9_twos_72 at hw
    refine q_iload eX9_twos_72 rfl ?_
    refine q_aload_nr eX9_twos_74 rfl ?_
    obtain ⟨hs33, hw⟩ := hw
    obtain ⟨a34, hr35, hw⟩ := hw
    refine q_getR flX9_19 rfl hs33 hr35 eX9_twos_75 ?_
    obtain ⟨hs36, hw⟩ := hw
    refine q_getI flX9_309 rfl hs36 eX9_twos_78 ?_
    obtain ⟨hw1, hw2⟩ := hw
    refine q_icmp_ge (tgt := 166) eX9_twos_81 (by decide) (fun c => ?_) (fun c => ?_)
    · have hw := hw1 c
      refine x_iinc (v := (x6 + nI 1)) (ls' := [_, _, _, _, _, _, _, _, _]) eX9_twos_166 rfl rfl rfl rfl ?_
      refine q_goto (tgt := 38) eX9_twos_169 (by decide) ?_
      refine q_le (ls' := [some _, some _, some _, some _, some _, some _, some _, none, none]) ⟨rfl, rfl, rfl, rfl, rfl, rfl, rfl, trivial⟩ ?_
      exact hK38 _ _ _ _ _ _ _ _ hw
    · have hw := hw2 c
      refine q_iload eX9_twos_84 rfl ?_
      refine q_iload eX9_twos_86 rfl ?_
      obtain ⟨hw1, hw2⟩ := hw
      refine q_icmp_eq (tgt := 160) eX9_twos_88 (by decide) (fun c => ?_) (fun c => ?_)
      · have hw := hw1 c
        refine x_iinc (v := (x7 + nI 1)) (ls' := [_, _, _, _, _, _, _, _, _]) eX9_twos_160 rfl rfl rfl rfl ?_
        refine q_goto (tgt := 72) eX9_twos_163 (by decide) ?_
        refine q_le (ls' := [some _, some _, some _, some _, some _, some _, some _, some _, none]) ⟨rfl, rfl, rfl, rfl, rfl, rfl, rfl, rfl, trivial⟩ ?_
        exact ih _ _ _ _ _ _ _ _ _ hw
      · have hw := hw2 c
        refine q_aload_nr eX9_twos_91 rfl ?_
        refine q_aload_nr eX9_twos_92 rfl ?_
        obtain ⟨a37, hr38, hw⟩ := hw
        refine q_getR flX9_37 rfl hs33 hr38 eX9_twos_93 ?_
        refine q_iconst (v := nI 1) eX9_twos_96 (by decide) ?_
        obtain ⟨n40, hs39, hw⟩ := hw
        obtain ⟨hi41, hw⟩ := hw
        obtain ⟨a42, hr43, hw⟩ := hw
        refine q_aald (Or.inl rfl) hs39 hi41 hr43 eX9_twos_97 ?_
        refine q_iload eX9_twos_98 rfl ?_
        refine q_aload_nr eX9_twos_100 rfl ?_
        refine q_getR flX9_37 rfl hs33 hr38 eX9_twos_101 ?_
        refine q_iconst (v := nI 2) eX9_twos_104 (by decide) ?_
        obtain ⟨hi44, hw⟩ := hw
        obtain ⟨a45, hr46, hw⟩ := hw
        refine q_aald (Or.inl rfl) hs39 hi44 hr46 eX9_twos_105 ?_
        refine q_callV (b := 0) (t := 0) (gX9_lostBehind _ _ _ _ _ _ hw) mlX9_305 kX9_lostBehind vX9_lostBehind rfl hs33 ⟨rfl, rfl⟩ (by decide) rfl (Nat.le_of_ble_eq_true rfl) eX9_twos_106 (kI fun r47 h48 hw => ?_)
        refine x_istore (ls' := [_, _, _, _, _, _, _, _, _]) eX9_twos_109 (by decide) rfl rfl ?_
        refine q_iload_n eX9_twos_111 rfl ?_
        refine q_iload eX9_twos_112 rfl ?_
        refine q_iadd eX9_twos_114 ?_
        refine x_istore_n (ls' := [_, _, _, _, _, _, _, _, _]) eX9_twos_115 (by decide) rfl rfl ?_
        refine q_iload_n eX9_twos_116 rfl ?_
        refine q_iload eX9_twos_117 rfl ?_
        have hj52 : Wm MX9_twos 5 0 0 127 [some (.ref (x0)), some (.int (x1)), some (.int ((x2 + r47))), some (.int (x3)), some (.int (x4)), some (.int (x5)), some (.int (x6)), some (.int (x7)), some (.int (r47))] [.int ((if r47 ≤ 0 then nI 0 else nI 1)), .int (x3)] h48 (pI Q) := by
          refine q_le (ls' := [some _, some _, some _, none, some _, some _, some _, some _, some _]) ⟨rfl, rfl, rfl, rfl, rfl, rfl, rfl, rfl, trivial⟩ ?_
          exact tX9_twos_127 hK38 ih _ _ _ _ _ _ _ _ _ _ _ hw
        refine q_if_le (tgt := 126) eX9_twos_119 (by decide) (fun c => ?_) (fun c => ?_)
        · refine q_iconst (v := nI 0) eX9_twos_126 (by decide) ?_
          rw [if_pos c] at hj52
          exact hj52
        · refine q_iconst (v := nI 1) eX9_twos_122 (by decide) ?_
          refine q_goto (tgt := 127) eX9_twos_123 (by decide) ?_
          rw [if_neg c] at hj52
          exact hj52
def wX9_twos_38 (Q : Int32 → MH → Prop) : Nat → Nat → Int32 → Int32 → Int32 → Int32 → Int32 → Int32 → MH → Prop
  | 0, _, _, _, _, _, _, _, _ => False
  | n + 1, x0, x1, x2, x3, x4, x5, x6, h => hS h x0 = (1, 9) ∧ ∃ a15, hR h x0 1 = some a15 ∧ hS h a15 = (1, 4) ∧ (hI h a15 3 ≤ x6 → Q ((if x1 = 0 then x2 else (if x1 = nI 1 then x3 else x5))) h) ∧ (¬ (hI h a15 3 ≤ x6) → ∃ a21, hR h x0 4 = some a21 ∧ ∃ n24, hS h a21 = (6, n24) ∧ vp_in (nI 0) n24 ∧ ∃ a26, hR h a21 (nI 0).toNatClampNeg = some a26 ∧ vp_in (nI 1) n24 ∧ ∃ a29, hR h a21 (nI 1).toNatClampNeg = some a29 ∧ wX9_lostBehind x0 a26 x6 a29 h (fun r31 h32 => ∃ m53, wX9_twos_72 Q (wX9_twos_38 Q n) m53 x0 x1 x2 x3 x4 x5 x6 (nI 0) h32))
set_option maxHeartbeats 4000000 in
set_option maxRecDepth 100000 in
theorem tX9_twos_38 {Q : Int32 → MH → Prop} : ∀ (n : Nat) (h : MH) (x0 : Nat) (x1 : Int32) (x2 : Int32) (x3 : Int32) (x4 : Int32) (x5 : Int32) (x6 : Int32), wX9_twos_38 Q n x0 x1 x2 x3 x4 x5 x6 h → Wm MX9_twos 5 0 0 38 [some (.ref (x0)), some (.int (x1)), some (.int (x2)), some (.int (x3)), some (.int (x4)), some (.int (x5)), some (.int (x6)), none, none] [] h (pI Q) := by
  intro n
  induction n with
  | zero => intro h x0 x1 x2 x3 x4 x5 x6 hw; exact hw.elim
  | succ n ih =>
    intro h x0 x1 x2 x3 x4 x5 x6 hw
    unfold wX9_twos_38 at hw
    refine q_iload eX9_twos_38 rfl ?_
    refine q_aload_nr eX9_twos_40 rfl ?_
    obtain ⟨hs14, hw⟩ := hw
    obtain ⟨a15, hr16, hw⟩ := hw
    refine q_getR flX9_19 rfl hs14 hr16 eX9_twos_41 ?_
    obtain ⟨hs17, hw⟩ := hw
    refine q_getI flX9_309 rfl hs17 eX9_twos_44 ?_
    obtain ⟨hw1, hw2⟩ := hw
    refine q_icmp_ge (tgt := 172) eX9_twos_47 (by decide) (fun c => ?_) (fun c => ?_)
    · have hw := hw1 c
      refine q_iload_n eX9_twos_172 rfl ?_
      have hj19 : Wm MX9_twos 5 0 0 191 [some (.ref (x0)), some (.int (x1)), some (.int (x2)), some (.int (x3)), some (.int (x4)), some (.int (x5)), some (.int (x6)), none, none] [.int ((if x1 = 0 then x2 else (if x1 = nI 1 then x3 else x5)))] h (pI Q) := by
        exact q_ret rfl eX9_twos_191 ⟨_, rfl, hw⟩
      refine q_if_ne (tgt := 180) eX9_twos_173 (by decide) (fun c => ?_) (fun c => ?_)
      · refine q_iload_n eX9_twos_180 rfl ?_
        refine q_iconst (v := nI 1) eX9_twos_181 (by decide) ?_
        have hj20 : Wm MX9_twos 5 0 0 191 [some (.ref (x0)), some (.int (x1)), some (.int (x2)), some (.int (x3)), some (.int (x4)), some (.int (x5)), some (.int (x6)), none, none] [.int ((if x1 = nI 1 then x3 else x5))] h (pI Q) := by
          rw [if_neg c] at hj19
          exact hj19
        refine q_icmp_ne (tgt := 189) eX9_twos_182 (by decide) (fun c => ?_) (fun c => ?_)
        · refine q_iload eX9_twos_189 rfl ?_
          rw [if_neg c] at hj20
          exact hj20
        · refine q_iload_n eX9_twos_185 rfl ?_
          refine q_goto (tgt := 191) eX9_twos_186 (by decide) ?_
          rw [if_pos c] at hj20
          exact hj20
      · refine q_iload_n eX9_twos_176 rfl ?_
        refine q_goto (tgt := 191) eX9_twos_177 (by decide) ?_
        rw [if_pos c] at hj19
        exact hj19
    · have hw := hw2 c
      refine q_aload_nr eX9_twos_50 rfl ?_
      refine q_aload_nr eX9_twos_51 rfl ?_
      obtain ⟨a21, hr22, hw⟩ := hw
      refine q_getR flX9_37 rfl hs14 hr22 eX9_twos_52 ?_
      refine q_iconst (v := nI 0) eX9_twos_55 (by decide) ?_
      obtain ⟨n24, hs23, hw⟩ := hw
      obtain ⟨hi25, hw⟩ := hw
      obtain ⟨a26, hr27, hw⟩ := hw
      refine q_aald (Or.inl rfl) hs23 hi25 hr27 eX9_twos_56 ?_
      refine q_iload eX9_twos_57 rfl ?_
      refine q_aload_nr eX9_twos_59 rfl ?_
      refine q_getR flX9_37 rfl hs14 hr22 eX9_twos_60 ?_
      refine q_iconst (v := nI 1) eX9_twos_63 (by decide) ?_
      obtain ⟨hi28, hw⟩ := hw
      obtain ⟨a29, hr30, hw⟩ := hw
      refine q_aald (Or.inl rfl) hs23 hi28 hr30 eX9_twos_64 ?_
      refine q_callV (b := 0) (t := 0) (gX9_lostBehind _ _ _ _ _ _ hw) mlX9_305 kX9_lostBehind vX9_lostBehind rfl hs14 ⟨rfl, rfl⟩ (by decide) rfl (Nat.le_of_ble_eq_true rfl) eX9_twos_65 (kI fun r31 h32 hw => ?_)
      refine q_pop eX9_twos_68 rfl ?_
      refine q_iconst (v := nI 0) eX9_twos_69 (by decide) ?_
      refine x_istore (ls' := [_, _, _, _, _, _, _, _, _]) eX9_twos_70 (by decide) rfl rfl ?_
      refine q_le (ls' := [some _, some _, some _, some _, some _, some _, some _, some _, none]) ⟨rfl, rfl, rfl, rfl, rfl, rfl, rfl, rfl, trivial⟩ ?_
      obtain ⟨m53, hw⟩ := hw
      exact tX9_twos_72 ih m53 _ _ _ _ _ _ _ _ _ hw
def wX9_twos (x0 : Nat) (x1 : Int32) (h : MH) (Q : Int32 → MH → Prop) : Prop := (x1 < 0 → Q ((-2 : Int32)) h) ∧ (¬ (x1 < 0) → (x1 ≤ nI 2 → hS h x0 = (1, 9) ∧ ∃ a2, hR h x0 4 = some a2 ∧ ∃ n5, hS h a2 = (6, n5) ∧ vp_in (nI 0) n5 ∧ ∃ a7, hR h a2 (nI 0).toNatClampNeg = some a7 ∧ ∃ a9, hR h x0 2 = some a9 ∧ hS h a7 = (1, 6) ∧ wX6_freshFrom a7 a9 h (fun h13 => ∃ m54, wX9_twos_38 Q m54 x0 x1 (nI 0) (nI 0) (-1 : Int32) (-1 : Int32) (nI 0) h13)) ∧ (¬ (x1 ≤ nI 2) → Q ((-2 : Int32)) h))
set_option maxHeartbeats 4000000 in
set_option maxRecDepth 100000 in
theorem gX9_twos (x0 : Nat) (x1 : Int32) (h : MH) (Q : Int32 → MH → Prop) (hw : wX9_twos x0 x1 h Q) : Cm MX9_twos 5 0 0 [.ref (x0), .int (x1)] h (pI Q) := by
  refine cm_of [some (.ref (x0)), some (.int (x1)), none, none, none, none, none, none, none] rfl pnX9 (Nat.le_of_ble_eq_true rfl) rfl ?_
  unfold wX9_twos at hw
  refine q_iload_n eX9_twos_0 rfl ?_
  obtain ⟨hw1, hw2⟩ := hw
  refine q_if_lt (tgt := 9) eX9_twos_1 (by decide) (fun c => ?_) (fun c => ?_)
  · have hw := hw1 c
    refine q_bipush (v := (-2 : Int32)) eX9_twos_9 (by decide) ?_
    exact q_ret rfl eX9_twos_11 ⟨_, rfl, hw⟩
  · have hw := hw2 c
    refine q_iload_n eX9_twos_4 rfl ?_
    refine q_iconst (v := nI 2) eX9_twos_5 (by decide) ?_
    obtain ⟨hw1, hw2⟩ := hw
    refine q_icmp_le (tgt := 12) eX9_twos_6 (by decide) (fun c => ?_) (fun c => ?_)
    · have hw := hw1 c
      refine q_iconst (v := nI 0) eX9_twos_12 (by decide) ?_
      refine x_istore_n (ls' := [_, _, _, _, _, _, _, _, _]) eX9_twos_13 (by decide) rfl rfl ?_
      refine q_iconst (v := nI 0) eX9_twos_14 (by decide) ?_
      refine x_istore_n (ls' := [_, _, _, _, _, _, _, _, _]) eX9_twos_15 (by decide) rfl rfl ?_
      refine q_iconst (v := (-1 : Int32)) eX9_twos_16 (by decide) ?_
      refine x_istore (ls' := [_, _, _, _, _, _, _, _, _]) eX9_twos_17 (by decide) rfl rfl ?_
      refine q_iconst (v := (-1 : Int32)) eX9_twos_19 (by decide) ?_
      refine x_istore (ls' := [_, _, _, _, _, _, _, _, _]) eX9_twos_20 (by decide) rfl rfl ?_
      refine q_aload_nr eX9_twos_22 rfl ?_
      obtain ⟨hs1, hw⟩ := hw
      obtain ⟨a2, hr3, hw⟩ := hw
      refine q_getR flX9_37 rfl hs1 hr3 eX9_twos_23 ?_
      refine q_iconst (v := nI 0) eX9_twos_26 (by decide) ?_
      obtain ⟨n5, hs4, hw⟩ := hw
      obtain ⟨hi6, hw⟩ := hw
      obtain ⟨a7, hr8, hw⟩ := hw
      refine q_aald (Or.inl rfl) hs4 hi6 hr8 eX9_twos_27 ?_
      refine q_aload_nr eX9_twos_28 rfl ?_
      obtain ⟨a9, hr10, hw⟩ := hw
      refine q_getR flX9_26 rfl hs1 hr10 eX9_twos_29 ?_
      obtain ⟨hs11, hw⟩ := hw
      refine q_callV (b := 0) (t := 0) (gX6_freshFrom _ _ _ _ hw) mlX9_312 kX6_freshFrom vX6_freshFrom rfl hs11 ⟨rfl, rfl⟩ (by decide) rfl (Nat.le_of_ble_eq_true rfl) eX9_twos_32 (kV fun h13 hw => ?_)
      refine q_iconst (v := nI 0) eX9_twos_35 (by decide) ?_
      refine x_istore (ls' := [_, _, _, _, _, _, _, _, _]) eX9_twos_36 (by decide) rfl rfl ?_
      refine q_le (ls' := [some _, some _, some _, some _, some _, some _, some _, none, none]) ⟨rfl, rfl, rfl, rfl, rfl, rfl, rfl, trivial⟩ ?_
      obtain ⟨m54, hw⟩ := hw
      exact tX9_twos_38 m54 _ _ _ _ _ _ _ _ hw
    · have hw := hw2 c
      refine q_bipush (v := (-2 : Int32)) eX9_twos_9 (by decide) ?_
      exact q_ret rfl eX9_twos_11 ⟨_, rfl, hw⟩
def wX9_stands_17 (Q : Int32 → MH → Prop) : Nat → Nat → Nat → Int32 → MH → Prop
  | 0, _, _, _, _ => False
  | n + 1, x0, x1, x2, h => hS h x0 = (1, 9) ∧ ∃ a15, hR h x0 1 = some a15 ∧ hS h a15 = (1, 4) ∧ (hI h a15 3 ≤ x2 → Q ((-1 : Int32)) h) ∧ (¬ (hI h a15 3 ≤ x2) → ∃ a18, hR h x0 6 = some a18 ∧ hS h a18 = (1, 7) ∧ wX7_failLink a18 a15 x1 x2 h (fun r21 h22 => hS h22 x0 = (1, 9) ∧ ∃ a24, hR h22 x0 6 = some a24 ∧ ∃ a26, hR h22 x0 1 = some a26 ∧ hS h22 a24 = (1, 7) ∧ wX7_lostUnits a24 a26 x1 h22 (fun r29 h30 => (r29 ≤ 0 → wX9_stands_17 Q n x0 x1 (x2 + nI 1) h30) ∧ (¬ (r29 ≤ 0) → Q ((x2 + nI 1)) h30))))
set_option maxHeartbeats 4000000 in
set_option maxRecDepth 100000 in
theorem tX9_stands_17 {Q : Int32 → MH → Prop} : ∀ (n : Nat) (h : MH) (x0 : Nat) (x1 : Nat) (x2 : Int32), wX9_stands_17 Q n x0 x1 x2 h → Wm MX9_stands 4 0 0 17 [some (.ref (x0)), some (.ref (x1)), some (.int (x2))] [] h (pI Q) := by
  intro n
  induction n with
  | zero => intro h x0 x1 x2 hw; exact hw.elim
  | succ n ih =>
    intro h x0 x1 x2 hw
    unfold wX9_stands_17 at hw
    refine q_iload_n eX9_stands_17 rfl ?_
    refine q_aload_nr eX9_stands_18 rfl ?_
    obtain ⟨hs14, hw⟩ := hw
    obtain ⟨a15, hr16, hw⟩ := hw
    refine q_getR flX9_19 rfl hs14 hr16 eX9_stands_19 ?_
    obtain ⟨hs17, hw⟩ := hw
    refine q_getI flX9_309 rfl hs17 eX9_stands_22 ?_
    obtain ⟨hw1, hw2⟩ := hw
    refine q_icmp_ge (tgt := 67) eX9_stands_25 (by decide) (fun c => ?_) (fun c => ?_)
    · have hw := hw1 c
      refine q_iconst (v := (-1 : Int32)) eX9_stands_67 (by decide) ?_
      exact q_ret rfl eX9_stands_68 ⟨_, rfl, hw⟩
    · have hw := hw2 c
      refine q_aload_nr eX9_stands_28 rfl ?_
      obtain ⟨a18, hr19, hw⟩ := hw
      refine q_getR flX9_51 rfl hs14 hr19 eX9_stands_29 ?_
      refine q_aload_nr eX9_stands_32 rfl ?_
      refine q_getR flX9_19 rfl hs14 hr16 eX9_stands_33 ?_
      refine q_aload_nr eX9_stands_36 rfl ?_
      refine q_iload_n eX9_stands_37 rfl ?_
      obtain ⟨hs20, hw⟩ := hw
      refine q_callV (b := 0) (t := 0) (gX7_failLink _ _ _ _ _ _ hw) mlX9_197 kX7_failLink vX7_failLink rfl hs20 ⟨rfl, rfl⟩ (by decide) rfl (Nat.le_of_ble_eq_true rfl) eX9_stands_38 (kI fun r21 h22 hw => ?_)
      refine q_pop eX9_stands_41 rfl ?_
      refine q_aload_nr eX9_stands_42 rfl ?_
      obtain ⟨hs23, hw⟩ := hw
      obtain ⟨a24, hr25, hw⟩ := hw
      refine q_getR flX9_51 rfl hs23 hr25 eX9_stands_43 ?_
      refine q_aload_nr eX9_stands_46 rfl ?_
      obtain ⟨a26, hr27, hw⟩ := hw
      refine q_getR flX9_19 rfl hs23 hr27 eX9_stands_47 ?_
      refine q_aload_nr eX9_stands_50 rfl ?_
      obtain ⟨hs28, hw⟩ := hw
      refine q_callV (b := 0) (t := 0) (gX7_lostUnits _ _ _ _ _ hw) mlX9_200 kX7_lostUnits vX7_lostUnits rfl hs28 ⟨rfl, rfl⟩ (by decide) rfl (Nat.le_of_ble_eq_true rfl) eX9_stands_51 (kI fun r29 h30 hw => ?_)
      obtain ⟨hw1, hw2⟩ := hw
      refine q_if_le (tgt := 61) eX9_stands_54 (by decide) (fun c => ?_) (fun c => ?_)
      · have hw := hw1 c
        refine x_iinc (v := (x2 + nI 1)) (ls' := [_, _, _]) eX9_stands_61 rfl rfl rfl rfl ?_
        refine q_goto (tgt := 17) eX9_stands_64 (by decide) ?_
        refine q_le (ls' := [some _, some _, some _]) ⟨rfl, rfl, rfl, trivial⟩ ?_
        exact ih _ _ _ _ hw
      · have hw := hw2 c
        refine q_iload_n eX9_stands_57 rfl ?_
        refine q_iconst (v := nI 1) eX9_stands_58 (by decide) ?_
        refine q_iadd eX9_stands_59 ?_
        exact q_ret rfl eX9_stands_60 ⟨_, rfl, hw⟩
def wX9_stands (x0 : Nat) (h : MH) (Q : Int32 → MH → Prop) : Prop := hS h x0 = (1, 9) ∧ ∃ a2, hR h x0 4 = some a2 ∧ ∃ n5, hS h a2 = (6, n5) ∧ vp_in (nI 0) n5 ∧ ∃ a7, hR h a2 (nI 0).toNatClampNeg = some a7 ∧ ∃ a9, hR h x0 2 = some a9 ∧ hS h a7 = (1, 6) ∧ wX6_freshFrom a7 a9 h (fun h13 => ∃ m31, wX9_stands_17 Q m31 x0 a7 (nI 0) h13)
set_option maxHeartbeats 4000000 in
set_option maxRecDepth 100000 in
theorem gX9_stands (x0 : Nat) (h : MH) (Q : Int32 → MH → Prop) (hw : wX9_stands x0 h Q) : Cm MX9_stands 4 0 0 [.ref (x0)] h (pI Q) := by
  refine cm_of [some (.ref (x0)), none, none] rfl pnX9 (Nat.le_of_ble_eq_true rfl) rfl ?_
  unfold wX9_stands at hw
  refine q_aload_nr eX9_stands_0 rfl ?_
  obtain ⟨hs1, hw⟩ := hw
  obtain ⟨a2, hr3, hw⟩ := hw
  refine q_getR flX9_37 rfl hs1 hr3 eX9_stands_1 ?_
  refine q_iconst (v := nI 0) eX9_stands_4 (by decide) ?_
  obtain ⟨n5, hs4, hw⟩ := hw
  obtain ⟨hi6, hw⟩ := hw
  obtain ⟨a7, hr8, hw⟩ := hw
  refine q_aald (Or.inl rfl) hs4 hi6 hr8 eX9_stands_5 ?_
  refine x_astore_nr (ls' := [_, _, _]) eX9_stands_6 (by decide) rfl rfl ?_
  refine q_aload_nr eX9_stands_7 rfl ?_
  refine q_aload_nr eX9_stands_8 rfl ?_
  obtain ⟨a9, hr10, hw⟩ := hw
  refine q_getR flX9_26 rfl hs1 hr10 eX9_stands_9 ?_
  obtain ⟨hs11, hw⟩ := hw
  refine q_callV (b := 0) (t := 0) (gX6_freshFrom _ _ _ _ hw) mlX9_312 kX6_freshFrom vX6_freshFrom rfl hs11 ⟨rfl, rfl⟩ (by decide) rfl (Nat.le_of_ble_eq_true rfl) eX9_stands_12 (kV fun h13 hw => ?_)
  refine q_iconst (v := nI 0) eX9_stands_15 (by decide) ?_
  refine x_istore_n (ls' := [_, _, _]) eX9_stands_16 (by decide) rfl rfl ?_
  refine q_le (ls' := [some _, some _, some _]) ⟨rfl, rfl, rfl, trivial⟩ ?_
  obtain ⟨m31, hw⟩ := hw
  exact tX9_stands_17 m31 _ _ _ _ hw
def wX9_rings (x0 : Nat) (h : MH) (Q : Int32 → MH → Prop) : Prop := hS h x0 = (1, 9) ∧ ∃ a2, hR h x0 1 = some a2 ∧ ∃ a4, hR h x0 2 = some a4 ∧ hS h a4 = (1, 6) ∧ hS h a2 = (1, 4) ∧ wX4_ringCount a2 (hI h a4 0) h (fun r8 h9 => Q (r8) h9)
set_option maxHeartbeats 4000000 in
set_option maxRecDepth 100000 in
theorem gX9_rings (x0 : Nat) (h : MH) (Q : Int32 → MH → Prop) (hw : wX9_rings x0 h Q) : Cm MX9_rings 2 0 0 [.ref (x0)] h (pI Q) := by
  refine cm_of [some (.ref (x0))] rfl pnX9 (Nat.le_of_ble_eq_true rfl) rfl ?_
  unfold wX9_rings at hw
  refine q_aload_nr eX9_rings_0 rfl ?_
  obtain ⟨hs1, hw⟩ := hw
  obtain ⟨a2, hr3, hw⟩ := hw
  refine q_getR flX9_19 rfl hs1 hr3 eX9_rings_1 ?_
  refine q_aload_nr eX9_rings_4 rfl ?_
  obtain ⟨a4, hr5, hw⟩ := hw
  refine q_getR flX9_26 rfl hs1 hr5 eX9_rings_5 ?_
  obtain ⟨hs6, hw⟩ := hw
  refine q_getI flX9_145 rfl hs6 eX9_rings_8 ?_
  obtain ⟨hs7, hw⟩ := hw
  refine q_callV (b := 0) (t := 0) (gX4_ringCount _ _ _ _ hw) mlX9_171 kX4_ringCount vX4_ringCount rfl hs7 ⟨rfl, rfl⟩ (by decide) rfl (Nat.le_of_ble_eq_true rfl) eX9_rings_11 (kI fun r8 h9 hw => ?_)
  exact q_ret rfl eX9_rings_14 ⟨_, rfl, hw⟩
def wX9_bare (x0 : Nat) (h : MH) (Q : Int32 → MH → Prop) : Prop := hS h x0 = (1, 9) ∧ ∃ a2, hR h x0 7 = some a2 ∧ ∃ a4, hR h x0 1 = some a4 ∧ ∃ a6, hR h x0 2 = some a6 ∧ hS h a6 = (1, 6) ∧ hS h a2 = (1, 0) ∧ wX0_withoutUse a2 a4 (hI h a6 0) h (fun r10 h11 => Q (r10) h11)
set_option maxHeartbeats 4000000 in
set_option maxRecDepth 100000 in
theorem gX9_bare (x0 : Nat) (h : MH) (Q : Int32 → MH → Prop) (hw : wX9_bare x0 h Q) : Cm MX9_bare 4 0 0 [.ref (x0)] h (pI Q) := by
  refine cm_of [some (.ref (x0))] rfl pnX9 (Nat.le_of_ble_eq_true rfl) rfl ?_
  unfold wX9_bare at hw
  refine q_aload_nr eX9_bare_0 rfl ?_
  obtain ⟨hs1, hw⟩ := hw
  obtain ⟨a2, hr3, hw⟩ := hw
  refine q_getR flX9_58 rfl hs1 hr3 eX9_bare_1 ?_
  refine q_aload_nr eX9_bare_4 rfl ?_
  obtain ⟨a4, hr5, hw⟩ := hw
  refine q_getR flX9_19 rfl hs1 hr5 eX9_bare_5 ?_
  refine q_aload_nr eX9_bare_8 rfl ?_
  obtain ⟨a6, hr7, hw⟩ := hw
  refine q_getR flX9_26 rfl hs1 hr7 eX9_bare_9 ?_
  obtain ⟨hs8, hw⟩ := hw
  refine q_getI flX9_145 rfl hs8 eX9_bare_12 ?_
  obtain ⟨hs9, hw⟩ := hw
  refine q_callV (b := 0) (t := 0) (gX0_withoutUse _ _ _ _ _ hw) mlX9_318 kX0_withoutUse vX0_withoutUse rfl hs9 ⟨rfl, rfl⟩ (by decide) rfl (Nat.le_of_ble_eq_true rfl) eX9_bare_15 (kI fun r10 h11 hw => ?_)
  exact q_ret rfl eX9_bare_18 ⟨_, rfl, hw⟩
def wX9_bridges_4 (Q : Int32 → MH → Prop) : Nat → Nat → Int32 → Int32 → MH → Prop
  | 0, _, _, _, _ => False
  | n + 1, x0, x1, x2, h => hS h x0 = (1, 9) ∧ ∃ a2, hR h x0 1 = some a2 ∧ hS h a2 = (1, 4) ∧ (hI h a2 3 ≤ x2 → Q (x1) h) ∧ (¬ (hI h a2 3 ≤ x2) → ∃ a5, hR h a2 4 = some a5 ∧ ∃ n8, hS h a5 = (2, n8) ∧ vp_in (x2) n8 ∧ wX4_comeTo a2 (hI h a5 (x2).toNatClampNeg) (nI 1 <<< (x2 &&& 31)) h (fun r10 h11 => hS h11 x0 = (1, 9) ∧ ∃ a13, hR h11 x0 1 = some a13 ∧ hS h11 a13 = (1, 4) ∧ ∃ a16, hR h11 a13 5 = some a16 ∧ ∃ n19, hS h11 a16 = (2, n19) ∧ vp_in (x2) n19 ∧ (¬ ((r10 &&& (nI 1 <<< (hI h11 a16 (x2).toNatClampNeg &&& 31))) = 0) → wX9_bridges_4 Q n x0 x1 (x2 + nI 1) h11) ∧ ((r10 &&& (nI 1 <<< (hI h11 a16 (x2).toNatClampNeg &&& 31))) = 0 → wX9_bridges_4 Q n x0 (x1 ||| (nI 1 <<< (x2 &&& 31))) (x2 + nI 1) h11)))
set_option maxHeartbeats 4000000 in
set_option maxRecDepth 100000 in
theorem tX9_bridges_4 {Q : Int32 → MH → Prop} : ∀ (n : Nat) (h : MH) (x0 : Nat) (x1 : Int32) (x2 : Int32), wX9_bridges_4 Q n x0 x1 x2 h → Wm MX9_bridges 1 0 0 4 [some (.ref (x0)), some (.int (x1)), some (.int (x2))] [] h (pI Q) := by
  intro n
  induction n with
  | zero => intro h x0 x1 x2 hw; exact hw.elim
  | succ n ih =>
    intro h x0 x1 x2 hw
    unfold wX9_bridges_4 at hw
    refine q_iload_n eX9_bridges_4 rfl ?_
    refine q_aload_nr eX9_bridges_5 rfl ?_
    obtain ⟨hs1, hw⟩ := hw
    obtain ⟨a2, hr3, hw⟩ := hw
    refine q_getR flX9_19 rfl hs1 hr3 eX9_bridges_6 ?_
    obtain ⟨hs4, hw⟩ := hw
    refine q_getI flX9_309 rfl hs4 eX9_bridges_9 ?_
    obtain ⟨hw1, hw2⟩ := hw
    refine q_icmp_ge (tgt := 61) eX9_bridges_12 (by decide) (fun c => ?_) (fun c => ?_)
    · have hw := hw1 c
      refine q_iload_n eX9_bridges_61 rfl ?_
      exact q_ret rfl eX9_bridges_62 ⟨_, rfl, hw⟩
    · have hw := hw2 c
      refine q_aload_nr eX9_bridges_15 rfl ?_
      refine q_getR flX9_19 rfl hs1 hr3 eX9_bridges_16 ?_
      refine q_aload_nr eX9_bridges_19 rfl ?_
      refine q_getR flX9_19 rfl hs1 hr3 eX9_bridges_20 ?_
      obtain ⟨a5, hr6, hw⟩ := hw
      refine q_getR flX9_121 rfl hs4 hr6 eX9_bridges_23 ?_
      refine q_iload_n eX9_bridges_26 rfl ?_
      obtain ⟨n8, hs7, hw⟩ := hw
      obtain ⟨hi9, hw⟩ := hw
      refine q_iald hs7 hi9 eX9_bridges_27 ?_
      refine q_iconst (v := nI 1) eX9_bridges_28 (by decide) ?_
      refine q_iload_n eX9_bridges_29 rfl ?_
      refine q_ishl eX9_bridges_30 ?_
      refine q_callV (b := 0) (t := 0) (gX4_comeTo _ _ _ _ _ hw) mlX9_322 kX4_comeTo vX4_comeTo rfl hs4 ⟨rfl, rfl⟩ (by decide) rfl (Nat.le_of_ble_eq_true rfl) eX9_bridges_31 (kI fun r10 h11 hw => ?_)
      refine q_iconst (v := nI 1) eX9_bridges_34 (by decide) ?_
      refine q_aload_nr eX9_bridges_35 rfl ?_
      obtain ⟨hs12, hw⟩ := hw
      obtain ⟨a13, hr14, hw⟩ := hw
      refine q_getR flX9_19 rfl hs12 hr14 eX9_bridges_36 ?_
      obtain ⟨hs15, hw⟩ := hw
      obtain ⟨a16, hr17, hw⟩ := hw
      refine q_getR flX9_125 rfl hs15 hr17 eX9_bridges_39 ?_
      refine q_iload_n eX9_bridges_42 rfl ?_
      obtain ⟨n19, hs18, hw⟩ := hw
      obtain ⟨hi20, hw⟩ := hw
      refine q_iald hs18 hi20 eX9_bridges_43 ?_
      refine q_ishl eX9_bridges_44 ?_
      refine q_iand eX9_bridges_45 ?_
      obtain ⟨hw1, hw2⟩ := hw
      refine q_if_ne (tgt := 55) eX9_bridges_46 (by decide) (fun c => ?_) (fun c => ?_)
      · have hw := hw1 c
        refine x_iinc (v := (x2 + nI 1)) (ls' := [_, _, _]) eX9_bridges_55 rfl rfl rfl rfl ?_
        refine q_goto (tgt := 4) eX9_bridges_58 (by decide) ?_
        refine q_le (ls' := [some _, some _, some _]) ⟨rfl, rfl, rfl, trivial⟩ ?_
        exact ih _ _ _ _ hw
      · have hw := hw2 c
        refine q_iload_n eX9_bridges_49 rfl ?_
        refine q_iconst (v := nI 1) eX9_bridges_50 (by decide) ?_
        refine q_iload_n eX9_bridges_51 rfl ?_
        refine q_ishl eX9_bridges_52 ?_
        refine q_ior eX9_bridges_53 ?_
        refine x_istore_n (ls' := [_, _, _]) eX9_bridges_54 (by decide) rfl rfl ?_
        refine x_iinc (v := (x2 + nI 1)) (ls' := [_, _, _]) eX9_bridges_55 rfl rfl rfl rfl ?_
        refine q_goto (tgt := 4) eX9_bridges_58 (by decide) ?_
        refine q_le (ls' := [some _, some _, some _]) ⟨rfl, rfl, rfl, trivial⟩ ?_
        exact ih _ _ _ _ hw
def wX9_bridges (x0 : Nat) (h : MH) (Q : Int32 → MH → Prop) : Prop := ∃ m21, wX9_bridges_4 Q m21 x0 (nI 0) (nI 0) h
set_option maxHeartbeats 4000000 in
set_option maxRecDepth 100000 in
theorem gX9_bridges (x0 : Nat) (h : MH) (Q : Int32 → MH → Prop) (hw : wX9_bridges x0 h Q) : Cm MX9_bridges 1 0 0 [.ref (x0)] h (pI Q) := by
  refine cm_of [some (.ref (x0)), none, none] rfl pnX9 (Nat.le_of_ble_eq_true rfl) rfl ?_
  unfold wX9_bridges at hw
  refine q_iconst (v := nI 0) eX9_bridges_0 (by decide) ?_
  refine x_istore_n (ls' := [_, _, _]) eX9_bridges_1 (by decide) rfl rfl ?_
  refine q_iconst (v := nI 0) eX9_bridges_2 (by decide) ?_
  refine x_istore_n (ls' := [_, _, _]) eX9_bridges_3 (by decide) rfl rfl ?_
  refine q_le (ls' := [some _, some _, some _]) ⟨rfl, rfl, rfl, trivial⟩ ?_
  obtain ⟨m21, hw⟩ := hw
  exact tX9_bridges_4 m21 _ _ _ _ hw
def wX9_cut (x0 : Nat) (x1 : Int32) (x2 : Int32) (x3 : Int32) (h : MH) (Q : Int32 → MH → Prop) : Prop := hS h x0 = (1, 9) ∧ ∃ a2, hR h x0 1 = some a2 ∧ hS h a2 = (1, 4) ∧ wX4_hasNode a2 x1 h (fun r5 h6 => (r5 = 0 → Q ((-2 : Int32)) h6) ∧ (¬ (r5 = 0) → hS h6 x0 = (1, 9) ∧ ∃ a8, hR h6 x0 1 = some a8 ∧ hS h6 a8 = (1, 4) ∧ wX4_hasNode a8 x2 h6 (fun r11 h12 => (r11 = 0 → Q ((-2 : Int32)) h12) ∧ (¬ (r11 = 0) → (x3 < 0 → Q ((-2 : Int32)) h12) ∧ (¬ (x3 < 0) → (x3 ≤ nI 1 → (¬ (x1 = x2) → hS h12 x0 = (1, 9) ∧ ∃ a14, hR h12 x0 1 = some a14 ∧ hS h12 a14 = (1, 4) ∧ wX4_leastCut a14 x1 x2 h12 (fun r17 h18 => (¬ (x3 = 0) → Q (r17) h18) ∧ (x3 = 0 → wJ6_bitCount_0f7a4 r17 h18 (fun r19 h20 => Q (r19) h20)))) ∧ (x1 = x2 → Q ((-1 : Int32)) h12)) ∧ (¬ (x3 ≤ nI 1) → Q ((-2 : Int32)) h12))))))
set_option maxHeartbeats 4000000 in
set_option maxRecDepth 100000 in
theorem gX9_cut (x0 : Nat) (x1 : Int32) (x2 : Int32) (x3 : Int32) (h : MH) (Q : Int32 → MH → Prop) (hw : wX9_cut x0 x1 x2 x3 h Q) : Cm MX9_cut 2 0 0 [.ref (x0), .int (x1), .int (x2), .int (x3)] h (pI Q) := by
  refine cm_of [some (.ref (x0)), some (.int (x1)), some (.int (x2)), some (.int (x3)), none] rfl pnX9 (Nat.le_of_ble_eq_true rfl) rfl ?_
  unfold wX9_cut at hw
  refine q_aload_nr eX9_cut_0 rfl ?_
  obtain ⟨hs1, hw⟩ := hw
  obtain ⟨a2, hr3, hw⟩ := hw
  refine q_getR flX9_19 rfl hs1 hr3 eX9_cut_1 ?_
  refine q_iload_n eX9_cut_4 rfl ?_
  obtain ⟨hs4, hw⟩ := hw
  refine q_callV (b := 0) (t := 0) (gX4_hasNode _ _ _ _ hw) mlX9_325 kX4_hasNode vX4_hasNode rfl hs4 ⟨rfl, rfl⟩ (by decide) rfl (Nat.le_of_ble_eq_true rfl) eX9_cut_5 (kI fun r5 h6 hw => ?_)
  obtain ⟨hw1, hw2⟩ := hw
  refine q_if_eq (tgt := 31) eX9_cut_8 (by decide) (fun c => ?_) (fun c => ?_)
  · have hw := hw1 c
    refine q_bipush (v := (-2 : Int32)) eX9_cut_31 (by decide) ?_
    exact q_ret rfl eX9_cut_33 ⟨_, rfl, hw⟩
  · have hw := hw2 c
    refine q_aload_nr eX9_cut_11 rfl ?_
    obtain ⟨hs7, hw⟩ := hw
    obtain ⟨a8, hr9, hw⟩ := hw
    refine q_getR flX9_19 rfl hs7 hr9 eX9_cut_12 ?_
    refine q_iload_n eX9_cut_15 rfl ?_
    obtain ⟨hs10, hw⟩ := hw
    refine q_callV (b := 0) (t := 0) (gX4_hasNode _ _ _ _ hw) mlX9_325 kX4_hasNode vX4_hasNode rfl hs10 ⟨rfl, rfl⟩ (by decide) rfl (Nat.le_of_ble_eq_true rfl) eX9_cut_16 (kI fun r11 h12 hw => ?_)
    obtain ⟨hw1, hw2⟩ := hw
    refine q_if_eq (tgt := 31) eX9_cut_19 (by decide) (fun c => ?_) (fun c => ?_)
    · have hw := hw1 c
      refine q_bipush (v := (-2 : Int32)) eX9_cut_31 (by decide) ?_
      exact q_ret rfl eX9_cut_33 ⟨_, rfl, hw⟩
    · have hw := hw2 c
      refine q_iload_n eX9_cut_22 rfl ?_
      obtain ⟨hw1, hw2⟩ := hw
      refine q_if_lt (tgt := 31) eX9_cut_23 (by decide) (fun c => ?_) (fun c => ?_)
      · have hw := hw1 c
        refine q_bipush (v := (-2 : Int32)) eX9_cut_31 (by decide) ?_
        exact q_ret rfl eX9_cut_33 ⟨_, rfl, hw⟩
      · have hw := hw2 c
        refine q_iload_n eX9_cut_26 rfl ?_
        refine q_iconst (v := nI 1) eX9_cut_27 (by decide) ?_
        obtain ⟨hw1, hw2⟩ := hw
        refine q_icmp_le (tgt := 34) eX9_cut_28 (by decide) (fun c => ?_) (fun c => ?_)
        · have hw := hw1 c
          refine q_iload_n eX9_cut_34 rfl ?_
          refine q_iload_n eX9_cut_35 rfl ?_
          obtain ⟨hw1, hw2⟩ := hw
          refine q_icmp_ne (tgt := 41) eX9_cut_36 (by decide) (fun c => ?_) (fun c => ?_)
          · have hw := hw1 c
            refine q_aload_nr eX9_cut_41 rfl ?_
            obtain ⟨hs13, hw⟩ := hw
            obtain ⟨a14, hr15, hw⟩ := hw
            refine q_getR flX9_19 rfl hs13 hr15 eX9_cut_42 ?_
            refine q_iload_n eX9_cut_45 rfl ?_
            refine q_iload_n eX9_cut_46 rfl ?_
            obtain ⟨hs16, hw⟩ := hw
            refine q_callV (b := 0) (t := 0) (gX4_leastCut _ _ _ _ _ hw) mlX9_328 kX4_leastCut vX4_leastCut rfl hs16 ⟨rfl, rfl⟩ (by decide) rfl (Nat.le_of_ble_eq_true rfl) eX9_cut_47 (kI fun r17 h18 hw => ?_)
            refine x_istore (ls' := [_, _, _, _, _]) eX9_cut_50 (by decide) rfl rfl ?_
            refine q_iload_n eX9_cut_52 rfl ?_
            obtain ⟨hw1, hw2⟩ := hw
            refine q_if_ne (tgt := 64) eX9_cut_53 (by decide) (fun c => ?_) (fun c => ?_)
            · have hw := hw1 c
              refine q_iload eX9_cut_64 rfl ?_
              exact q_ret rfl eX9_cut_66 ⟨_, rfl, hw⟩
            · have hw := hw2 c
              refine q_iload eX9_cut_56 rfl ?_
              refine q_callS (b := 0) (t := 0) (gJ6_bitCount_0f7a4 _ _ _ hw) mlX9_331 kJ6_bitCount_0f7a4 sJ6_bitCount_0f7a4 rfl (by decide) rfl (Nat.le_of_ble_eq_true rfl) eX9_cut_58 (kI fun r19 h20 hw => ?_)
              refine q_goto (tgt := 66) eX9_cut_61 (by decide) ?_
              exact q_ret rfl eX9_cut_66 ⟨_, rfl, hw⟩
          · have hw := hw2 c
            refine q_iconst (v := (-1 : Int32)) eX9_cut_39 (by decide) ?_
            exact q_ret rfl eX9_cut_40 ⟨_, rfl, hw⟩
        · have hw := hw2 c
          refine q_bipush (v := (-2 : Int32)) eX9_cut_31 (by decide) ?_
          exact q_ret rfl eX9_cut_33 ⟨_, rfl, hw⟩
def wX9_isPricedBy_2 (Q : Int32 → MH → Prop) : Nat → Nat → Nat → Int32 → Int32 → MH → Prop
  | 0, _, _, _, _, _ => False
  | n + 1, x0, x1, x2, x3, h => hS h x1 = (1, 8) ∧ (hI h x1 1 ≤ x3 → Q (nI 1) h) ∧ (¬ (hI h x1 1 ≤ x3) → ∃ a2, hR h x1 2 = some a2 ∧ ∃ n5, hS h a2 = (3, n5) ∧ vp_in (x3) n5 ∧ hS h x0 = (1, 9) ∧ ∃ a8, hR h x0 1 = some a8 ∧ ∃ a10, hR h x0 2 = some a10 ∧ hS h a10 = (1, 6) ∧ ¬ nI 1000 = 0 ∧ hS h a8 = (1, 4) ∧ wX4_cycleOf a8 (hI h a10 0) ((hL h a2 (x3).toNatClampNeg).toInt32 / nI 1000) h (fun r15 h16 => (r15 < 0 → Q (nI 0) h16) ∧ (¬ (r15 < 0) → hS h16 x0 = (1, 9) ∧ ∃ a18, hR h16 x0 1 = some a18 ∧ hS h16 a18 = (1, 4) ∧ wX4_priceOf a18 r15 x2 h16 (fun r21 h22 => ¬ nI 1000 = 0 ∧ (r21 = ((hL h a2 (x3).toNatClampNeg).toInt32 - (hL h a2 (x3).toNatClampNeg).toInt32 / nI 1000 * nI 1000) → wX9_isPricedBy_2 Q n x0 x1 x2 (x3 + nI 1) h22) ∧ (¬ (r21 = ((hL h a2 (x3).toNatClampNeg).toInt32 - (hL h a2 (x3).toNatClampNeg).toInt32 / nI 1000 * nI 1000)) → Q (nI 0) h22)))))
set_option maxHeartbeats 4000000 in
set_option maxRecDepth 100000 in
theorem tX9_isPricedBy_2 {Q : Int32 → MH → Prop} : ∀ (n : Nat) (h : MH) (x0 : Nat) (x1 : Nat) (x2 : Int32) (x3 : Int32), wX9_isPricedBy_2 Q n x0 x1 x2 x3 h → Wm MX9_isPricedBy 1 0 0 2 [some (.ref (x0)), some (.ref (x1)), some (.int (x2)), some (.int (x3)), none, none] [] h (pI Q) := by
  intro n
  induction n with
  | zero => intro h x0 x1 x2 x3 hw; exact hw.elim
  | succ n ih =>
    intro h x0 x1 x2 x3 hw
    unfold wX9_isPricedBy_2 at hw
    refine q_iload_n eX9_isPricedBy_2 rfl ?_
    refine q_aload_nr eX9_isPricedBy_3 rfl ?_
    obtain ⟨hs1, hw⟩ := hw
    refine q_getI flX9_231 rfl hs1 eX9_isPricedBy_4 ?_
    obtain ⟨hw1, hw2⟩ := hw
    refine q_icmp_ge (tgt := 73) eX9_isPricedBy_7 (by decide) (fun c => ?_) (fun c => ?_)
    · have hw := hw1 c
      refine q_iconst (v := nI 1) eX9_isPricedBy_73 (by decide) ?_
      exact q_retZ rfl (by decide) eX9_isPricedBy_74 ⟨_, rfl, hw⟩
    · have hw := hw2 c
      refine q_aload_nr eX9_isPricedBy_10 rfl ?_
      obtain ⟨a2, hr3, hw⟩ := hw
      refine q_getR flX9_232 rfl hs1 hr3 eX9_isPricedBy_11 ?_
      refine q_iload_n eX9_isPricedBy_14 rfl ?_
      obtain ⟨n5, hs4, hw⟩ := hw
      obtain ⟨hi6, hw⟩ := hw
      refine q_lald hs4 hi6 eX9_isPricedBy_15 ?_
      refine q_l2i eX9_isPricedBy_16 ?_
      refine x_istore (ls' := [_, _, _, _, _, _]) eX9_isPricedBy_17 (by decide) rfl rfl ?_
      refine q_aload_nr eX9_isPricedBy_19 rfl ?_
      obtain ⟨hs7, hw⟩ := hw
      obtain ⟨a8, hr9, hw⟩ := hw
      refine q_getR flX9_19 rfl hs7 hr9 eX9_isPricedBy_20 ?_
      refine q_aload_nr eX9_isPricedBy_23 rfl ?_
      obtain ⟨a10, hr11, hw⟩ := hw
      refine q_getR flX9_26 rfl hs7 hr11 eX9_isPricedBy_24 ?_
      obtain ⟨hs12, hw⟩ := hw
      refine q_getI flX9_145 rfl hs12 eX9_isPricedBy_27 ?_
      refine q_iload eX9_isPricedBy_30 rfl ?_
      refine q_sipush (v := nI 1000) eX9_isPricedBy_32 (by decide) ?_
      obtain ⟨hz13, hw⟩ := hw
      refine q_idiv eX9_isPricedBy_35 hz13 ?_
      obtain ⟨hs14, hw⟩ := hw
      refine q_callV (b := 0) (t := 0) (gX4_cycleOf _ _ _ _ _ hw) mlX9_148 kX4_cycleOf vX4_cycleOf rfl hs14 ⟨rfl, rfl⟩ (by decide) rfl (Nat.le_of_ble_eq_true rfl) eX9_isPricedBy_36 (kI fun r15 h16 hw => ?_)
      refine x_istore (ls' := [_, _, _, _, _, _]) eX9_isPricedBy_39 (by decide) rfl rfl ?_
      refine q_iload eX9_isPricedBy_41 rfl ?_
      obtain ⟨hw1, hw2⟩ := hw
      refine q_if_lt (tgt := 65) eX9_isPricedBy_43 (by decide) (fun c => ?_) (fun c => ?_)
      · have hw := hw1 c
        refine q_iconst (v := nI 0) eX9_isPricedBy_65 (by decide) ?_
        exact q_retZ rfl (by decide) eX9_isPricedBy_66 ⟨_, rfl, hw⟩
      · have hw := hw2 c
        refine q_aload_nr eX9_isPricedBy_46 rfl ?_
        obtain ⟨hs17, hw⟩ := hw
        obtain ⟨a18, hr19, hw⟩ := hw
        refine q_getR flX9_19 rfl hs17 hr19 eX9_isPricedBy_47 ?_
        refine q_iload eX9_isPricedBy_50 rfl ?_
        refine q_iload_n eX9_isPricedBy_52 rfl ?_
        obtain ⟨hs20, hw⟩ := hw
        refine q_callV (b := 0) (t := 0) (gX4_priceOf _ _ _ _ _ hw) mlX9_161 kX4_priceOf vX4_priceOf rfl hs20 ⟨rfl, rfl⟩ (by decide) rfl (Nat.le_of_ble_eq_true rfl) eX9_isPricedBy_53 (kI fun r21 h22 hw => ?_)
        refine q_iload eX9_isPricedBy_56 rfl ?_
        refine q_sipush (v := nI 1000) eX9_isPricedBy_58 (by decide) ?_
        obtain ⟨hz23, hw⟩ := hw
        refine q_irem eX9_isPricedBy_61 hz23 ?_
        obtain ⟨hw1, hw2⟩ := hw
        refine q_icmp_eq (tgt := 67) eX9_isPricedBy_62 (by decide) (fun c => ?_) (fun c => ?_)
        · have hw := hw1 c
          refine x_iinc (v := (x3 + nI 1)) (ls' := [_, _, _, _, _, _]) eX9_isPricedBy_67 rfl rfl rfl rfl ?_
          refine q_goto (tgt := 2) eX9_isPricedBy_70 (by decide) ?_
          refine q_le (ls' := [some _, some _, some _, some _, none, none]) ⟨rfl, rfl, rfl, rfl, trivial⟩ ?_
          exact ih _ _ _ _ _ hw
        · have hw := hw2 c
          refine q_iconst (v := nI 0) eX9_isPricedBy_65 (by decide) ?_
          exact q_retZ rfl (by decide) eX9_isPricedBy_66 ⟨_, rfl, hw⟩
def wX9_isPricedBy (x0 : Nat) (x1 : Nat) (x2 : Int32) (h : MH) (Q : Int32 → MH → Prop) : Prop := ∃ m24, wX9_isPricedBy_2 Q m24 x0 x1 x2 (nI 0) h
set_option maxHeartbeats 4000000 in
set_option maxRecDepth 100000 in
theorem gX9_isPricedBy (x0 : Nat) (x1 : Nat) (x2 : Int32) (h : MH) (Q : Int32 → MH → Prop) (hw : wX9_isPricedBy x0 x1 x2 h Q) : Cm MX9_isPricedBy 1 0 0 [.ref (x0), .ref (x1), .int (x2)] h (pI Q) := by
  refine cm_of [some (.ref (x0)), some (.ref (x1)), some (.int (x2)), none, none, none] rfl pnX9 (Nat.le_of_ble_eq_true rfl) rfl ?_
  unfold wX9_isPricedBy at hw
  refine q_iconst (v := nI 0) eX9_isPricedBy_0 (by decide) ?_
  refine x_istore_n (ls' := [_, _, _, _, _, _]) eX9_isPricedBy_1 (by decide) rfl rfl ?_
  refine q_le (ls' := [some _, some _, some _, some _, none, none]) ⟨rfl, rfl, rfl, rfl, trivial⟩ ?_
  obtain ⟨m24, hw⟩ := hw
  exact tX9_isPricedBy_2 m24 _ _ _ _ _ hw
def wX9_pricedRates_4 (Q : Int32 → MH → Prop) : Nat → Nat → Nat → Int32 → Int32 → MH → Prop
  | 0, _, _, _, _, _ => False
  | n + 1, x0, x1, x2, x3, h => (nI 10 ≤ x3 → Q (x2) h) ∧ (¬ (nI 10 ≤ x3) → hS h x0 = (1, 9) ∧ wX9_isPricedBy x0 x1 x3 h (fun r2 h3 => ∀ v5, v5 = (x2 ||| (if r2 = 0 then nI 0 else (nI 1 <<< (x3 &&& 31)))) → wX9_pricedRates_4 Q n x0 x1 v5 (x3 + nI 1) h3))
set_option maxHeartbeats 4000000 in
set_option maxRecDepth 100000 in
theorem tX9_pricedRates_4 {Q : Int32 → MH → Prop} : ∀ (n : Nat) (h : MH) (x0 : Nat) (x1 : Nat) (x2 : Int32) (x3 : Int32), wX9_pricedRates_4 Q n x0 x1 x2 x3 h → Wm MX9_pricedRates 2 0 0 4 [some (.ref (x0)), some (.ref (x1)), some (.int (x2)), some (.int (x3))] [] h (pI Q) := by
  intro n
  induction n with
  | zero => intro h x0 x1 x2 x3 hw; exact hw.elim
  | succ n ih =>
    intro h x0 x1 x2 x3 hw
    unfold wX9_pricedRates_4 at hw
    refine q_iload_n eX9_pricedRates_4 rfl ?_
    refine q_bipush (v := nI 10) eX9_pricedRates_5 (by decide) ?_
    obtain ⟨hw1, hw2⟩ := hw
    refine q_icmp_ge (tgt := 35) eX9_pricedRates_7 (by decide) (fun c => ?_) (fun c => ?_)
    · have hw := hw1 c
      refine q_iload_n eX9_pricedRates_35 rfl ?_
      exact q_ret rfl eX9_pricedRates_36 ⟨_, rfl, hw⟩
    · have hw := hw2 c
      refine q_iload_n eX9_pricedRates_10 rfl ?_
      refine q_aload_nr eX9_pricedRates_11 rfl ?_
      refine q_aload_nr eX9_pricedRates_12 rfl ?_
      refine q_iload_n eX9_pricedRates_13 rfl ?_
      obtain ⟨hs1, hw⟩ := hw
      refine q_callV (b := 0) (t := 0) (gX9_isPricedBy _ _ _ _ _ hw) mlX9_348 kX9_isPricedBy vX9_isPricedBy rfl hs1 ⟨rfl, rfl⟩ (by decide) rfl (Nat.le_of_ble_eq_true rfl) eX9_pricedRates_14 (kI fun r2 h3 hw => ?_)
      have hj6 : Wm MX9_pricedRates 2 0 0 27 [some (.ref (x0)), some (.ref (x1)), some (.int (x2)), some (.int (x3))] [.int ((if r2 = 0 then nI 0 else (nI 1 <<< (x3 &&& 31)))), .int (x2)] h3 (pI Q) := by
        refine q_ior eX9_pricedRates_27 ?_
        have hw := hw _ rfl
        refine x_istore_n (ls' := [_, _, _, _]) eX9_pricedRates_28 (by decide) rfl rfl ?_
        refine x_iinc (v := (x3 + nI 1)) (ls' := [_, _, _, _]) eX9_pricedRates_29 rfl rfl rfl rfl ?_
        refine q_goto (tgt := 4) eX9_pricedRates_32 (by decide) ?_
        refine q_le (ls' := [some _, some _, some _, some _]) ⟨rfl, rfl, rfl, rfl, trivial⟩ ?_
        exact ih _ _ _ _ _ hw
      refine q_if_eq (tgt := 26) eX9_pricedRates_17 (by decide) (fun c => ?_) (fun c => ?_)
      · refine q_iconst (v := nI 0) eX9_pricedRates_26 (by decide) ?_
        rw [if_pos c] at hj6
        exact hj6
      · refine q_iconst (v := nI 1) eX9_pricedRates_20 (by decide) ?_
        refine q_iload_n eX9_pricedRates_21 rfl ?_
        refine q_ishl eX9_pricedRates_22 ?_
        refine q_goto (tgt := 27) eX9_pricedRates_23 (by decide) ?_
        rw [if_neg c] at hj6
        exact hj6
def wX9_pricedRates (x0 : Nat) (x1 : Nat) (h : MH) (Q : Int32 → MH → Prop) : Prop := ∃ m7, wX9_pricedRates_4 Q m7 x0 x1 (nI 0) (nI 0) h
set_option maxHeartbeats 4000000 in
set_option maxRecDepth 100000 in
theorem gX9_pricedRates (x0 : Nat) (x1 : Nat) (h : MH) (Q : Int32 → MH → Prop) (hw : wX9_pricedRates x0 x1 h Q) : Cm MX9_pricedRates 2 0 0 [.ref (x0), .ref (x1)] h (pI Q) := by
  refine cm_of [some (.ref (x0)), some (.ref (x1)), none, none] rfl pnX9 (Nat.le_of_ble_eq_true rfl) rfl ?_
  unfold wX9_pricedRates at hw
  refine q_iconst (v := nI 0) eX9_pricedRates_0 (by decide) ?_
  refine x_istore_n (ls' := [_, _, _, _]) eX9_pricedRates_1 (by decide) rfl rfl ?_
  refine q_iconst (v := nI 0) eX9_pricedRates_2 (by decide) ?_
  refine x_istore_n (ls' := [_, _, _, _]) eX9_pricedRates_3 (by decide) rfl rfl ?_
  refine q_le (ls' := [some _, some _, some _, some _]) ⟨rfl, rfl, rfl, rfl, trivial⟩ ?_
  obtain ⟨m7, hw⟩ := hw
  exact tX9_pricedRates_4 m7 _ _ _ _ _ hw
def wX9_refusedPrices_70 (Q : Int32 → MH → Prop) : Nat → Nat → Int64 → Int32 → MH → Prop
  | 0, _, _, _, _ => False
  | n + 1, x2, x3, x5, h => hS h x2 = (1, 8) ∧ (hI h x2 1 ≤ x5 → Q (nI 0) h) ∧ (¬ (hI h x2 1 ≤ x5) → ∃ a25, hR h x2 2 = some a25 ∧ ∃ n28, hS h a25 = (3, n28) ∧ vp_in (x5) n28 ∧ ((lg_cmp (hL h a25 (x5).toNatClampNeg) ((0 : Int64))) < 0 → Q ((-3 : Int32)) h) ∧ (¬ ((lg_cmp (hL h a25 (x5).toNatClampNeg) ((0 : Int64))) < 0) → vp_in (x5) n28 ∧ ((lg_cmp (hL h a25 (x5).toNatClampNeg) (x3)) < 0 → wX9_refusedPrices_70 Q n x2 x3 (x5 + nI 1) h) ∧ (¬ ((lg_cmp (hL h a25 (x5).toNatClampNeg) (x3)) < 0) → Q ((-3 : Int32)) h)))
set_option maxHeartbeats 4000000 in
set_option maxRecDepth 100000 in
theorem tX9_refusedPrices_70 {Q : Int32 → MH → Prop} : ∀ (n : Nat) (h : MH) (x2 : Nat) (x3 : Int64) (x5 : Int32), wX9_refusedPrices_70 Q n x2 x3 x5 h → Wm MX9_refusedPrices 2 0 0 70 [none, none, some (.ref (x2)), some (.long (x3)), none, some (.int (x5))] [] h (pI Q) := by
  intro n
  induction n with
  | zero => intro h x2 x3 x5 hw; exact hw.elim
  | succ n ih =>
    intro h x2 x3 x5 hw
    unfold wX9_refusedPrices_70 at hw
    refine q_iload eX9_refusedPrices_70 rfl ?_
    refine q_aload_nr eX9_refusedPrices_72 rfl ?_
    obtain ⟨hs24, hw⟩ := hw
    refine q_getI flX9_231 rfl hs24 eX9_refusedPrices_73 ?_
    obtain ⟨hw1, hw2⟩ := hw
    refine q_icmp_ge (tgt := 112) eX9_refusedPrices_76 (by decide) (fun c => ?_) (fun c => ?_)
    · have hw := hw1 c
      refine q_iconst (v := nI 0) eX9_refusedPrices_112 (by decide) ?_
      exact q_ret rfl eX9_refusedPrices_113 ⟨_, rfl, hw⟩
    · have hw := hw2 c
      refine q_aload_nr eX9_refusedPrices_79 rfl ?_
      obtain ⟨a25, hr26, hw⟩ := hw
      refine q_getR flX9_232 rfl hs24 hr26 eX9_refusedPrices_80 ?_
      refine q_iload eX9_refusedPrices_83 rfl ?_
      obtain ⟨n28, hs27, hw⟩ := hw
      obtain ⟨hi29, hw⟩ := hw
      refine q_lald hs27 hi29 eX9_refusedPrices_85 ?_
      refine q_lconst (v := (0 : Int64)) eX9_refusedPrices_86 (by decide) ?_
      refine q_lcmp eX9_refusedPrices_87 ?_
      obtain ⟨hw1, hw2⟩ := hw
      refine q_if_lt (tgt := 103) eX9_refusedPrices_88 (by decide) (fun c => ?_) (fun c => ?_)
      · have hw := hw1 c
        refine q_bipush (v := (-3 : Int32)) eX9_refusedPrices_103 (by decide) ?_
        exact q_ret rfl eX9_refusedPrices_105 ⟨_, rfl, hw⟩
      · have hw := hw2 c
        refine q_aload_nr eX9_refusedPrices_91 rfl ?_
        refine q_getR flX9_232 rfl hs24 hr26 eX9_refusedPrices_92 ?_
        refine q_iload eX9_refusedPrices_95 rfl ?_
        obtain ⟨hi30, hw⟩ := hw
        refine q_lald hs27 hi30 eX9_refusedPrices_97 ?_
        refine q_lload_n eX9_refusedPrices_98 rfl ?_
        refine q_lcmp eX9_refusedPrices_99 ?_
        obtain ⟨hw1, hw2⟩ := hw
        refine q_if_lt (tgt := 106) eX9_refusedPrices_100 (by decide) (fun c => ?_) (fun c => ?_)
        · have hw := hw1 c
          refine x_iinc (v := (x5 + nI 1)) (ls' := [_, _, _, _, _, _]) eX9_refusedPrices_106 rfl rfl rfl rfl ?_
          refine q_goto (tgt := 70) eX9_refusedPrices_109 (by decide) ?_
          refine q_le (ls' := [none, none, some _, some _, none, some _]) ⟨rfl, rfl, rfl, trivial⟩ ?_
          exact ih _ _ _ _ hw
        · have hw := hw2 c
          refine q_bipush (v := (-3 : Int32)) eX9_refusedPrices_103 (by decide) ?_
          exact q_ret rfl eX9_refusedPrices_105 ⟨_, rfl, hw⟩
def wX9_refusedPrices (x0 : Nat) (x1 : Int32) (h : MH) (Q : Int32 → MH → Prop) : Prop := wX9_isTray x1 h (fun r1 h2 => (¬ (r1 = 0) → hS h2 x0 = (1, 9) ∧ ∃ a4, hR h2 x0 9 = some a4 ∧ ∃ n7, hS h2 a4 = (7, n7) ∧ vp_in (x1) n7 ∧ ∃ a9, hR h2 a4 (x1).toNatClampNeg = some a9 ∧ hS h2 a9 = (1, 8) ∧ wX8_isMissing a9 h2 (fun r12 h13 => (r12 = 0 → hS h13 a9 = (1, 8) ∧ (hI h13 a9 1 < nI 1 → Q ((-4 : Int32)) h13) ∧ (¬ (hI h13 a9 1 < nI 1) → (hI h13 a9 1 ≤ nI 8 → hS h13 x0 = (1, 9) ∧ ∃ a16, hR h13 x0 1 = some a16 ∧ ∃ a18, hR h13 x0 2 = some a18 ∧ hS h13 a18 = (1, 6) ∧ hS h13 a16 = (1, 4) ∧ wX4_ringCount a16 (hI h13 a18 0) h13 (fun r22 h23 => ∃ m31, wX9_refusedPrices_70 Q m31 a9 ((r22).toInt64 * (1000 : Int64)) (nI 0) h23)) ∧ (¬ (hI h13 a9 1 ≤ nI 8) → Q ((-4 : Int32)) h13))) ∧ (¬ (r12 = 0) → Q ((-6 : Int32)) h13))) ∧ (r1 = 0 → Q ((-2 : Int32)) h2))
set_option maxHeartbeats 4000000 in
set_option maxRecDepth 100000 in
theorem gX9_refusedPrices (x0 : Nat) (x1 : Int32) (h : MH) (Q : Int32 → MH → Prop) (hw : wX9_refusedPrices x0 x1 h Q) : Cm MX9_refusedPrices 2 0 0 [.ref (x0), .int (x1)] h (pI Q) := by
  refine cm_of [some (.ref (x0)), some (.int (x1)), none, none, none, none] rfl pnX9 (Nat.le_of_ble_eq_true rfl) rfl ?_
  unfold wX9_refusedPrices at hw
  refine q_iload_n eX9_refusedPrices_0 rfl ?_
  refine q_callS (b := 0) (t := 0) (gX9_isTray _ _ _ hw) mlX9_220 kX9_isTray sX9_isTray rfl (by decide) rfl (Nat.le_of_ble_eq_true rfl) eX9_refusedPrices_1 (kI fun r1 h2 hw => ?_)
  obtain ⟨hw1, hw2⟩ := hw
  refine q_if_ne (tgt := 10) eX9_refusedPrices_4 (by decide) (fun c => ?_) (fun c => ?_)
  · have hw := hw1 c
    refine q_aload_nr eX9_refusedPrices_10 rfl ?_
    obtain ⟨hs3, hw⟩ := hw
    obtain ⟨a4, hr5, hw⟩ := hw
    refine q_getR flX9_73 rfl hs3 hr5 eX9_refusedPrices_11 ?_
    refine q_iload_n eX9_refusedPrices_14 rfl ?_
    obtain ⟨n7, hs6, hw⟩ := hw
    obtain ⟨hi8, hw⟩ := hw
    obtain ⟨a9, hr10, hw⟩ := hw
    refine q_aald (Or.inr (Or.inl rfl)) hs6 hi8 hr10 eX9_refusedPrices_15 ?_
    refine x_astore_nr (ls' := [_, _, _, _, _, _]) eX9_refusedPrices_16 (by decide) rfl rfl ?_
    refine q_aload_nr eX9_refusedPrices_17 rfl ?_
    obtain ⟨hs11, hw⟩ := hw
    refine q_callV (b := 0) (t := 0) (gX8_isMissing _ _ _ hw) mlX9_223 kX8_isMissing vX8_isMissing rfl hs11 ⟨rfl, rfl⟩ (by decide) rfl (Nat.le_of_ble_eq_true rfl) eX9_refusedPrices_18 (kI fun r12 h13 hw => ?_)
    obtain ⟨hw1, hw2⟩ := hw
    refine q_if_eq (tgt := 27) eX9_refusedPrices_21 (by decide) (fun c => ?_) (fun c => ?_)
    · have hw := hw1 c
      refine q_aload_nr eX9_refusedPrices_27 rfl ?_
      obtain ⟨hs14, hw⟩ := hw
      refine q_getI flX9_231 rfl hs14 eX9_refusedPrices_28 ?_
      refine q_iconst (v := nI 1) eX9_refusedPrices_31 (by decide) ?_
      obtain ⟨hw1, hw2⟩ := hw
      refine q_icmp_lt (tgt := 44) eX9_refusedPrices_32 (by decide) (fun c => ?_) (fun c => ?_)
      · have hw := hw1 c
        refine q_bipush (v := (-4 : Int32)) eX9_refusedPrices_44 (by decide) ?_
        exact q_ret rfl eX9_refusedPrices_46 ⟨_, rfl, hw⟩
      · have hw := hw2 c
        refine q_aload_nr eX9_refusedPrices_35 rfl ?_
        refine q_getI flX9_231 rfl hs14 eX9_refusedPrices_36 ?_
        refine q_bipush (v := nI 8) eX9_refusedPrices_39 (by decide) ?_
        obtain ⟨hw1, hw2⟩ := hw
        refine q_icmp_le (tgt := 47) eX9_refusedPrices_41 (by decide) (fun c => ?_) (fun c => ?_)
        · have hw := hw1 c
          refine q_aload_nr eX9_refusedPrices_47 rfl ?_
          obtain ⟨hs15, hw⟩ := hw
          obtain ⟨a16, hr17, hw⟩ := hw
          refine q_getR flX9_19 rfl hs15 hr17 eX9_refusedPrices_48 ?_
          refine q_aload_nr eX9_refusedPrices_51 rfl ?_
          obtain ⟨a18, hr19, hw⟩ := hw
          refine q_getR flX9_26 rfl hs15 hr19 eX9_refusedPrices_52 ?_
          obtain ⟨hs20, hw⟩ := hw
          refine q_getI flX9_145 rfl hs20 eX9_refusedPrices_55 ?_
          obtain ⟨hs21, hw⟩ := hw
          refine q_callV (b := 0) (t := 0) (gX4_ringCount _ _ _ _ hw) mlX9_171 kX4_ringCount vX4_ringCount rfl hs21 ⟨rfl, rfl⟩ (by decide) rfl (Nat.le_of_ble_eq_true rfl) eX9_refusedPrices_58 (kI fun r22 h23 hw => ?_)
          refine q_i2l eX9_refusedPrices_61 ?_
          refine q_ldc2 coX9_346 eX9_refusedPrices_62 ?_
          refine q_lmul eX9_refusedPrices_65 ?_
          refine x_lstore_n (ls' := [_, _, _, _, _, _]) eX9_refusedPrices_66 (by decide) rfl rfl ?_
          refine q_iconst (v := nI 0) eX9_refusedPrices_67 (by decide) ?_
          refine x_istore (ls' := [_, _, _, _, _, _]) eX9_refusedPrices_68 (by decide) rfl rfl ?_
          refine q_le (ls' := [none, none, some _, some _, none, some _]) ⟨rfl, rfl, rfl, trivial⟩ ?_
          obtain ⟨m31, hw⟩ := hw
          exact tX9_refusedPrices_70 m31 _ _ _ _ hw
        · have hw := hw2 c
          refine q_bipush (v := (-4 : Int32)) eX9_refusedPrices_44 (by decide) ?_
          exact q_ret rfl eX9_refusedPrices_46 ⟨_, rfl, hw⟩
    · have hw := hw2 c
      refine q_bipush (v := (-6 : Int32)) eX9_refusedPrices_24 (by decide) ?_
      exact q_ret rfl eX9_refusedPrices_26 ⟨_, rfl, hw⟩
  · have hw := hw2 c
    refine q_bipush (v := (-2 : Int32)) eX9_refusedPrices_7 (by decide) ?_
    exact q_ret rfl eX9_refusedPrices_9 ⟨_, rfl, hw⟩
def wX9_rates (x0 : Nat) (x1 : Int32) (h : MH) (Q : Int32 → MH → Prop) : Prop := hS h x0 = (1, 9) ∧ wX9_refusedPrices x0 x1 h (fun r2 h3 => (r2 = 0 → hS h3 x0 = (1, 9) ∧ ∃ a5, hR h3 x0 9 = some a5 ∧ ∃ n8, hS h3 a5 = (7, n8) ∧ vp_in (x1) n8 ∧ ∃ a10, hR h3 a5 (x1).toNatClampNeg = some a10 ∧ wX9_pricedRates x0 a10 h3 (fun r12 h13 => Q (r12) h13)) ∧ (¬ (r2 = 0) → Q (r2) h3))
set_option maxHeartbeats 4000000 in
set_option maxRecDepth 100000 in
theorem gX9_rates (x0 : Nat) (x1 : Int32) (h : MH) (Q : Int32 → MH → Prop) (hw : wX9_rates x0 x1 h Q) : Cm MX9_rates 3 0 0 [.ref (x0), .int (x1)] h (pI Q) := by
  refine cm_of [some (.ref (x0)), some (.int (x1)), none] rfl pnX9 (Nat.le_of_ble_eq_true rfl) rfl ?_
  unfold wX9_rates at hw
  refine q_aload_nr eX9_rates_0 rfl ?_
  refine q_iload_n eX9_rates_1 rfl ?_
  obtain ⟨hs1, hw⟩ := hw
  refine q_callV (b := 0) (t := 0) (gX9_refusedPrices _ _ _ _ hw) mlX9_336 kX9_refusedPrices vX9_refusedPrices rfl hs1 ⟨rfl, rfl⟩ (by decide) rfl (Nat.le_of_ble_eq_true rfl) eX9_rates_2 (kI fun r2 h3 hw => ?_)
  refine x_istore_n (ls' := [_, _, _]) eX9_rates_5 (by decide) rfl rfl ?_
  refine q_iload_n eX9_rates_6 rfl ?_
  obtain ⟨hw1, hw2⟩ := hw
  refine q_if_eq (tgt := 14) eX9_rates_7 (by decide) (fun c => ?_) (fun c => ?_)
  · have hw := hw1 c
    refine q_aload_nr eX9_rates_14 rfl ?_
    refine q_aload_nr eX9_rates_15 rfl ?_
    obtain ⟨hs4, hw⟩ := hw
    obtain ⟨a5, hr6, hw⟩ := hw
    refine q_getR flX9_73 rfl hs4 hr6 eX9_rates_16 ?_
    refine q_iload_n eX9_rates_19 rfl ?_
    obtain ⟨n8, hs7, hw⟩ := hw
    obtain ⟨hi9, hw⟩ := hw
    obtain ⟨a10, hr11, hw⟩ := hw
    refine q_aald (Or.inr (Or.inl rfl)) hs7 hi9 hr11 eX9_rates_20 ?_
    refine q_callV (b := 0) (t := 0) (gX9_pricedRates _ _ _ _ hw) mlX9_339 kX9_pricedRates vX9_pricedRates rfl hs4 ⟨rfl, rfl⟩ (by decide) rfl (Nat.le_of_ble_eq_true rfl) eX9_rates_21 (kI fun r12 h13 hw => ?_)
    exact q_ret rfl eX9_rates_24 ⟨_, rfl, hw⟩
  · have hw := hw2 c
    refine q_iload_n eX9_rates_10 rfl ?_
    refine q_goto (tgt := 24) eX9_rates_11 (by decide) ?_
    exact q_ret rfl eX9_rates_24 ⟨_, rfl, hw⟩
def wX9_ask_55 (Q : Int32 → MH → Prop) : Nat → Nat → Int32 → Int32 → Int32 → Int32 → Int32 → MH → Prop
  | 0, _, _, _, _, _, _, _ => False
  | n + 1, x0, x3, x4, x5, x6, x7, h => (x4 ≤ x7 → Q (x6) h) ∧ (¬ (x4 ≤ x7) → hS h x0 = (1, 9) ∧ ∃ a24, hR h x0 1 = some a24 ∧ ∃ a26, hR h x0 2 = some a26 ∧ hS h a26 = (1, 6) ∧ hS h a24 = (1, 4) ∧ wX4_cycleOf a24 (hI h a26 0) x7 h (fun r30 h31 => hS h31 a24 = (1, 4) ∧ wX4_mostAlike a24 r30 x3 h31 (fun r33 h34 => (x5 ≤ r33 → wX9_ask_55 Q n x0 x3 x4 x5 x6 (x7 + nI 1) h34) ∧ (¬ (x5 ≤ r33) → wX9_ask_55 Q n x0 x3 x4 r33 x7 (x7 + nI 1) h34))))
set_option maxHeartbeats 4000000 in
set_option maxRecDepth 100000 in
theorem tX9_ask_55 {Q : Int32 → MH → Prop} : ∀ (n : Nat) (h : MH) (x0 : Nat) (x3 : Int32) (x4 : Int32) (x5 : Int32) (x6 : Int32) (x7 : Int32), wX9_ask_55 Q n x0 x3 x4 x5 x6 x7 h → Wm MX9_ask 3 0 0 55 [some (.ref (x0)), none, none, some (.int (x3)), some (.int (x4)), some (.int (x5)), some (.int (x6)), some (.int (x7)), none] [] h (pI Q) := by
  intro n
  induction n with
  | zero => intro h x0 x3 x4 x5 x6 x7 hw; exact hw.elim
  | succ n ih =>
    intro h x0 x3 x4 x5 x6 x7 hw
    unfold wX9_ask_55 at hw
    refine q_iload eX9_ask_55 rfl ?_
    refine q_iload eX9_ask_57 rfl ?_
    obtain ⟨hw1, hw2⟩ := hw
    refine q_icmp_ge (tgt := 109) eX9_ask_59 (by decide) (fun c => ?_) (fun c => ?_)
    · have hw := hw1 c
      refine q_iload eX9_ask_109 rfl ?_
      exact q_ret rfl eX9_ask_111 ⟨_, rfl, hw⟩
    · have hw := hw2 c
      refine q_aload_nr eX9_ask_62 rfl ?_
      obtain ⟨hs23, hw⟩ := hw
      obtain ⟨a24, hr25, hw⟩ := hw
      refine q_getR flX9_19 rfl hs23 hr25 eX9_ask_63 ?_
      refine q_aload_nr eX9_ask_66 rfl ?_
      refine q_getR flX9_19 rfl hs23 hr25 eX9_ask_67 ?_
      refine q_aload_nr eX9_ask_70 rfl ?_
      obtain ⟨a26, hr27, hw⟩ := hw
      refine q_getR flX9_26 rfl hs23 hr27 eX9_ask_71 ?_
      obtain ⟨hs28, hw⟩ := hw
      refine q_getI flX9_145 rfl hs28 eX9_ask_74 ?_
      refine q_iload eX9_ask_77 rfl ?_
      obtain ⟨hs29, hw⟩ := hw
      refine q_callV (b := 0) (t := 0) (gX4_cycleOf _ _ _ _ _ hw) mlX9_148 kX4_cycleOf vX4_cycleOf rfl hs29 ⟨rfl, rfl⟩ (by decide) rfl (Nat.le_of_ble_eq_true rfl) eX9_ask_79 (kI fun r30 h31 hw => ?_)
      refine q_iload_n eX9_ask_82 rfl ?_
      obtain ⟨hs32, hw⟩ := hw
      refine q_callV (b := 0) (t := 0) (gX4_mostAlike _ _ _ _ _ hw) mlX9_343 kX4_mostAlike vX4_mostAlike rfl hs32 ⟨rfl, rfl⟩ (by decide) rfl (Nat.le_of_ble_eq_true rfl) eX9_ask_83 (kI fun r33 h34 hw => ?_)
      refine x_istore (ls' := [_, _, _, _, _, _, _, _, _]) eX9_ask_86 (by decide) rfl rfl ?_
      refine q_iload eX9_ask_88 rfl ?_
      refine q_iload eX9_ask_90 rfl ?_
      obtain ⟨hw1, hw2⟩ := hw
      refine q_icmp_ge (tgt := 103) eX9_ask_92 (by decide) (fun c => ?_) (fun c => ?_)
      · have hw := hw1 c
        refine x_iinc (v := (x7 + nI 1)) (ls' := [_, _, _, _, _, _, _, _, _]) eX9_ask_103 rfl rfl rfl rfl ?_
        refine q_goto (tgt := 55) eX9_ask_106 (by decide) ?_
        refine q_le (ls' := [some _, none, none, some _, some _, some _, some _, some _, none]) ⟨rfl, rfl, rfl, rfl, rfl, rfl, trivial⟩ ?_
        exact ih _ _ _ _ _ _ _ hw
      · have hw := hw2 c
        refine q_iload eX9_ask_95 rfl ?_
        refine x_istore (ls' := [_, _, _, _, _, _, _, _, _]) eX9_ask_97 (by decide) rfl rfl ?_
        refine q_iload eX9_ask_99 rfl ?_
        refine x_istore (ls' := [_, _, _, _, _, _, _, _, _]) eX9_ask_101 (by decide) rfl rfl ?_
        refine x_iinc (v := (x7 + nI 1)) (ls' := [_, _, _, _, _, _, _, _, _]) eX9_ask_103 rfl rfl rfl rfl ?_
        refine q_goto (tgt := 55) eX9_ask_106 (by decide) ?_
        refine q_le (ls' := [some _, none, none, some _, some _, some _, some _, some _, none]) ⟨rfl, rfl, rfl, rfl, rfl, rfl, trivial⟩ ?_
        exact ih _ _ _ _ _ _ _ hw
def wX9_ask (x0 : Nat) (x1 : Int32) (h : MH) (Q : Int32 → MH → Prop) : Prop := hS h x0 = (1, 9) ∧ wX9_refusedPrices x0 x1 h (fun r2 h3 => (r2 = 0 → hS h3 x0 = (1, 9) ∧ ∃ a5, hR h3 x0 9 = some a5 ∧ ∃ n8, hS h3 a5 = (7, n8) ∧ vp_in (x1) n8 ∧ ∃ a10, hR h3 a5 (x1).toNatClampNeg = some a10 ∧ wX9_pricedRates x0 a10 h3 (fun r12 h13 => (¬ (r12 = 0) → hS h13 x0 = (1, 9) ∧ ∃ a15, hR h13 x0 1 = some a15 ∧ ∃ a17, hR h13 x0 2 = some a17 ∧ hS h13 a17 = (1, 6) ∧ hS h13 a15 = (1, 4) ∧ wX4_ringCount a15 (hI h13 a17 0) h13 (fun r21 h22 => ∃ m35, wX9_ask_55 Q m35 x0 r12 r21 (nI 11) (-1 : Int32) (nI 0) h22)) ∧ (r12 = 0 → Q ((-1 : Int32)) h13))) ∧ (¬ (r2 = 0) → Q (r2) h3))
set_option maxHeartbeats 4000000 in
set_option maxRecDepth 100000 in
theorem gX9_ask (x0 : Nat) (x1 : Int32) (h : MH) (Q : Int32 → MH → Prop) (hw : wX9_ask x0 x1 h Q) : Cm MX9_ask 3 0 0 [.ref (x0), .int (x1)] h (pI Q) := by
  refine cm_of [some (.ref (x0)), some (.int (x1)), none, none, none, none, none, none, none] rfl pnX9 (Nat.le_of_ble_eq_true rfl) rfl ?_
  unfold wX9_ask at hw
  refine q_aload_nr eX9_ask_0 rfl ?_
  refine q_iload_n eX9_ask_1 rfl ?_
  obtain ⟨hs1, hw⟩ := hw
  refine q_callV (b := 0) (t := 0) (gX9_refusedPrices _ _ _ _ hw) mlX9_336 kX9_refusedPrices vX9_refusedPrices rfl hs1 ⟨rfl, rfl⟩ (by decide) rfl (Nat.le_of_ble_eq_true rfl) eX9_ask_2 (kI fun r2 h3 hw => ?_)
  refine x_istore_n (ls' := [_, _, _, _, _, _, _, _, _]) eX9_ask_5 (by decide) rfl rfl ?_
  refine q_iload_n eX9_ask_6 rfl ?_
  obtain ⟨hw1, hw2⟩ := hw
  refine q_if_eq (tgt := 12) eX9_ask_7 (by decide) (fun c => ?_) (fun c => ?_)
  · have hw := hw1 c
    refine q_aload_nr eX9_ask_12 rfl ?_
    refine q_aload_nr eX9_ask_13 rfl ?_
    obtain ⟨hs4, hw⟩ := hw
    obtain ⟨a5, hr6, hw⟩ := hw
    refine q_getR flX9_73 rfl hs4 hr6 eX9_ask_14 ?_
    refine q_iload_n eX9_ask_17 rfl ?_
    obtain ⟨n8, hs7, hw⟩ := hw
    obtain ⟨hi9, hw⟩ := hw
    obtain ⟨a10, hr11, hw⟩ := hw
    refine q_aald (Or.inr (Or.inl rfl)) hs7 hi9 hr11 eX9_ask_18 ?_
    refine q_callV (b := 0) (t := 0) (gX9_pricedRates _ _ _ _ hw) mlX9_339 kX9_pricedRates vX9_pricedRates rfl hs4 ⟨rfl, rfl⟩ (by decide) rfl (Nat.le_of_ble_eq_true rfl) eX9_ask_19 (kI fun r12 h13 hw => ?_)
    refine x_istore_n (ls' := [_, _, _, _, _, _, _, _, _]) eX9_ask_22 (by decide) rfl rfl ?_
    refine q_iload_n eX9_ask_23 rfl ?_
    obtain ⟨hw1, hw2⟩ := hw
    refine q_if_ne (tgt := 29) eX9_ask_24 (by decide) (fun c => ?_) (fun c => ?_)
    · have hw := hw1 c
      refine q_aload_nr eX9_ask_29 rfl ?_
      obtain ⟨hs14, hw⟩ := hw
      obtain ⟨a15, hr16, hw⟩ := hw
      refine q_getR flX9_19 rfl hs14 hr16 eX9_ask_30 ?_
      refine q_aload_nr eX9_ask_33 rfl ?_
      obtain ⟨a17, hr18, hw⟩ := hw
      refine q_getR flX9_26 rfl hs14 hr18 eX9_ask_34 ?_
      obtain ⟨hs19, hw⟩ := hw
      refine q_getI flX9_145 rfl hs19 eX9_ask_37 ?_
      obtain ⟨hs20, hw⟩ := hw
      refine q_callV (b := 0) (t := 0) (gX4_ringCount _ _ _ _ hw) mlX9_171 kX4_ringCount vX4_ringCount rfl hs20 ⟨rfl, rfl⟩ (by decide) rfl (Nat.le_of_ble_eq_true rfl) eX9_ask_40 (kI fun r21 h22 hw => ?_)
      refine x_istore (ls' := [_, _, _, _, _, _, _, _, _]) eX9_ask_43 (by decide) rfl rfl ?_
      refine q_bipush (v := nI 11) eX9_ask_45 (by decide) ?_
      refine x_istore (ls' := [_, _, _, _, _, _, _, _, _]) eX9_ask_47 (by decide) rfl rfl ?_
      refine q_iconst (v := (-1 : Int32)) eX9_ask_49 (by decide) ?_
      refine x_istore (ls' := [_, _, _, _, _, _, _, _, _]) eX9_ask_50 (by decide) rfl rfl ?_
      refine q_iconst (v := nI 0) eX9_ask_52 (by decide) ?_
      refine x_istore (ls' := [_, _, _, _, _, _, _, _, _]) eX9_ask_53 (by decide) rfl rfl ?_
      refine q_le (ls' := [some _, none, none, some _, some _, some _, some _, some _, none]) ⟨rfl, rfl, rfl, rfl, rfl, rfl, trivial⟩ ?_
      obtain ⟨m35, hw⟩ := hw
      exact tX9_ask_55 m35 _ _ _ _ _ _ _ hw
    · have hw := hw2 c
      refine q_iconst (v := (-1 : Int32)) eX9_ask_27 (by decide) ?_
      exact q_ret rfl eX9_ask_28 ⟨_, rfl, hw⟩
  · have hw := hw2 c
    refine q_iload_n eX9_ask_10 rfl ?_
    exact q_ret rfl eX9_ask_11 ⟨_, rfl, hw⟩
