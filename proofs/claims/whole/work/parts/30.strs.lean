/-! ===== classes' names; String constants' methods ===== -/
theorem pnX0 : plainName RX0 = true := by decide +kernel
theorem pnX1 : plainName RX1 = true := by decide +kernel
theorem pnX2 : plainName RX2 = true := by decide +kernel
theorem pnX3 : plainName RX3 = true := by decide +kernel
theorem pnX4 : plainName RX4 = true := by decide +kernel
theorem pnX5 : plainName RX5 = true := by decide +kernel
theorem pnX6 : plainName RX6 = true := by decide +kernel
theorem pnX7 : plainName RX7 = true := by decide +kernel
theorem pnX8 : plainName RX8 = true := by decide +kernel
theorem pnX9 : plainName RX9 = true := by decide +kernel
theorem pnX10 : plainName RX10 = true := by decide +kernel
theorem pnJ6 : plainName RJ6 = true := by decide +kernel
theorem pnJ13 : plainName RJ13 = true := by decide +kernel
theorem pnJ0 : plainName RJ0 = true := by decide +kernel
theorem pnJ1 : plainName RJ1 = true := by decide +kernel
theorem pnJ3 : plainName RJ3 = true := by decide +kernel
def strCh (x j : Nat) : Int32 := (strByt.getD x []).getD j 0
def strIxF (c : Int32) : List Int32 → Nat → Int32
  | [], _ => -1
  | b :: l, k => if b = c then nI k else strIxF c l (k + 1)
def strIx (x : Nat) (c : Int32) : Int32 := strIxF c (strByt.getD x []) 0
section QL
variable {M : MI} {d b t pc : Nat} {ls : List (Option Value)} {st : List Value} {h : MH} {Q : Option Value → MH → Prop}
theorem q_mmaxl {i : Nat} {x y : Int64} (hlk : Cond.methodLink (mN M).cls i Lib.MathLoose.max_long.x ∈ GW) (hst : Cond.static Lib.MathLoose.max_long.x ∈ GW) (hin : Cond.initialized "java/lang/Math" ∈ GW) (hco : Cond.code Lib.MathLoose.max_long.x Lib.MathLoose.max_long.code 4 (some .long) ∈ GW) (hd1 : 1 ≤ d) (hsum : (st.map fun v => v.category).sum ≤ 8) (hd : decode (mB M) pc = .ok (.invokestatic i, 3)) (kk : Wm M d b t (pc + 3) ls (.long (if y < x then x else y) :: st) h Q) : Wm M d b t pc ls (.long y :: .long x :: st) h Q :=
  q_readS (fun G p l e R s m args below meth cd Z H locs lsR kc n C hH hSS hR hml k2 => va_mmax_long C.1 C.2.1 hml C.2.2.2.1 (C.2.2.2.2.1 _ hlk) (C.2.2.2.2.1 _ hst) (C.2.2.2.2.1 _ hin) (C.2.2.2.2.1 _ hco) (by omega) (by rw [sm_vm]; omega) hR.2.2.1 hR.2.2.2 hd k2) kk
theorem q_mminl {i : Nat} {x y : Int64} (hlk : Cond.methodLink (mN M).cls i Lib.MathLoose.min_long.x ∈ GW) (hst : Cond.static Lib.MathLoose.min_long.x ∈ GW) (hin : Cond.initialized "java/lang/Math" ∈ GW) (hco : Cond.code Lib.MathLoose.min_long.x Lib.MathLoose.min_long.code 4 (some .long) ∈ GW) (hd1 : 1 ≤ d) (hsum : (st.map fun v => v.category).sum ≤ 8) (hd : decode (mB M) pc = .ok (.invokestatic i, 3)) (kk : Wm M d b t (pc + 3) ls (.long (if y < x then y else x) :: st) h Q) : Wm M d b t pc ls (.long y :: .long x :: st) h Q :=
  q_readS (fun G p l e R s m args below meth cd Z H locs lsR kc n C hH hSS hR hml k2 => va_mmin_long C.1 C.2.1 hml C.2.2.2.1 (C.2.2.2.2.1 _ hlk) (C.2.2.2.2.1 _ hst) (C.2.2.2.2.1 _ hin) (C.2.2.2.2.1 _ hco) (by omega) (by rw [sm_vm]; omega) hR.2.2.1 hR.2.2.2 hd k2) kk
end QL
theorem sMmaxl : Cond.static Lib.MathLoose.max_long.x ∈ GW := sJ9_max_f86c9
theorem sMminl : Cond.static Lib.MathLoose.min_long.x ∈ GW := sJ9_min_f86c9
theorem cMmaxl : Cond.code Lib.MathLoose.max_long.x Lib.MathLoose.max_long.code 4 (some .long) ∈ GW := kJ9_max_f86c9.1
theorem cMminl : Cond.code Lib.MathLoose.min_long.x Lib.MathLoose.min_long.code 4 (some .long) ∈ GW := kJ9_min_f86c9.1
theorem str_tab : ∀ x, x < 33 → (strLen.getD x 0 = (strByt.getD x []).length ∧ (strByt.getD x []).length < 200 ∧ ∀ b ∈ strByt.getD x [], ((b &&& 255).toUInt32 % 65536).toInt32 = b ∧ b.toNatClampNeg < 128 ∧ b = nI b.toNatClampNeg) := by decide +kernel
theorem str_at {x j : Nat} (hx : x < 33) (hj : j < strLen.getD x 0) : ∃ b ∈ strByt.getD x [], (strByt.getD x []).getD j 0 = b := by
  obtain ⟨h1, -, -⟩ := str_tab x hx
  rw [h1] at hj
  refine ⟨(strByt.getD x [])[j], List.getElem_mem hj, ?_⟩
  rw [List.getD_eq_getElem?_getD, List.getElem?_eq_getElem hj]
  rfl
theorem nar_char {b : Int32} (h : ((b &&& 255).toUInt32 % 65536).toInt32 = b) : narrow .char (.int b) = .int b := by
  have h2 := pk_nc (b &&& 255)
  rw [h] at h2
  exact h2
theorem cS_coder {h : MH} {x : Nat} (hx : x < 33) : Cm MJ0_coder_7d493 0 0 0 [.ref x] h (pI fun r h2 => r = 0 ∧ h2 = h) := by
  refine cm_of [some (.ref x)] rfl pnJ0 (Nat.le_of_ble_eq_true rfl) rfl ?_
  refine q_getCS fs38 eJ0_coder_7d493_0 ?_
  refine q_if_eq (tgt := 13) eJ0_coder_7d493_3 (by decide) (fun c => absurd c (by decide)) (fun _ => ?_)
  refine q_aload_nr eJ0_coder_7d493_6 rfl ?_
  refine q_getSC hx fs15 eJ0_coder_7d493_7 ?_
  refine q_goto (tgt := 14) eJ0_coder_7d493_10 (by decide) ?_
  exact q_retT rfl rfl eJ0_coder_7d493_14 ⟨_, rfl, rfl, rfl⟩
theorem cS_latin {h : MH} {x : Nat} (hx : x < 33) : Cm MJ0_isLatin1_aae02 0 0 0 [.ref x] h (pI fun r h2 => r = 1 ∧ h2 = h) := by
  refine cm_of [some (.ref x)] rfl pnJ0 (Nat.le_of_ble_eq_true rfl) rfl ?_
  refine q_getCS fs38 eJ0_isLatin1_aae02_0 ?_
  refine q_if_eq (tgt := 17) eJ0_isLatin1_aae02_3 (by decide) (fun c => absurd c (by decide)) (fun _ => ?_)
  refine q_aload_nr eJ0_isLatin1_aae02_6 rfl ?_
  refine q_getSC hx fs15 eJ0_isLatin1_aae02_7 ?_
  refine q_if_ne (tgt := 17) eJ0_isLatin1_aae02_10 (by decide) (fun c => absurd rfl c) (fun _ => ?_)
  refine q_iconst (v := 1) eJ0_isLatin1_aae02_13 (by decide) ?_
  refine q_goto (tgt := 18) eJ0_isLatin1_aae02_14 (by decide) ?_
  exact q_retZ rfl (Or.inr rfl) eJ0_isLatin1_aae02_18 ⟨_, rfl, rfl, rfl⟩
theorem shr0 {n : Nat} (hn : n < 2 ^ 31) : nI n >>> ((0 : Int32) &&& 31) = nI n := by
  rw [show ((0 : Int32) &&& 31) = 0 by decide, pk_shrN hn 0 0 (by decide)]
  simp
theorem cS_length {h : MH} {x : Nat} (hx : x < 33) : Cm MJ0_length_8abf5 1 0 0 [.ref x] h (pI fun r h2 => r = nI (strLen.getD x 0) ∧ h2 = h) := by
  refine cm_of [some (.ref x)] rfl pnJ0 (Nat.le_of_ble_eq_true rfl) rfl ?_
  refine q_aload_nr eJ0_length_8abf5_0 rfl ?_
  refine q_getSV hx fs9 eJ0_length_8abf5_1 ?_
  refine q_salen hx eJ0_length_8abf5_4 ?_
  refine q_aload_nr eJ0_length_8abf5_5 rfl ?_
  refine q_callVS (b := 0) (t := 0) hx (cS_coder hx) mlJ0_335 kJ0_coder_7d493 vJ0_coder_7d493 rfl rfl (by decide) rfl (Nat.le_of_ble_eq_true rfl) eJ0_length_8abf5_6 (kI fun r h2 hq => ?_)
  obtain ⟨rfl, rfl⟩ := hq
  refine q_ishr eJ0_length_8abf5_9 ?_
  obtain ⟨h1, h2, -⟩ := str_tab x hx
  exact q_ret rfl eJ0_length_8abf5_10 ⟨_, rfl, shr0 (by omega), rfl⟩
theorem cS_chk3 {h : MH} {i n : Int32} (h0 : ¬ i < 0) (h1 : i < n) : Cm MJ3_checkIndex_8e157 0 0 0 [.int i, .int n, .retAddr 0] h (pI fun _ h2 => h2 = h) := by
  refine cm_of [some (.int i), some (.int n), some (.retAddr 0)] rfl pnJ3 (Nat.le_of_ble_eq_true rfl) rfl ?_
  refine q_iload_n eJ3_checkIndex_8e157_0 rfl ?_
  refine q_if_lt (tgt := 9) eJ3_checkIndex_8e157_1 (by decide) (fun c => absurd c h0) (fun _ => ?_)
  refine q_iload_n eJ3_checkIndex_8e157_4 rfl ?_
  refine q_iload_n eJ3_checkIndex_8e157_5 rfl ?_
  refine q_icmp_lt (tgt := 16) eJ3_checkIndex_8e157_6 (by decide) (fun _ => ?_) (fun c => absurd h1 c)
  refine q_iload_n eJ3_checkIndex_8e157_16 rfl ?_
  exact q_ret rfl eJ3_checkIndex_8e157_17 ⟨_, rfl, rfl⟩
theorem cS_chk {h : MH} {i n : Int32} (h0 : ¬ i < 0) (h1 : i < n) : Cm MJ0_checkIndex_df160 1 0 0 [.int i, .int n] h (pV fun h2 => h2 = h) := by
  refine cm_of [some (.int i), some (.int n)] rfl pnJ0 (Nat.le_of_ble_eq_true rfl) rfl ?_
  refine q_iload_n eJ0_checkIndex_df160_0 rfl ?_
  refine q_iload_n eJ0_checkIndex_df160_1 rfl ?_
  refine q_getSF fs1053 eJ0_checkIndex_df160_2 ?_
  refine q_callS (b := 0) (t := 0) (cS_chk3 h0 h1) mlJ0_1059 kJ3_checkIndex_8e157 sJ3_checkIndex_8e157 rfl (by decide) rfl (Nat.le_of_ble_eq_true rfl) eJ0_checkIndex_df160_5 (kI fun r h2 hq => ?_)
  subst hq
  refine q_pop eJ0_checkIndex_df160_8 rfl ?_
  exact q_retV rfl eJ0_checkIndex_df160_9 ⟨rfl, rfl⟩
theorem cS_chr {h : MH} {x : Nat} {j : Int32} (hx : x < 33) (hj : vp_in j (strLen.getD x 0)) : Cm MJ1_charAt_3b067 2 0 0 [.ref (64 + x), .int j] h (pI fun r h2 => r = strCh x j.toNatClampNeg ∧ h2 = h) := by
  obtain ⟨h1, h2, h3⟩ := str_tab x hx
  obtain ⟨n, hn, rfl⟩ := vp_in_of hj (by omega)
  refine cm_of [some (.ref (64 + x)), some (.int (nI n))] rfl pnJ1 (Nat.le_of_ble_eq_true rfl) rfl ?_
  refine q_iload_n eJ1_charAt_3b067_0 rfl ?_
  refine q_aload_nr eJ1_charAt_3b067_1 rfl ?_
  refine q_salen hx eJ1_charAt_3b067_2 ?_
  refine q_callS (b := 0) (t := 0) (cS_chk (nI_pos (by omega)) (nI_lt hn (by omega))) mlJ1_9 kJ0_checkIndex_df160 sJ0_checkIndex_df160 rfl (by decide) rfl (Nat.le_of_ble_eq_true rfl) eJ1_charAt_3b067_3 (kV fun h2 hq => ?_)
  subst hq
  refine q_aload_nr eJ1_charAt_3b067_6 rfl ?_
  refine q_iload_n eJ1_charAt_3b067_7 rfl ?_
  refine q_sbald hx hj eJ1_charAt_3b067_8 ?_
  refine q_sipush (v := 255) eJ1_charAt_3b067_9 (by decide) ?_
  refine q_iand eJ1_charAt_3b067_12 ?_
  refine q_i2c eJ1_charAt_3b067_13 ?_
  obtain ⟨b, hb, e⟩ := str_at hx (j := (nI n).toNatClampNeg) (by rw [nI_clamp (by omega)]; exact hn)
  have hb2 := (h3 b hb).1
  rw [e, hb2]
  exact q_retT rfl (nar_char hb2) eJ1_charAt_3b067_14 ⟨_, rfl, e.symm, rfl⟩
theorem cS_charAt {h : MH} {x : Nat} {j : Int32} (hx : x < 33) (hj : vp_in j (strLen.getD x 0)) : Cm MJ0_charAt_5068e 3 0 0 [.ref x, .int j] h (pI fun r h2 => r = strCh x j.toNatClampNeg ∧ h2 = h) := by
  obtain ⟨h1, h2, h3⟩ := str_tab x hx
  refine cm_of [some (.ref x), some (.int j)] rfl pnJ0 (Nat.le_of_ble_eq_true rfl) rfl ?_
  refine q_aload_nr eJ0_charAt_5068e_0 rfl ?_
  refine q_callVS (b := 0) (t := 0) hx (cS_latin hx) mlJ0_492 kJ0_isLatin1_aae02 vJ0_isLatin1_aae02 rfl rfl (by decide) rfl (Nat.le_of_ble_eq_true rfl) eJ0_charAt_5068e_1 (kI fun r h2 hq => ?_)
  obtain ⟨rfl, rfl⟩ := hq
  refine q_if_eq (tgt := 16) eJ0_charAt_5068e_4 (by decide) (fun c => absurd c (by decide)) (fun _ => ?_)
  refine q_aload_nr eJ0_charAt_5068e_7 rfl ?_
  refine q_getSV hx fs9 eJ0_charAt_5068e_8 ?_
  refine q_iload_n eJ0_charAt_5068e_11 rfl ?_
  refine q_callS (b := 0) (t := 0) (cS_chr hx hj) mlJ0_495 kJ1_charAt_3b067 sJ1_charAt_3b067 rfl (by decide) rfl (Nat.le_of_ble_eq_true rfl) eJ0_charAt_5068e_12 (kI fun r h2 hq => ?_)
  obtain ⟨rfl, rfl⟩ := hq
  obtain ⟨n, hn, e2⟩ := vp_in_of hj (by omega)
  obtain ⟨b, hb, e⟩ := str_at hx (j := j.toNatClampNeg) (by rw [e2, nI_clamp (by omega)]; exact hn)
  exact q_retT rfl (by unfold strCh; rw [e]; exact nar_char (h3 b hb).1) eJ0_charAt_5068e_15 ⟨_, rfl, rfl, rfl⟩
theorem cS_enc {h : MH} {c : Int32} : Cm MJ1_canEncode_9a6ad 0 0 0 [.int c] h (pI fun r h2 => r = (if c < 0 then 0 else if 255 < c then 0 else 1) ∧ h2 = h) := by
  refine cm_of [some (.int c)] rfl pnJ1 (Nat.le_of_ble_eq_true rfl) rfl ?_
  refine q_iload_n eJ1_canEncode_9a6ad_0 rfl ?_
  refine q_if_lt (tgt := 15) eJ1_canEncode_9a6ad_1 (by decide) (fun c1 => ?_) (fun c1 => ?_)
  · refine q_iconst (v := 0) eJ1_canEncode_9a6ad_15 (by decide) ?_
    exact q_retZ rfl (Or.inl rfl) eJ1_canEncode_9a6ad_16 ⟨_, rfl, by rw [if_pos c1], rfl⟩
  · refine q_iload_n eJ1_canEncode_9a6ad_4 rfl ?_
    refine q_sipush (v := 255) eJ1_canEncode_9a6ad_5 (by decide) ?_
    refine q_icmp_gt (tgt := 15) eJ1_canEncode_9a6ad_8 (by decide) (fun c2 => ?_) (fun c2 => ?_)
    · refine q_iconst (v := 0) eJ1_canEncode_9a6ad_15 (by decide) ?_
      exact q_retZ rfl (Or.inl rfl) eJ1_canEncode_9a6ad_16 ⟨_, rfl, by rw [if_neg c1, if_pos c2], rfl⟩
    · refine q_iconst (v := 1) eJ1_canEncode_9a6ad_11 (by decide) ?_
      refine q_goto (tgt := 16) eJ1_canEncode_9a6ad_12 (by decide) ?_
      exact q_retZ rfl (Or.inr rfl) eJ1_canEncode_9a6ad_16 ⟨_, rfl, by rw [if_neg c1, if_neg c2], rfl⟩
theorem b8 : ∀ n, n < 256 → (nI n).toInt8.toInt32 = if n < 128 then nI n else nI n - nI 256 := by decide +kernel
theorem b8_eq {n m : Nat} (hn : n < 256) (hm : m < 128) : nI m = (nI n).toInt8.toInt32 ↔ nI m = nI n := by
  rw [b8 n hn]
  by_cases h : n < 128
  · rw [if_pos h]
  · rw [if_neg h]
    constructor
    · intro e
      have h1 := pk_sneg (a := n) (b := 256) (by omega) (by omega)
      rw [← e] at h1
      exact absurd h1 (nI_pos (by omega))
    · intro e
      have := (nI_eq (by omega) (by omega)).mp e
      omega
theorem strIxF_out {c : Int32} : ∀ (l : List Int32) (k : Nat), (∀ b ∈ l, b ≠ c) → strIxF c l k = -1
  | [], _, _ => rfl
  | b :: l, k, h => by
    rw [strIxF, if_neg (h b List.mem_cons_self)]
    exact strIxF_out l (k + 1) (fun b' hb => h b' (List.mem_cons_of_mem _ hb))
theorem cS_ixc {h : MH} {x n : Nat} (hx : x < 33) (hn : n < 256) : Cm MJ1_indexOfChar_4cfef 0 0 0 [.ref (64 + x), .int (nI n), .int 0, .int (nI (strLen.getD x 0))] h (pI fun r h2 => r = strIx x (nI n) ∧ h2 = h) := by
  obtain ⟨h1, h2, h3⟩ := str_tab x hx
  refine cm_of [some (.ref (64 + x)), some (.int (nI n)), some (.int 0), some (.int (nI (strLen.getD x 0))), none, none] rfl pnJ1 (Nat.le_of_ble_eq_true rfl) rfl ?_
  refine q_iload_n eJ1_indexOfChar_4cfef_0 rfl ?_
  refine q_i2b eJ1_indexOfChar_4cfef_1 ?_
  refine x_istore (ls' := [_, _, _, _, _, _]) eJ1_indexOfChar_4cfef_2 (by decide) rfl rfl ?_
  refine q_iload_n eJ1_indexOfChar_4cfef_4 rfl ?_
  refine x_istore (ls' := [_, _, _, _, _, _]) eJ1_indexOfChar_4cfef_5 (by decide) rfl rfl ?_
  have key : ∀ (l : List Int32) (k : Nat) (z : Int32), z = nI k → (strByt.getD x []).drop k = l → k + l.length = (strByt.getD x []).length → strIxF (nI n) l k = strIx x (nI n) → Wm MJ1_indexOfChar_4cfef 0 0 0 7 [some (.ref (64 + x)), some (.int (nI n)), some (.int 0), some (.int (nI (strLen.getD x 0))), some (.int (nI n).toInt8.toInt32), some (.int z)] [] h (pI fun r h2 => r = strIx x (nI n) ∧ h2 = h) := by
    intro l
    induction l with
    | nil =>
      intro k z hz hd hl he
      subst hz
      rw [List.length_nil] at hl
      refine q_iload eJ1_indexOfChar_4cfef_7 rfl ?_
      refine q_iload_n eJ1_indexOfChar_4cfef_9 rfl ?_
      refine q_icmp_ge (tgt := 31) eJ1_indexOfChar_4cfef_10 (by decide) (fun c => ?_) (fun c => absurd (nI_le (by omega) (by omega)) c)
      refine q_iconst (v := -1) eJ1_indexOfChar_4cfef_31 (by decide) ?_
      exact q_ret rfl eJ1_indexOfChar_4cfef_32 ⟨_, rfl, he, rfl⟩
    | cons b l ih =>
      intro k z hz hd hl he
      subst hz
      rw [List.length_cons] at hl
      have hk : k < (strByt.getD x []).length := by omega
      have hbk : (strByt.getD x [])[k] = b ∧ (strByt.getD x []).drop (k + 1) = l := by
        rw [List.drop_eq_getElem_cons hk] at hd
        exact ⟨(List.cons.inj hd).1, (List.cons.inj hd).2⟩
      have hgd : (strByt.getD x []).getD k 0 = b := by
        rw [List.getD_eq_getElem?_getD, List.getElem?_eq_getElem hk]
        exact hbk.1
      have hbm : b ∈ strByt.getD x [] := by rw [← hbk.1]; exact List.getElem_mem hk
      obtain ⟨-, hb1, hb2⟩ := h3 b hbm
      refine q_iload eJ1_indexOfChar_4cfef_7 rfl ?_
      refine q_iload_n eJ1_indexOfChar_4cfef_9 rfl ?_
      refine q_icmp_ge (tgt := 31) eJ1_indexOfChar_4cfef_10 (by decide) (fun c => absurd c (nI_ge (by omega) (by omega))) (fun c => ?_)
      refine q_aload_nr eJ1_indexOfChar_4cfef_13 rfl ?_
      refine q_iload eJ1_indexOfChar_4cfef_14 rfl ?_
      refine q_sbald hx (vp_in_nI (by omega) (by omega)) eJ1_indexOfChar_4cfef_16 ?_
      rw [nI_clamp (by omega), hgd]
      refine q_iload eJ1_indexOfChar_4cfef_17 rfl ?_
      refine q_icmp_ne (tgt := 25) eJ1_indexOfChar_4cfef_19 (by decide) (fun c => ?_) (fun c => ?_)
      · refine x_iinc (v := nI k + 1) (ls' := [_, _, _, _, _, _]) eJ1_indexOfChar_4cfef_25 rfl rfl rfl rfl ?_
        refine q_goto (tgt := 7) eJ1_indexOfChar_4cfef_28 (by decide) ?_
        refine ih (k + 1) _ (nI_1 k) hbk.2 (by omega) ?_
        rw [← he, strIxF, if_neg (fun e => c (by rw [hb2, b8_eq hn hb1, ← hb2]; exact e))]
      · refine q_iload eJ1_indexOfChar_4cfef_22 rfl ?_
        refine q_ret rfl eJ1_indexOfChar_4cfef_24 ⟨_, rfl, ?_, rfl⟩
        rw [← he, strIxF, if_pos (by rw [hb2, ← b8_eq hn hb1, ← hb2]; exact c)]
  exact key (strByt.getD x []) 0 _ rfl rfl (Nat.zero_add _) rfl
theorem cS_ix1 {h : MH} {x : Nat} {c : Int32} (hx : x < 33) : Cm MJ1_indexOf_4cfef 1 0 0 [.ref (64 + x), .int c, .int 0, .int (nI (strLen.getD x 0))] h (pI fun r h2 => r = strIx x c ∧ h2 = h) := by
  obtain ⟨h1, h2, h3⟩ := str_tab x hx
  refine cm_of [some (.ref (64 + x)), some (.int c), some (.int 0), some (.int (nI (strLen.getD x 0)))] rfl pnJ1 (Nat.le_of_ble_eq_true rfl) rfl ?_
  refine q_iload_n eJ1_indexOf_4cfef_0 rfl ?_
  refine q_callS (b := 0) (t := 0) (cS_enc (c := c)) mlJ1_88 kJ1_canEncode_9a6ad sJ1_canEncode_9a6ad rfl (by decide) rfl (Nat.le_of_ble_eq_true rfl) eJ1_indexOf_4cfef_1 (kI fun r h2 hq => ?_)
  obtain ⟨hr, rfl⟩ := hq
  have hout : (c < 0 ∨ 255 < c) → strIx x c = -1 := by
    intro ho
    refine strIxF_out _ _ (fun b hb e => ?_)
    obtain ⟨-, hb1, hb2⟩ := h3 b hb
    rw [← e, hb2] at ho
    rcases ho with ho | ho
    · exact nI_pos (by omega) ho
    · have : nI 255 < nI b.toNatClampNeg := ho
      rw [nI_ltI (by omega) (by omega)] at this
      omega
  refine q_if_ne (tgt := 9) eJ1_indexOf_4cfef_4 (by decide) (fun c1 => ?_) (fun c1 => ?_)
  · have h0 : ¬ c < 0 := fun q => c1 (by rw [hr, if_pos q])
    have h5 : ¬ 255 < c := fun q => c1 (by rw [hr, if_neg h0, if_pos q])
    obtain ⟨n, hn, rfl⟩ := nI_of h0
    have hn : n < 256 := by
      rcases Nat.lt_or_ge n 256 with q | q
      · exact q
      · exact absurd (show nI 255 < nI n from nI_lt (by omega) hn) h5
    refine q_iload_n eJ1_indexOf_4cfef_9 rfl ?_
    refine q_iconst (v := 0) eJ1_indexOf_4cfef_10 (by decide) ?_
    refine q_mmax mlJ1_92 sMmax iNMath cMmax (by decide) (Nat.le_of_ble_eq_true rfl) eJ1_indexOf_4cfef_11 ?_
    rw [if_neg (by decide)]
    refine x_istore_n (ls' := [_, _, _, _]) eJ1_indexOf_4cfef_14 (by decide) rfl rfl ?_
    refine q_iload_n eJ1_indexOf_4cfef_15 rfl ?_
    refine q_aload_nr eJ1_indexOf_4cfef_16 rfl ?_
    refine q_salen hx eJ1_indexOf_4cfef_17 ?_
    refine q_mmin mlJ1_38 sMmin iNMath cMmin (by decide) (Nat.le_of_ble_eq_true rfl) eJ1_indexOf_4cfef_18 ?_
    show Wm _ _ _ _ _ _ [.int (if nI (strLen.getD x 0) < nI (strLen.getD x 0) then nI (strLen.getD x 0) else nI (strLen.getD x 0))] _ _
    rw [ite_self]
    refine x_istore_n (ls' := [_, _, _, _]) eJ1_indexOf_4cfef_21 (by decide) rfl rfl ?_
    refine q_iload_n eJ1_indexOf_4cfef_22 rfl ?_
    refine q_iload_n eJ1_indexOf_4cfef_23 rfl ?_
    refine q_icmp_lt (tgt := 29) eJ1_indexOf_4cfef_24 (by decide) (fun c2 => ?_) (fun c2 => ?_)
    · refine q_aload_nr eJ1_indexOf_4cfef_29 rfl ?_
      refine q_iload_n eJ1_indexOf_4cfef_30 rfl ?_
      refine q_iload_n eJ1_indexOf_4cfef_31 rfl ?_
      refine q_iload_n eJ1_indexOf_4cfef_32 rfl ?_
      refine q_callS (b := 0) (t := 0) (cS_ixc hx hn) mlJ1_95 kJ1_indexOfChar_4cfef sJ1_indexOfChar_4cfef rfl (by decide) rfl (Nat.le_of_ble_eq_true rfl) eJ1_indexOf_4cfef_33 (kI fun r h2 hq => ?_)
      obtain ⟨rfl, rfl⟩ := hq
      exact q_ret rfl eJ1_indexOf_4cfef_36 ⟨_, rfl, rfl, rfl⟩
    · refine q_iconst (v := -1) eJ1_indexOf_4cfef_27 (by decide) ?_
      refine q_ret rfl eJ1_indexOf_4cfef_28 ⟨_, rfl, ?_, rfl⟩
      have hz : ¬ 0 < strLen.getD x 0 := fun q => c2 (show nI 0 < nI _ from nI_lt q (by omega))
      have : strByt.getD x [] = [] := List.length_eq_zero_iff.mp (by omega)
      unfold strIx
      rw [this]
      rfl
  · refine q_iconst (v := -1) eJ1_indexOf_4cfef_7 (by decide) ?_
    refine q_ret rfl eJ1_indexOf_4cfef_8 ⟨_, rfl, ?_, rfl⟩
    refine (hout ?_).symm
    rw [hr] at c1
    by_cases q : c < 0
    · exact Or.inl q
    · by_cases q2 : 255 < c
      · exact Or.inr q2
      · rw [if_neg q, if_neg q2] at c1
        exact absurd c1 (by decide)
theorem cS_ix2 {h : MH} {x : Nat} {c : Int32} (hx : x < 33) : Cm MJ0_indexOf_7cf53 2 0 0 [.ref x, .int c, .int 0] h (pI fun r h2 => r = strIx x c ∧ h2 = h) := by
  refine cm_of [some (.ref x), some (.int c), some (.int 0)] rfl pnJ0 (Nat.le_of_ble_eq_true rfl) rfl ?_
  refine q_aload_nr eJ0_indexOf_7cf53_0 rfl ?_
  refine q_callVS (b := 0) (t := 0) hx (cS_latin hx) mlJ0_492 kJ0_isLatin1_aae02 vJ0_isLatin1_aae02 rfl rfl (by decide) rfl (Nat.le_of_ble_eq_true rfl) eJ0_indexOf_7cf53_1 (kI fun r h2 hq => ?_)
  obtain ⟨rfl, rfl⟩ := hq
  refine q_if_eq (tgt := 23) eJ0_indexOf_7cf53_4 (by decide) (fun c => absurd c (by decide)) (fun _ => ?_)
  refine q_aload_nr eJ0_indexOf_7cf53_7 rfl ?_
  refine q_getSV hx fs9 eJ0_indexOf_7cf53_8 ?_
  refine q_iload_n eJ0_indexOf_7cf53_11 rfl ?_
  refine q_iload_n eJ0_indexOf_7cf53_12 rfl ?_
  refine q_aload_nr eJ0_indexOf_7cf53_13 rfl ?_
  refine q_callVS (b := 0) (t := 0) hx (cS_length hx) mlJ0_505 kJ0_length_8abf5 vJ0_length_8abf5 rfl rfl (by decide) rfl (Nat.le_of_ble_eq_true rfl) eJ0_indexOf_7cf53_14 (kI fun r h2 hq => ?_)
  obtain ⟨rfl, rfl⟩ := hq
  refine q_callS (b := 0) (t := 0) (cS_ix1 (c := c) hx) mlJ0_637 kJ1_indexOf_4cfef sJ1_indexOf_4cfef rfl (by decide) rfl (Nat.le_of_ble_eq_true rfl) eJ0_indexOf_7cf53_17 (kI fun r h2 hq => ?_)
  obtain ⟨rfl, rfl⟩ := hq
  refine q_goto (tgt := 36) eJ0_indexOf_7cf53_20 (by decide) ?_
  exact q_ret rfl eJ0_indexOf_7cf53_36 ⟨_, rfl, rfl, rfl⟩
theorem cS_indexOf {h : MH} {x : Nat} {c : Int32} (hx : x < 33) : Cm MJ0_indexOf_0f7a4 3 0 0 [.ref x, .int c] h (pI fun r h2 => r = strIx x c ∧ h2 = h) := by
  refine cm_of [some (.ref x), some (.int c)] rfl pnJ0 (Nat.le_of_ble_eq_true rfl) rfl ?_
  refine q_aload_nr eJ0_indexOf_0f7a4_0 rfl ?_
  refine q_iload_n eJ0_indexOf_0f7a4_1 rfl ?_
  refine q_iconst (v := 0) eJ0_indexOf_0f7a4_2 (by decide) ?_
  refine q_callVS (b := 0) (t := 0) hx (cS_ix2 (c := c) hx) mlJ0_633 kJ0_indexOf_7cf53 vJ0_indexOf_7cf53 rfl rfl (by decide) rfl (Nat.le_of_ble_eq_true rfl) eJ0_indexOf_0f7a4_3 (kI fun r h2 hq => ?_)
  obtain ⟨rfl, rfl⟩ := hq
  exact q_ret rfl eJ0_indexOf_0f7a4_6 ⟨_, rfl, rfl, rfl⟩
