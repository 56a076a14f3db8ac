/-! ===== Long.bitCount over longs ===== -/
theorem lq_shr (x : Int64) {k : Nat} (hk : k < 64) : ((x.toUInt64 >>> ((nI k).toInt64.toUInt64 &&& Int64.toUInt64 63)).toInt64).toBitVec.toNat = x.toBitVec.toNat / 2 ^ k := by
  rw [ush63 k hk]
  have h1 : k % 64 = k := Nat.mod_eq_of_lt hk
  have h4 : k % 18446744073709551616 = k := Nat.mod_eq_of_lt (by omega)
  simp [h1, h4, Nat.shiftRight_eq_div_pow]
theorem lq_sub {x y : Int64} (h : y.toBitVec.toNat ≤ x.toBitVec.toNat) : (x - y).toBitVec.toNat = x.toBitVec.toNat - y.toBitVec.toNat := by
  rw [Int64.toBitVec_sub]
  exact BitVec.toNat_sub_of_le h
theorem lq_add {x y : Int64} (h : x.toBitVec.toNat + y.toBitVec.toNat < 2 ^ 64) : (x + y).toBitVec.toNat = x.toBitVec.toNat + y.toBitVec.toNat := by
  rw [Int64.toBitVec_add, BitVec.toNat_add]
  exact Nat.mod_eq_of_lt h
theorem lq_and (x y : Int64) : (x &&& y).toBitVec.toNat = x.toBitVec.toNat &&& y.toBitVec.toNat := by
  rw [Int64.toBitVec_and, BitVec.toNat_and]
theorem lq_int (x : Int64) : x.toInt32.toBitVec.toNat = x.toBitVec.toNat % 2 ^ 32 := by
  rw [Int64.toBitVec_toInt32, BitVec.signExtend_eq_setWidth_of_le _ (by omega), BitVec.toNat_setWidth]
theorem pc_k1 : (6148914691236517205 : Int64).toBitVec.toNat = maskN 85 8 := by decide
theorem pc_k2 : (3689348814741910323 : Int64).toBitVec.toNat = maskN 51 8 := by decide
theorem pc_k3 : (1085102592571150095 : Int64).toBitVec.toNat = maskN 15 8 := by decide
theorem lN_toNat {m : Nat} (hm : m < 2 ^ 63) : (lN m).toBitVec.toNat = m := by
  unfold lN
  have h3 : m % 18446744073709551616 = m := Nat.mod_eq_of_lt (by omega)
  simp [h3]
theorem u_lbitCount {Q : Int32 → MH → Prop} {h : MH} {m : Nat} (hm : m < 2 ^ 63) (hq : Q (nI (bcN m 64)) h) : wJ13_bitCount_95d88 (lN m) h Q := by
  unfold wJ13_bitCount_95d88
  intro v1 e1 v2 e2 v3 e3 v4 e4 v5 e5 v6 e6
  have hx := lN_toNat hm
  have a1 : m / 2 &&& maskN 85 8 ≤ m / 2 := Nat.and_le_left
  have c1 : v1.toBitVec.toNat = pV1 m 8 := by
    rw [e1, lq_sub (by rw [lq_and, lq_shr _ (by omega), pc_k1, hx]; show m / 2 ^ 1 &&& maskN 85 8 ≤ m; rw [show (2 : Nat) ^ 1 = 2 from rfl]; omega), lq_and, lq_shr _ (by omega), pc_k1, hx]
    rfl
  have l1 : pV1 m 8 ≤ m := Nat.sub_le _ _
  have b1 : pV1 m 8 &&& maskN 51 8 ≤ maskN 51 8 := Nat.and_le_right
  have b2 : pV1 m 8 / 4 &&& maskN 51 8 ≤ maskN 51 8 := Nat.and_le_right
  have k51 : maskN 51 8 = 3689348814741910323 := by decide
  have k15 : maskN 15 8 = 1085102592571150095 := by decide
  have c2 : v2.toBitVec.toNat = pV2 (pV1 m 8) 8 := by
    rw [e2, lq_add (by rw [lq_and, lq_and, lq_shr _ (by omega), pc_k2, c1, show (2 : Nat) ^ 2 = 4 from rfl]; omega), lq_and, lq_and, lq_shr _ (by omega), pc_k2, c1]
    rfl
  have l2 : pV2 (pV1 m 8) 8 ≤ 2 * 3689348814741910323 := by
    show (pV1 m 8 &&& maskN 51 8) + (pV1 m 8 / 4 &&& maskN 51 8) ≤ _
    omega
  have c3 : v3.toBitVec.toNat = pV3 (pV2 (pV1 m 8) 8) 8 := by
    rw [e3, lq_and, lq_add (by rw [lq_shr _ (by omega), c2, show (2 : Nat) ^ 4 = 16 from rfl]; omega), lq_shr _ (by omega), pc_k3, c2]
    rfl
  rw [(pV_all 8 m).2 (by omega)] at c3
  obtain ⟨v, ev, lv, sv⟩ := pcBB_sum m
  rw [← ev] at c3
  have c4 : v4.toBitVec.toNat = v + v / 256 := by
    rw [e4, lq_add (by rw [lq_shr _ (by omega), c3, show (2 : Nat) ^ 8 = 256 from rfl]; omega), lq_shr _ (by omega), c3]
  have c5 : v5.toBitVec.toNat = (v + v / 256) + (v + v / 256) / 65536 := by
    rw [e5, lq_add (by rw [lq_shr _ (by omega), c4, show (2 : Nat) ^ 16 = 65536 from rfl]; omega), lq_shr _ (by omega), c4]
  have c6 : v6.toBitVec.toNat = (v + v / 256) + (v + v / 256) / 65536 + ((v + v / 256) + (v + v / 256) / 65536) / 4294967296 := by
    rw [e6, lq_add (by rw [lq_shr _ (by omega), c5, show (2 : Nat) ^ 32 = 4294967296 from rfl]; omega), lq_shr _ (by omega), c5]
  have e7 : v6.toInt32 &&& nI 127 = nI (bcN m 64) := by
    rw [pk_and _ 7 (by decide), lq_int, c6, ← sv]
    congr 1
    omega
  rw [e7]
  exact hq
