/-! ===== sets as numbers ===== -/
theorem nI_shl : ∀ k, k < 31 → nI 1 <<< (nI k &&& 31) = nI (2 ^ k) := by decide
theorem nI_bv (n : Nat) : (nI n).toBitVec = BitVec.ofNat 32 n := rfl
theorem nI_or {a b : Nat} (ha : a < 2 ^ 31) (hb : b < 2 ^ 31) : nI a ||| nI b = nI (a ||| b) := by
  apply Int32.toBitVec_inj.mp
  apply BitVec.eq_of_toNat_eq
  have h1 : a ||| b < 2 ^ 31 := Nat.or_lt_two_pow ha hb
  rw [Int32.toBitVec_or, BitVec.toNat_or, nI_bv, nI_bv, nI_bv, BitVec.toNat_ofNat, BitVec.toNat_ofNat, BitVec.toNat_ofNat, Nat.mod_eq_of_lt (by omega), Nat.mod_eq_of_lt (by omega), Nat.mod_eq_of_lt (by omega)]
theorem nI_and {a b : Nat} (ha : a < 2 ^ 31) (hb : b < 2 ^ 31) : nI a &&& nI b = nI (a &&& b) := by
  apply Int32.toBitVec_inj.mp
  apply BitVec.eq_of_toNat_eq
  have h1 : a &&& b ≤ a := Nat.and_le_left
  rw [Int32.toBitVec_and, BitVec.toNat_and, nI_bv, nI_bv, nI_bv, BitVec.toNat_ofNat, BitVec.toNat_ofNat, BitVec.toNat_ofNat, Nat.mod_eq_of_lt (by omega), Nat.mod_eq_of_lt (by omega), Nat.mod_eq_of_lt (by omega)]
theorem pow_le8 {k : Nat} (h : k < 8) : 2 ^ k ≤ 128 := by
  have q : k = 0 ∨ k = 1 ∨ k = 2 ∨ k = 3 ∨ k = 4 ∨ k = 5 ∨ k = 6 ∨ k = 7 := by omega
  rcases q with q | q | q | q | q | q | q | q <;> subst q <;> decide
/-- the two ends of a link, as a set of nodes -/
def enS (f g : Nat → Nat) (l : Nat) : Nat := 2 ^ f l ||| 2 ^ g l
theorem enS_lt {f g : Nat → Nat} {l : Nat} (hf : f l < 8) (hg : g l < 8) : enS f g l < 256 := by
  have h1 := pow_le8 hf
  have h2 := pow_le8 hg
  exact Nat.or_lt_two_pow (n := 8) (by omega) (by omega)
theorem u_endsOfN {Q : Int32 → MH → Prop} {h : MH} {l : Nat} {f g : Nat → Nat} (hl : LX h) (h1 : l < 10) (ef : hI h 224 (9 + 2 * l) = nI (f l)) (eg : hI h 224 (9 + 2 * l + 1) = nI (g l)) (hf : f l < 8) (hg : g l < 8) (hq : Q (nI (enS f g l)) h) : wX10_endsOf 223 (nI l) h Q := by
  have p1 := pow_le8 hf
  have p2 := pow_le8 hg
  refine u_endsOf hl h1 ?_
  rw [ef, eg, nI_shl _ (by omega), nI_shl _ (by omega), nI_or (by omega) (by omega)]
  exact hq
