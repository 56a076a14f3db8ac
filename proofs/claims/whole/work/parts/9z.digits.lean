/-! Part 9z: digits by threes; what one link lacks, read out of the number. -/
theorem nI_tI {n : Nat} (h : n < 2 ^ 31) : (nI n).toInt = (n : Int) := Int32.toInt_ofNat_of_lt h
theorem nI_divN {a b : Nat} (ha : a < 2 ^ 30) (hb : b < 2 ^ 30) (h0 : 0 < b) : nI a / nI b = nI (a / b) := by
  have h1 : a / b ≤ a := Nat.div_le_self _ _
  apply Int32.toInt_inj.mp
  rw [Int32.toInt_div, nI_tI (by omega), nI_tI (by omega), nI_tI (by omega)]
  have e : ((a : Int).tdiv (b : Int)) = ((a / b : Nat) : Int) := by
    rw [Int.tdiv_eq_ediv_of_nonneg (by omega)]
    rfl
  rw [e]
  clear e
  generalize a / b = q at h1 ⊢
  exact Int.bmod_eq_of_le (by omega) (by omega)
theorem nI_rem {a b : Nat} (ha : a < 2 ^ 30) (hb : b < 2 ^ 30) (h0 : 0 < b) : nI a - nI a / nI b * nI b = nI (a % b) := by
  have h1 : a / b * b ≤ a := Nat.div_mul_le_self a b
  rw [nI_divN ha hb h0, nI_mul, nI_subN h1]
  have e := Nat.div_add_mod a b
  rw [Nat.mul_comm] at e
  rw [show a - a / b * b = a % b from by omega]
theorem lakN_dig {v : NV} {f : Nat → Nat} {l : Nat} (hf : ∀ l, l < nvL v → f l ≤ 2) (hl : l < nvL v) : ∀ n, lakN v f (l + 1 + n) / 3 ^ l % 3 = f l
  | 0 => by
    have h1 := lakN_lt hf l
    have h2 := hf l hl
    have e : lakN v f (l + 1 + 0) = lakN v f l + f l * 3 ^ l := by
      show lakN v f l + (if l < nvL v then f l else 0) * 3 ^ l = _
      rw [if_pos hl]
    rw [e, Nat.add_mul_div_right _ _ (Nat.pow_pos (by omega)), Nat.div_eq_of_lt h1]
    omega
  | n + 1 => by
    have ih := lakN_dig hf hl n
    have e : lakN v f (l + 1 + (n + 1)) = lakN v f (l + 1 + n) + (if l + 1 + n < nvL v then f (l + 1 + n) else 0) * 3 ^ (l + 1 + n) := rfl
    rw [e]
    generalize (if l + 1 + n < nvL v then f (l + 1 + n) else 0) = x
    have e2 : x * 3 ^ (l + 1 + n) = (x * 3 ^ n * 3) * 3 ^ l := by
      rw [Nat.pow_add, Nat.pow_succ, Nat.mul_assoc (x * 3 ^ n), Nat.mul_comm 3 (3 ^ l), Nat.mul_comm (3 ^ l * 3) (3 ^ n), Nat.mul_assoc x]
    rw [e2, Nat.add_mul_div_right _ _ (Nat.pow_pos (by omega))]
    omega
theorem m_lackOf {Q : Int32 → MH → Prop} {h : MH} {v : NV} {f : Nat → Nat} {l : Nat} (hl : LX h) (hv : NvOK v) (p3 : ∀ l, l < 10 → hI h 238 l = nI (3 ^ l)) (hf : ∀ l, l < nvL v → f l ≤ 2) (hlL : l < nvL v) (hq : Q (nI (f l)) h) : wX10_lackOf 223 (nI (lakN v f 10)) (nI l) h Q := by
  have h4 := hv.1
  have b1 := lakN_lt hf 10
  have b2 : (3 : Nat) ^ l < 3 ^ 10 := Nat.pow_lt_pow_right (by omega) (by omega)
  have b3 : 0 < (3 : Nat) ^ l := Nat.pow_pos (by omega)
  have b4 : lakN v f 10 / 3 ^ l ≤ lakN v f 10 := Nat.div_le_self _ _
  have dg := lakN_dig hf hlL (9 - l)
  rw [show l + 1 + (9 - l) = 10 from by omega] at dg
  refine ⟨S_223 hl, 238, R_223_29 hl, 10, S_238 hl, vp_in_nI (by omega) (by omega), ?_⟩
  rw [nI_clamp (by omega), p3 l (by omega), nI_divN (by omega) (by omega) b3, nI_rem (by omega) (by omega) (by omega), dg]
  exact ⟨fun z => absurd ((nI_eq0 (by omega)).mp z) (by omega), by decide, hq⟩
