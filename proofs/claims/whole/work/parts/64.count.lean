/-! ===== Integer.bitCount over sets of ten links; sums over links ===== -/
def bc32 (x0 : Int32) : Int32 :=
  let v1 := (x0 - (((x0).toUInt32 >>> ((nI 1).toUInt32 &&& Int32.toUInt32 31)).toInt32 &&& (1431655765 : Int32)))
  let v2 := ((v1 &&& (858993459 : Int32)) + (((v1).toUInt32 >>> ((nI 2).toUInt32 &&& Int32.toUInt32 31)).toInt32 &&& (858993459 : Int32)))
  let v3 := ((v2 + ((v2).toUInt32 >>> ((nI 4).toUInt32 &&& Int32.toUInt32 31)).toInt32) &&& (252645135 : Int32))
  let v4 := (v3 + ((v3).toUInt32 >>> ((nI 8).toUInt32 &&& Int32.toUInt32 31)).toInt32)
  let v5 := (v4 + ((v4).toUInt32 >>> ((nI 16).toUInt32 &&& Int32.toUInt32 31)).toInt32)
  (v5 &&& nI 63)
def bc32all : Nat → Bool
  | 0 => true
  | n + 1 => bc32all n && decide (bc32 (nI n) = nI (bcN n 10))
theorem bc32all_ok : ∀ n, bc32all n = true → ∀ s, s < n → bc32 (nI s) = nI (bcN s 10)
  | 0, _, s, hs => absurd hs (by omega)
  | n + 1, e, s, hs => by
    have e2 : bc32all n = true ∧ decide (bc32 (nI n) = nI (bcN n 10)) = true := by
      rw [← Bool.and_eq_true]; exact e
    by_cases c : s = n
    · subst c; exact of_decide_eq_true e2.2
    · exact bc32all_ok n e2.1 s (by omega)
set_option maxRecDepth 100000 in
theorem bc32_ok : ∀ s, s < 1024 → bc32 (nI s) = nI (bcN s 10) := bc32all_ok 1024 (by decide +kernel)
theorem u_bitCount {Q : Int32 → MH → Prop} {h : MH} {s : Nat} (hs : s < 1024) (hq : Q (nI (bcN s 10)) h) : wJ6_bitCount_0f7a4 (nI s) h Q := by
  have e := bc32_ok s hs
  unfold wJ6_bitCount_0f7a4
  intro v1 e1 v2 e2 v3 e3 v4 e4 v5 e5
  subst e1
  subst e2
  subst e3
  subst e4
  subst e5
  have e' := e
  unfold bc32 at e'
  rw [e']
  exact hq
theorem u_hasLink {Q : Int32 → MH → Prop} {h : MH} {a n : Nat} {x : Int32} (hs : hS h a = (1, 4)) (hn : n < 2 ^ 30) (e : hI h a 3 = nI n) (k1 : ∀ l, l < n → x = nI l → Q (nI 1) h) (k2 : ¬ (0 ≤ x.toInt ∧ x.toInt ≤ (n : Int) - 1) → Q (nI 0) h) : wX4_hasLink a x h Q := by
  unfold wX4_hasLink
  rw [e]
  refine ⟨fun c => k2 ?_, fun c => ⟨hs, ?_⟩⟩
  · rw [Int32.lt_iff_toInt_lt, i0_toInt] at c
    omega
  · rw [Int32.lt_iff_toInt_lt, i0_toInt] at c
    by_cases c2 : nI n ≤ x
    · rw [if_pos c2]
      rw [Int32.le_iff_toInt_le, nI_toInt (by omega)] at c2
      exact ⟨Or.inl (by decide), k2 (by omega)⟩
    · rw [if_neg c2]
      rw [Int32.le_iff_toInt_le, nI_toInt (by omega)] at c2
      refine ⟨Or.inr (by decide), k1 x.toInt.toNat (by omega) ?_⟩
      apply Int32.toInt_inj.mp
      rw [nI_toInt (by omega)]
      omega
theorem u_isLink {Q : Int32 → MH → Prop} {h : MH} {n : Nat} {x : Int32} (hl : LX h) (hn : n < 2 ^ 30) (e : hI h 224 2 = nI n) (k1 : ∀ l, l < n → x = nI l → Q (nI 1) h) (k2 : ¬ (0 ≤ x.toInt ∧ x.toInt ≤ (n : Int) - 1) → Q (nI 0) h) : wX10_isLink 223 x.toInt64 h Q := by
  unfold wX10_isLink
  rw [show (nI 2).toNatClampNeg = 2 from by decide]
  refine ⟨S_223 hl, 224, R_223_1 hl, 7011, S_224 hl, vp_in_nI (by omega) (by omega), ?_⟩
  have l0 : (0 : Int64).toInt = 0 := by decide
  have lm : ((hI h 224 2 - nI 1).toInt64).toInt = (n : Int) - 1 := by
    rw [e, Int32.toInt_toInt64, Int32.toInt_sub, nI_toInt (by omega), nI_toInt (by omega), Int.bmod_eq_of_le (by omega) (by omega)]
    rfl
  refine u_within (fun p1 p2 => ⟨Or.inr (by decide), ?_⟩) (fun c => ⟨Or.inl (by decide), k2 (by rw [lm] at c; omega)⟩)
  rw [lm] at p2
  refine k1 x.toInt.toNat (by omega) ?_
  apply Int32.toInt_inj.mp
  rw [nI_toInt (by omega)]
  omega
theorem u_isRing {Q : Int32 → MH → Prop} {h : MH} {n : Nat} {x : Int32} (hl : LX h) (hn : n < 2 ^ 30) (e : hI h 223 23 = nI n) (k1 : ∀ l, l < n → x = nI l → Q (nI 1) h) (k2 : ¬ (0 ≤ x.toInt ∧ x.toInt ≤ (n : Int) - 1) → Q (nI 0) h) : wX10_isRing 223 x.toInt64 h Q := by
  unfold wX10_isRing
  refine ⟨S_223 hl, ?_⟩
  have l0 : (0 : Int64).toInt = 0 := by decide
  have lm : ((hI h 223 23 - nI 1).toInt64).toInt = (n : Int) - 1 := by
    rw [e, Int32.toInt_toInt64, Int32.toInt_sub, nI_toInt (by omega), nI_toInt (by omega), Int.bmod_eq_of_le (by omega) (by omega)]
    rfl
  refine u_within (fun p1 p2 => ⟨Or.inr (by decide), ?_⟩) (fun c => ⟨Or.inl (by decide), k2 (by rw [lm] at c; omega)⟩)
  rw [lm] at p2
  refine k1 x.toInt.toNat (by omega) ?_
  apply Int32.toInt_inj.mp
  rw [nI_toInt (by omega)]
  omega
/-- the sum of a row over the links of a set -/
def smN (f : Nat → Nat) (s : Nat) : Nat → Nat
  | 0 => 0
  | n + 1 => smN f s n + bt s n * f n
theorem u_sumOf_loop {Q : Int32 → MH → Prop} {h : MH} {a r s l : Nat} {f : Nat → Nat} (hs : hS h a = (1, 4)) (hl : l ≤ 10) (e : hI h a 3 = nI l) (hr : hS h r = (2, 10)) (hf : ∀ k, k < l → hI h r k = nI (f k)) (hb : s < 2 ^ 31) (hq : Q (nI (smN f s l)) h) : ∀ n i, i + n = l → wX4_sumOf_5 Q (n + 1) a r (nI s) (nI (smN f s i)) (nI i) h := by
  intro n
  induction n with
  | zero =>
    intro i hi
    have hi : i = l := by omega
    subst hi
    unfold wX4_sumOf_5
    rw [e]
    exact ⟨hs, fun _ => hq, fun c => absurd (nI_le (by omega) (by omega)) c⟩
  | succ n ih =>
    intro i hi
    unfold wX4_sumOf_5
    rw [e, nI_clamp (by omega), hf i (by omega), nI_bit hb (by omega)]
    refine ⟨hs, fun c => absurd c (nI_ge (by omega) (by omega)), fun _ => ⟨10, hr, vp_in_nI (by omega) (by omega), fun _ e2 => ?_⟩⟩
    rw [show nI (bt s i) * nI (f i) = nI (bt s i * f i) from (Int32.ofNat_mul _ _).symm, nI_add] at e2
    subst e2
    rw [nI_add]
    exact ih (i + 1) (by omega)
theorem u_sumOf {Q : Int32 → MH → Prop} {h : MH} {a r s l : Nat} {f : Nat → Nat} (hs : hS h a = (1, 4)) (hl : l ≤ 10) (e : hI h a 3 = nI l) (hr : hS h r = (2, 10)) (hf : ∀ k, k < l → hI h r k = nI (f k)) (hb : s < 2 ^ 31) (hq : Q (nI (smN f s l)) h) : wX4_sumOf a r (nI s) h Q := ⟨l + 1, u_sumOf_loop hs hl e hr hf hb hq l 0 (by omega)⟩
