/-! ===== bits of sets, and the small questions of the reference ===== -/
theorem sh31 : ∀ k, k < 32 → ((nI k &&& 31).toBitVec.smod 32).toNat = k := by decide
theorem sh63 : ∀ k, k < 32 → (((nI k).toInt64 &&& 63).toBitVec.smod 64).toNat = k := by decide
/-- bit k of a set -/
def bt (s k : Nat) : Nat := s / 2 ^ k % 2
theorem bt_lt (s k : Nat) : bt s k < 2 := Nat.mod_lt _ (by omega)
theorem nI_bit {s k : Nat} (hs : s < 2 ^ 31) (hk : k < 32) : (nI s >>> (nI k &&& 31)) &&& nI 1 = nI (bt s k) := by
  have h1 : s / 2 ^ k ≤ s := Nat.div_le_self _ _
  rw [pk_shrN hs _ k (sh31 k hk), pk_andN (by omega) 1 (by decide)]
  rfl
theorem lN_and1 {n : Nat} (hn : n < 2 ^ 31) : lN n &&& 1 = lN (n % 2) := by
  apply Int64.toBitVec_inj.mp
  apply BitVec.eq_of_toNat_eq
  unfold lN
  simp
  omega
theorem l_shr (x n : Int64) {k : Nat} (hn : (n.toBitVec.smod 64).toNat = k) : (x >>> n).toInt = x.toInt >>> k := by
  show ((x >>> n).toBitVec).toInt = _
  rw [Int64.toBitVec_shiftRight]
  unfold BitVec.sshiftRight'
  rw [hn, BitVec.toInt_sshiftRight]
  rfl
theorem lN_bit {s k : Nat} (hs : s < 2 ^ 31) (hk : k < 32) : ((nI s).toInt64 >>> ((nI k).toInt64 &&& 63)) &&& 1 = lN (bt s k) := by
  have h1 : s / 2 ^ k ≤ s := Nat.div_le_self _ _
  have e : (nI s).toInt64 >>> ((nI k).toInt64 &&& 63) = lN (s / 2 ^ k) := by
    apply Int64.toInt_inj.mp
    rw [l_shr _ _ (sh63 k hk), Int32.toInt_toInt64, nI_toInt hs, lN_toInt (by omega), Int.shiftRight_eq_div_pow]
    simp
  rw [e, lN_and1 (by omega)]
  rfl
theorem u_isIn {Q : Int32 → MH → Prop} {h : MH} {s k : Nat} (hs : s < 2 ^ 31) (hk : k < 32) (hq : Q (nI (bt s k)) h) : wX10_isIn (nI s).toInt64 (nI k) h Q := by
  unfold wX10_isIn
  rw [lN_bit hs hk]
  have q : bt s k = 0 ∨ bt s k = 1 := by have := bt_lt s k; omega
  rcases q with q | q <;> rw [q] at hq ⊢
  · rw [if_neg (by decide)]
    exact ⟨Or.inl (by decide), hq⟩
  · rw [if_pos (by decide)]
    exact ⟨Or.inr (by decide), hq⟩
/-- how many of the first n bits a set has -/
def bcN (s : Nat) : Nat → Nat
  | 0 => 0
  | n + 1 => bcN s n + bt s n
theorem bcN_le (s : Nat) : ∀ n, bcN s n ≤ n
  | 0 => Nat.le_refl _
  | n + 1 => by
    have h1 := bcN_le s n
    have h2 := bt_lt s n
    show bcN s n + bt s n ≤ n + 1
    omega
theorem u_bitsOf_loop {Q : Int32 → MH → Prop} {h : MH} {s : Nat} (hs : s < 2 ^ 31) (hq : Q (nI (bcN s 10)) h) : ∀ n i, i + n = 10 → wX10_bitsOf_4 Q (n + 1) (nI s) (nI (bcN s i)) (nI i) h := by
  intro n
  induction n with
  | zero =>
    intro i hi
    have hi : i = 10 := by omega
    subst hi
    unfold wX10_bitsOf_4
    exact ⟨fun _ => hq, fun c => absurd (nI_le (by omega) (by omega)) c⟩
  | succ n ih =>
    intro i hi
    unfold wX10_bitsOf_4
    refine ⟨fun c => absurd c (nI_ge (by omega) (by omega)), fun _ => ?_⟩
    rw [nI_bit hs (by omega), nI_add, nI_add]
    exact ih (i + 1) (by omega)
theorem u_bitsOf {Q : Int32 → MH → Prop} {h : MH} {s : Nat} (hs : s < 2 ^ 31) (hq : Q (nI (bcN s 10)) h) : wX10_bitsOf (nI s) h Q := ⟨11, u_bitsOf_loop hs hq 10 0 (by omega)⟩
theorem u_endOf {Q : Int32 → MH → Prop} {h : MH} {l k : Nat} (hl : LX h) (h1 : l < 10) (h2 : k < 2) (hq : Q (hI h 224 (9 + 2 * l + k)) h) : wX10_endOf 223 (nI l) (nI k) h Q := by
  unfold wX10_endOf
  have e : nI 9 + nI 2 * nI l + nI k = nI (9 + 2 * l + k) := by
    rw [show nI 2 * nI l = nI (2 * l) from (Int32.ofNat_mul 2 l).symm, nI_add, nI_add]
  rw [e, nI_clamp (by omega)]
  exact ⟨S_223 hl, 224, R_223_1 hl, 7011, S_224 hl, vp_in_nI (by omega) (by omega), hq⟩
theorem u_endsOf {Q : Int32 → MH → Prop} {h : MH} {l : Nat} (hl : LX h) (h1 : l < 10) (hq : Q ((nI 1 <<< (hI h 224 (9 + 2 * l) &&& 31)) ||| (nI 1 <<< (hI h 224 (9 + 2 * l + 1) &&& 31))) h) : wX10_endsOf 223 (nI l) h Q := by
  unfold wX10_endsOf
  exact ⟨S_223 hl, u_endOf (k := 0) hl h1 (by omega) ⟨S_223 hl, u_endOf (k := 1) hl h1 (by omega) hq⟩⟩
theorem u_runOf {Q : Int32 → MH → Prop} {h : MH} {u k : Nat} (hl : LX h) (h1 : u < 20) (h2 : k < 3) (hq : Q (hI h 224 (115 + 3 * u + k)) h) : wX10_runOf 223 (nI u) (nI k) h Q := by
  unfold wX10_runOf
  have e : nI 115 + nI 3 * nI u + nI k = nI (115 + 3 * u + k) := by
    rw [show nI 3 * nI u = nI (3 * u) from (Int32.ofNat_mul 3 u).symm, nI_add, nI_add]
  rw [e, nI_clamp (by omega)]
  exact ⟨S_223 hl, 224, R_223_1 hl, 7011, S_224 hl, vp_in_nI (by omega) (by omega), hq⟩
theorem u_mfailed {Q : Int32 → MH → Prop} {h : MH} {l s : Nat} (hl : LX h) (hs : s < 2 ^ 31) (e : hI h 224 113 = nI s) (h1 : l < 32) (hq : Q (nI (bt s l)) h) : wX10_hasFailed 223 (nI l) h Q := by
  unfold wX10_hasFailed
  rw [show (nI 113).toNatClampNeg = 113 from by decide]
  refine ⟨S_223 hl, 224, R_223_1 hl, 7011, S_224 hl, vp_in_nI (by omega) (by omega), ?_⟩
  rw [e]
  refine u_isIn hs h1 ⟨?_, hq⟩
  have q : bt s l = 0 ∨ bt s l = 1 := by have := bt_lt s l; omega
  rcases q with q | q <;> rw [q]
  · exact Or.inl nI_0
  · exact Or.inr (by decide)
/-- whether the class says that a link failed: a bit too -/
theorem u_cfailed {Q : Int32 → MH → Prop} {h : MH} {a l s : Nat} (hS : hS h a = (1, 6)) (hs : s < 2 ^ 31) (e : hI h a 1 = nI s) (h1 : l < 32) (hq : Q (nI (bt s l)) h) : wX6_hasFailed a (nI l) h Q := by
  unfold wX6_hasFailed
  rw [e, nI_bit hs h1]
  have q : bt s l = 0 ∨ bt s l = 1 := by have := bt_lt s l; omega
  rcases q with q | q <;> rw [q] at hq ⊢
  · rw [if_pos (by decide)]
    exact ⟨hS, Or.inl (by decide), hq⟩
  · rw [if_neg (by decide)]
    exact ⟨hS, Or.inr (by decide), hq⟩
