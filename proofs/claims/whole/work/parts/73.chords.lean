/-! ===== chords, the reference's side ===== -/
theorem nI_sub0 {e N : Nat} (he : e < 2 ^ 31) (hN : N < 2 ^ 31) : (nI e &&& (nI N ^^^ (-1 : Int32))) = 0 ↔ (e &&& N) = e := by
  have b1 : (-1 : Int32).toBitVec = BitVec.allOnes 32 := by decide
  have k1 : (nI e &&& (nI N ^^^ (-1 : Int32))).toBitVec = (nI e).toBitVec &&& ~~~ (nI N).toBitVec := by
    rw [Int32.toBitVec_and, Int32.toBitVec_xor, b1, BitVec.xor_allOnes]
  have k2 : (nI e &&& nI N) = nI e ↔ (e &&& N) = e := by
    rw [nI_and he hN]
    have h1 : e &&& N ≤ e := Nat.and_le_left
    exact nI_eq (by omega) he
  rw [← k2, ← Int32.toBitVec_inj, ← Int32.toBitVec_inj, k1, Int32.toBitVec_and]
  generalize (nI e).toBitVec = x
  generalize (nI N).toBitVec = y
  constructor
  · intro q
    apply BitVec.eq_of_getLsbD_eq
    intro i hi
    have qi := congrArg (fun z => z.getLsbD i) q
    simp [hi] at qi
    rw [BitVec.getLsbD_and]
    cases hx : x.getLsbD i <;> cases hy : y.getLsbD i <;> simp_all
  · intro q
    apply BitVec.eq_of_getLsbD_eq
    intro i hi
    have qi := congrArg (fun z => z.getLsbD i) q
    simp at qi
    simp [hi]
    exact qi
/-- the chords of a set of links with these nodes, among the first so many links -/
def chN (f g : Nat → Nat) (s N : Nat) : Nat → Nat
  | 0 => 0
  | l + 1 => if bt s l = 0 ∧ (enS f g l &&& N) = enS f g l then chN f g s N l ||| 2 ^ l else chN f g s N l
theorem chN_lt (f g : Nat → Nat) (s N : Nat) : ∀ l, chN f g s N l < 2 ^ l
  | 0 => Nat.one_pos
  | l + 1 => by
    have h1 := chN_lt f g s N l
    have h2 : (2 : Nat) ^ (l + 1) = 2 ^ l + 2 ^ l := by rw [Nat.pow_succ]; omega
    unfold chN
    split
    · exact Nat.or_lt_two_pow (by omega) (by omega)
    · omega
theorem u_chordsOf_loop {Q : Int32 → MH → Prop} {h : MH} {s N L : Nat} {f g : Nat → Nat} (hl : LX h) (hL : L ≤ 10) (eL : hI h 224 2 = nI L) (ef : ∀ l, l < L → hI h 224 (9 + 2 * l) = nI (f l) ∧ hI h 224 (9 + 2 * l + 1) = nI (g l) ∧ f l < 8 ∧ g l < 8) (hs : s < 2 ^ 31) (hN : N < 2 ^ 31) (hq : Q (nI (chN f g s N L)) h) : ∀ n i, i + n = L → wX10_chordsOf_5 Q (n + 1) 223 (nI s) (nI N) (nI (chN f g s N i)) (nI i) h := by
  intro n
  induction n with
  | zero =>
    intro i hi
    have hi : i = L := by omega
    subst hi
    unfold wX10_chordsOf_5
    rw [show (nI 2).toNatClampNeg = 2 from by decide]
    refine ⟨S_223 hl, 224, R_223_1 hl, 7011, S_224 hl, vp_in_nI (by omega) (by omega), ?_⟩
    rw [eL]
    exact ⟨fun _ => hq, fun c => absurd (nI_le (by omega) (by omega)) c⟩
  | succ n ih =>
    intro i hi
    have hi2 := ih (i + 1) (by omega)
    obtain ⟨e1, e2, e3, e4⟩ := ef i (by omega)
    have hc := chN_lt f g s N i
    have hp : (2 : Nat) ^ i < 2 ^ 31 := Nat.pow_lt_pow_right (by omega) (by omega)
    have he := enS_lt e3 e4
    unfold wX10_chordsOf_5
    rw [show (nI 2).toNatClampNeg = 2 from by decide, show nI i + nI 1 = nI (i + 1) from nI_add i 1]
    refine ⟨S_223 hl, 224, R_223_1 hl, 7011, S_224 hl, vp_in_nI (by omega) (by omega), ?_⟩
    rw [eL]
    refine ⟨fun c => absurd c (nI_ge (by omega) (by omega)), fun _ => u_isIn hs (by omega) ⟨fun c => ?_, fun c => ⟨S_223 hl, u_endsOfN hl (by omega) e1 e2 e3 e4 ⟨fun c2 => ?_, fun c2 => ?_⟩⟩⟩⟩
    · have hb : bt s i ≠ 0 := fun z => c (by rw [z]; exact nI_0)
      have ee : chN f g s N (i + 1) = chN f g s N i := if_neg (fun z => hb z.1)
      rw [ee] at hi2
      exact hi2
    · rw [nI_sub0 (by omega) hN] at c2
      have ee : chN f g s N (i + 1) = chN f g s N i := if_neg (fun z => c2 z.2)
      rw [ee] at hi2
      exact hi2
    · rw [nI_sub0 (by omega) hN] at c2
      have hb : bt s i = 0 := by
        have hlt := bt_lt s i
        exact (nI_eq (a := bt s i) (b := 0) (by omega) (by omega)).mp (c.trans nI_0.symm)
      have ee : chN f g s N (i + 1) = chN f g s N i ||| 2 ^ i := if_pos ⟨hb, c2⟩
      rw [ee] at hi2
      rw [nI_shl i (by omega), nI_or (by omega) hp]
      exact hi2
theorem u_chordsOf {Q : Int32 → MH → Prop} {h : MH} {s N L : Nat} {f g : Nat → Nat} (hl : LX h) (hL : L ≤ 10) (eL : hI h 224 2 = nI L) (ef : ∀ l, l < L → hI h 224 (9 + 2 * l) = nI (f l) ∧ hI h 224 (9 + 2 * l + 1) = nI (g l) ∧ f l < 8 ∧ g l < 8) (hs : s < 2 ^ 31) (hN : N < 2 ^ 31) (hq : Q (nI (chN f g s N L)) h) : wX10_chordsOf 223 (nI s) (nI N) h Q :=
  ⟨L + 1, u_chordsOf_loop hl hL eL ef hs hN hq L 0 (by omega)⟩
