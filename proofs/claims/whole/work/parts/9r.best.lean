/-! Part 9r: the ring of the least cost by use. -/
theorem nI_nn {l : Nat} (h : l < 2 ^ 31) : ¬ nI l < 0 := by
  intro z
  have e := nI_le (Nat.zero_le l) h
  rw [nI_0] at e
  exact absurd z (Int32.not_lt.mpr e)
theorem nI_nm {l : Nat} (h : l < 2 ^ 31) : ¬ nI l = (-1 : Int32) := fun z => nI_nn h (by rw [z]; decide)
theorem neg1_lt : (-1 : Int32) < 0 := by decide
def allU (v : NV) (c : Nat) : Nat := bcN (nvOn v c) 10 + 2 * bcN (nvCh v c) 10
theorem allU_le (v : NV) (c : Nat) : allU v c ≤ 30 := by
  have a := bcN_le (nvOn v c) 10
  have b := bcN_le (nvCh v c) 10
  unfold allU
  omega
/-- whether a cycle counts: for all, or with use for a link -/
def hasB (v : NV) (lo : Option Nat) (c : Nat) : Nat :=
  match lo with
  | none => 1
  | some l => usN v c l
def liOf : Option Nat → Int32
  | none => (-1 : Int32)
  | some l => nI l
def bsT (v : NV) (r : Nat) (o : Option Nat) (c : Nat) : Option Nat :=
  match o with
  | none => some c
  | some b => if nvPc v r b * allU v c ≤ nvPc v r c * allU v b then some b else some c
def bsN (v : NV) (r : Nat) (lo : Option Nat) : Nat → Option Nat
  | 0 => none
  | c + 1 => if bt (nvMy v r) c = 1 ∧ hasB v lo c ≠ 0 then bsT v r (bsN v r lo c) c else bsN v r lo c
theorem bsN_ok {v : NV} {r : Nat} {lo : Option Nat} : ∀ n b, bsN v r lo n = some b → b < n ∧ bt (nvMy v r) b = 1 ∧ hasB v lo b ≠ 0
  | 0, b, e => by cases e
  | n + 1, b, e => by
    have ih := bsN_ok (v := v) (r := r) (lo := lo) n
    unfold bsN at e
    by_cases q : bt (nvMy v r) n = 1 ∧ hasB v lo n ≠ 0
    · rw [if_pos q] at e
      cases o : bsN v r lo n with
      | none =>
        rw [o] at e
        cases e
        exact ⟨by omega, q⟩
      | some b1 =>
        rw [o] at e
        have := ih b1 o
        unfold bsT at e
        dsimp only at e
        split at e
        · cases e
          exact ⟨by omega, this.2⟩
        · cases e
          exact ⟨by omega, q⟩
    · rw [if_neg q] at e
      have := ih b e
      exact ⟨by omega, this.2⟩
def bsI (v : NV) (r : Nat) (o : Option Nat) : Int32 :=
  match o with
  | none => (-1 : Int32)
  | some b => nI (bcN (nvMy v r) b)
theorem n_cvUses {Q : Int32 → MH → Prop} {h : MH} {v : NV} {t c : Nat} (hl : LX h) (hv : NvOK v) (p : CvR h v t) (hc : c < nvC v) (hb : bt (nvMy v t) c = 1) (hq : Q (nI (allU v c)) h) : wX0_usesOf 199 (nI (bcN (nvMy v t) c)) h Q := by
  have hlt := isRg_lt (x := nI (bcN (nvMy v t) c)) hv ⟨hc, hb, rfl⟩
  have h4 := hv.1
  have c1 := hv.2.2.1 c hc
  have o1 := lt_of_pow c1.2.1 (by omega)
  have o2 := lt_of_pow c1.2.2.2 (by omega)
  have b1 := bcN_lt hc hb
  have b2 := bcN_le (nvMy v t) (nvC v)
  obtain ⟨e1, e2, e3⟩ := p.2.2 c hc hb
  unfold wX0_usesOf
  rw [nI_clamp (by omega)]
  refine ⟨S_199 hl, 200, R_199_3 hl, 40, S_200 hl, vp_in_nI (by omega) (by omega), ?_⟩
  rw [e1]
  refine u_bitCount (by omega) ⟨S_199 hl, 201, R_199_4 hl, 40, S_201 hl, vp_in_nI (by omega) (by omega), ?_⟩
  rw [e2]
  refine u_bitCount (by omega) ?_
  rw [show nI 2 * nI (bcN (nvCh v c) 10) = nI (2 * bcN (nvCh v c) 10) from (Int32.ofNat_mul _ _).symm, nI_add]
  exact hq
theorem mul_small {v : NV} (hv : NvOK v) {r b c : Nat} (hr : r < 10) : nvPc v r b * allU v c < 2 ^ 31 := by
  have a1 := pc_lt hv (q := r) (c := b) hr
  have a2 := allU_le v c
  have : nvPc v r b * allU v c ≤ 990 * 30 := Nat.mul_le_mul a1 a2
  omega
/-- the class: one ring that counts -/
theorem n_best52 {Q : Int32 → MH → Prop} {K : Nat → Int32 → Int32 → Int32 → MH → Prop} {h : MH} {v : NV} {r c : Nat} {lo : Option Nat} {x3 s0 : Int32} (hl : LX h) (hv : NvOK v) (hr : r < 10) (p : CvR h v r) (hc : c < nvC v) (hb : bt (nvMy v r) c = 1) (hs : ¬ s0 = 0) (k : K 199 x3 (bsI v r (bsT v r (bsN v r lo c) c)) (nI (bcN (nvMy v r) c + 1)) h) : wX0_bestFor_52 Q K 199 x3 (bsI v r (bsN v r lo c)) (nI (bcN (nvMy v r) c)) s0 h := by
  have b1 := bcN_lt hc hb
  have b2 := bcN_le (nvMy v r) (nvC v)
  have h4 := hv.1
  unfold wX0_bestFor_52
  rw [nI_add]
  refine ⟨fun z => absurd z hs, fun _ => ?_⟩
  cases o : bsN v r lo c with
  | none =>
    rw [o] at k
    exact ⟨fun _ => k, fun z => absurd neg1_lt z⟩
  | some b =>
    rw [o] at k
    obtain ⟨q1, q2, _⟩ := bsN_ok c b o
    have hbC : b < nvC v := by omega
    have b3 := bcN_lt hbC q2
    unfold bsT at k
    dsimp only [bsI] at k ⊢
    refine ⟨fun z => absurd z (nI_nn (by omega)), fun _ => ⟨S_199 hl, 202, R_199_5 hl, 40, S_202 hl, vp_in_nI (by omega) (by omega), ?_⟩⟩
    refine n_cvUses hl hv p hbC q2 ⟨S_199 hl, 202, R_199_5 hl, 40, S_202 hl, vp_in_nI (by omega) (by omega), ?_⟩
    refine n_cvUses hl hv p hc hb ?_
    rw [nI_clamp (by omega), nI_clamp (by omega), (p.2.2 b hbC q2).2.2, (p.2.2 c hc hb).2.2, nI_mul, nI_mul]
    by_cases w : nvPc v r b * allU v c ≤ nvPc v r c * allU v b
    · rw [if_pos w] at k
      exact ⟨fun _ => k, fun z => absurd (nI_le w (mul_small hv hr)) z⟩
    · rw [if_neg w] at k
      exact ⟨fun z => absurd z (nI_ge (by omega) (mul_small hv hr)), fun _ => k⟩
/-- the reference: one ring that counts -/
theorem m_best26 {Q : Int32 → MH → Prop} {K : Nat → Int32 → Int32 → Int32 → MH → Prop} {h : MH} {v : NV} {r c : Nat} {lo : Option Nat} {x1 : Int32} (hl : LX h) (hv : NvOK v) (hr : r < 10) (p : RgV h v r) (hc : c < nvC v) (hb : bt (nvMy v r) c = 1) (k : K 223 x1 (bsI v r (bsT v r (bsN v r lo c) c)) (nI (bcN (nvMy v r) c + 1)) h) : wX10_cheapestFor_26 Q K 223 x1 (bsI v r (bsN v r lo c)) (nI (bcN (nvMy v r) c)) h := by
  have b1 := bcN_lt hc hb
  have b2 := bcN_le (nvMy v r) (nvC v)
  have h4 := hv.1
  unfold wX10_cheapestFor_26
  rw [nI_add]
  cases o : bsN v r lo c with
  | none =>
    rw [o] at k
    exact ⟨fun _ => k, fun z => absurd rfl z⟩
  | some b =>
    rw [o] at k
    obtain ⟨q1, q2, _⟩ := bsN_ok c b o
    have hbC : b < nvC v := by omega
    have b3 := bcN_lt hbC q2
    unfold bsT at k
    dsimp only [bsI] at k ⊢
    refine ⟨fun z => absurd z (nI_nm (by omega)), fun _ => ⟨S_223 hl, S_223 hl, 233, R_223_21 hl, 64, S_233 hl, vp_in_nI (by omega) (by omega), ?_⟩⟩
    refine m_usesOf hl hv p hbC q2 ⟨S_223 hl, 233, R_223_21 hl, 64, S_233 hl, vp_in_nI (by omega) (by omega), ?_⟩
    refine m_usesOf hl hv p hc hb ?_
    rw [nI_clamp (by omega), nI_clamp (by omega), (p.2 b hbC q2).2.2.2, (p.2 c hc hb).2.2.2]
    rw [show bcN (nvOn v c) 10 + 2 * bcN (nvCh v c) 10 = allU v c from rfl, show bcN (nvOn v b) 10 + 2 * bcN (nvCh v b) 10 = allU v b from rfl, nI_mul, nI_mul]
    by_cases w : nvPc v r b * allU v c ≤ nvPc v r c * allU v b
    · rw [if_pos w] at k
      rw [if_pos (nI_le w (mul_small hv hr))]
      exact ⟨.inl nI_0, fun _ => k, fun z => absurd nI_0 z⟩
    · rw [if_neg w] at k
      rw [if_neg (nI_ge (by omega) (mul_small hv hr))]
      exact ⟨.inr rfl, fun z => absurd z (by decide), fun _ => k⟩
