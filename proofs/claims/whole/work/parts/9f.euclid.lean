/-! ===== greatest common divisors, both ways ===== -/
theorem lN_tI {n : Nat} (h : n < 2 ^ 63) : (lN n).toInt = (n : Int) := lg_ofNat_toInt (by omega)
theorem lN_divN {a b : Nat} (ha : a < 2 ^ 62) (hb : b < 2 ^ 62) (h0 : 0 < b) : lN a / lN b = lN (a / b) := by
  have h1 : a / b ≤ a := Nat.div_le_self _ _
  apply Int64.toInt_inj.mp
  rw [Int64.toInt_div, lN_tI (by omega), lN_tI (by omega), lN_tI (by omega)]
  have e : ((a : Int).tdiv (b : Int)) = ((a / b : Nat) : Int) := by
    rw [Int.tdiv_eq_ediv_of_nonneg (by omega)]
    rfl
  rw [e]
  clear e
  generalize a / b = q at h1 ⊢
  exact Int.bmod_eq_of_le (by omega) (by omega)
theorem lN_rem {a b : Nat} (ha : a < 2 ^ 62) (hb : b < 2 ^ 62) (h0 : 0 < b) : lN a - lN a / lN b * lN b = lN (a % b) := by
  have h1 : a / b * b ≤ a := Nat.div_mul_le_self a b
  rw [lN_divN ha hb h0, lN_mul, lN_sub h1]
  have e := Nat.div_add_mod a b
  rw [Nat.mul_comm] at e
  rw [show a - a / b * b = a % b from by omega]
theorem lN_cmp0 {a : Nat} (ha : a < 2 ^ 62) : (lg_cmp (lN a) (0 : Int64) = 0) ↔ a = 0 := by
  have := lN_cmp (a := a) (b := 0) (by omega) (by omega)
  exact this
theorem lN_ne0 {a : Nat} (ha : a < 2 ^ 62) (h : a ≠ 0) : ¬ (lN a = 0) := fun e => h (by
  have := congrArg Int64.toInt e
  rw [lN_tI (by omega), show (0 : Int64).toInt = 0 from by decide] at this
  omega)
/-- Euclid is through within so many steps -/
def euD : Nat → Nat → Nat → Prop
  | 0, _, b => b = 0
  | n + 1, a, b => b = 0 ∨ euD n b (a % b)
theorem eu_steps : ∀ k a b, b < 2 ^ k → euD (2 * k + 1) a b := by
  intro k
  induction k with
  | zero =>
    intro a b hb
    exact Or.inl (by omega)
  | succ k ih =>
    intro a b hb
    by_cases h0 : b = 0
    · exact Or.inl h0
    · refine Or.inr ?_
      show euD (2 * k + 1 + 1) b (a % b)
      by_cases h1 : a % b = 0
      · exact Or.inl h1
      · refine Or.inr (ih _ _ ?_)
        have r1 : a % b < b := Nat.mod_lt _ (by omega)
        have r2 : b % (a % b) < a % b := Nat.mod_lt _ (by omega)
        have r3 : b % (a % b) = (b - a % b) % (a % b) := Nat.mod_eq_sub_mod (by omega)
        have r4 : (b - a % b) % (a % b) ≤ b - a % b := Nat.mod_le _ _
        have e : (2 : Nat) ^ (k + 1) = 2 * 2 ^ k := by rw [Nat.pow_succ, Nat.mul_comm]
        omega
theorem eu_gcd {a b : Nat} : Nat.gcd a b = Nat.gcd b (a % b) := by
  rw [Nat.gcd_comm a b, Nat.gcd_rec b a, Nat.gcd_comm]
theorem n_common {Q : Int64 → MH → Prop} {h : MH} {a b k : Nat} (ha : a < 2 ^ 62) (hb : b < 2 ^ 62) (hk : b < 2 ^ k) (hk2 : 2 * k + 1 < 200) (hq : Q (lN (Nat.gcd a b)) h) : wX1_commonDivisor (lN a) (lN b) h Q := by
  have lp : ∀ n i x y, i + n < 200 → x < 2 ^ 62 → y < 2 ^ 62 → Nat.gcd x y = Nat.gcd a b → euD n x y → wX1_commonDivisor_9 Q (n + 1) (lN x) (lN y) (nI i) h := by
    intro n
    induction n with
    | zero =>
      intro i x y hi hx hy hg e
      have e : y = 0 := e
      unfold wX1_commonDivisor_9
      rw [lN_cmp0 hy]
      refine ⟨fun z => absurd z (nI_ge (by omega) (by omega)), fun _ => ⟨fun _ => ?_, fun z => absurd e z⟩⟩
      rw [e, Nat.gcd_zero_right] at hg
      rw [hg]
      exact hq
    | succ n ih =>
      intro i x y hi hx hy hg e
      unfold wX1_commonDivisor_9
      rw [lN_cmp0 hy, nI_add]
      refine ⟨fun z => absurd z (nI_ge (by omega) (by omega)), fun _ => ⟨fun z => ?_, fun z => ⟨lN_ne0 hy z, ?_⟩⟩⟩
      · rw [z, Nat.gcd_zero_right] at hg
        rw [hg]
        exact hq
      · rw [lN_rem hx hy (by omega)]
        have r1 : x % y < y := Nat.mod_lt _ (by omega)
        rcases e with e | e
        · exact absurd e z
        · exact ih (i + 1) y (x % y) (by omega) hy (by omega) (eu_gcd.symm.trans hg) e
  exact ⟨_, lp (2 * k + 1) 0 a b (by omega) ha hb rfl (eu_steps k a b hk)⟩
theorem n_begin1 {Q : MH → Prop} {h : MH} {a b k : Nat} (hl : LX h) (ha : a < 2 ^ 62) (hb : b < 2 ^ 62) (h0 : 0 < b) (hk : b < 2 ^ k) (hk2 : 2 * k + 1 < 200) (hq : Q (sL (sL h 205 0 (lN (a / Nat.gcd a b))) 205 1 (lN (b / Nat.gcd a b)))) : wX1_begin 205 (lN a) (lN b) h Q := by
  have g0 : 0 < Nat.gcd a b := Nat.gcd_pos_of_pos_right _ h0
  have g1 : Nat.gcd a b ≤ b := Nat.gcd_le_right _ h0
  refine n_common ha hb hk hk2 ?_
  rw [lN_cmp0 (by omega)]
  refine ⟨fun _ => ⟨lN_ne0 (by omega) (by omega), S_205 hl, fun h5 e5 => ?_⟩, fun z => absurd z (by omega)⟩
  rw [lN_divN ha (by omega) g0] at e5
  subst e5
  rw [lN_cmp0 (by omega)]
  refine ⟨fun _ => ⟨lN_ne0 (by omega) (by omega), S_205 hl, fun h8 e8 => ?_⟩, fun z => absurd z (by omega)⟩
  rw [lN_divN hb (by omega) g0] at e8
  subst e8
  exact hq
theorem m_common {Q : Int64 → MH → Prop} {h : MH} : ∀ n d a b, n + 2 ≤ d → a < 2 ^ 62 → b < 2 ^ 62 → euD n a b → Q (lN (Nat.gcd a b)) h → Cm MX10_common d 0 0 [.long (lN a), .long (lN b)] h (pL Q) := by
  intro n
  induction n with
  | zero =>
    intro d a b hd ha hb e hq
    have e : b = 0 := e
    refine gX10_common (PX10_common := fun _ _ _ _ => False) (d2 := 0) (by omega) (by omega) (fun _ _ _ _ q => q.elim) _ _ h Q ⟨fun z => absurd ((lN_cmp0 hb).mpr e) z, fun _ => ?_⟩
    rw [e, Nat.gcd_zero_right] at hq
    exact hq
  | succ n ih =>
    intro d a b hd ha hb e hq
    refine gX10_common (PX10_common := fun y0 y1 h Q => Cm MX10_common (d - 1) 0 0 [.long y0, .long y1] h (pL Q)) (d2 := d - 1) (by omega) (by omega) (fun _ _ _ _ q => q) _ _ h Q ⟨fun z => ?_, fun z => ?_⟩
    · have z1 : b ≠ 0 := fun y => z ((lN_cmp0 hb).mpr y)
      have r1 : a % b < b := Nat.mod_lt _ (by omega)
      refine ⟨lN_ne0 hb z1, ?_⟩
      rw [lN_rem ha hb (by omega)]
      rcases e with e | e
      · exact absurd e z1
      · exact ih (d - 1) b (a % b) (by omega) hb (by omega) e (by rw [← eu_gcd]; exact hq)
    · have e0 := (lN_cmp0 hb).mp z
      rw [e0, Nat.gcd_zero_right] at hq
      exact hq
