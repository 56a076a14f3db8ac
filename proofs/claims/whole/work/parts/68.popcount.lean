/-! ===== Long.bitCount, byte by byte ===== -/
theorem land_split (x y : Nat) : (x &&& y) = ((x % 256) &&& (y % 256)) + 256 * ((x / 256) &&& (y / 256)) := by
  have h1 : (x &&& y) % 2 ^ 8 = (x % 2 ^ 8) &&& (y % 2 ^ 8) := Nat.and_mod_two_pow
  have h2 : (x &&& y) / 2 ^ 8 = (x / 2 ^ 8) &&& (y / 2 ^ 8) := Nat.and_div_two_pow
  rw [show (256 : Nat) = 2 ^ 8 from rfl, ← h1, ← h2]
  omega
def maskN (c : Nat) : Nat → Nat
  | 0 => 0
  | n + 1 => c + 256 * maskN c n
def pV1 (x n : Nat) : Nat := x - (x / 2 &&& maskN 85 n)
def pV2 (x n : Nat) : Nat := (x &&& maskN 51 n) + (x / 4 &&& maskN 51 n)
def pV3 (x n : Nat) : Nat := (x + x / 16) &&& maskN 15 n
def pcBB : Nat → Nat → Nat
  | 0, _ => 0
  | n + 1, x => bcN (x % 256) 8 + 256 * pcBB n (x / 256)
def pcw1 (b : Nat) : Nat := b - (b / 2 &&& 85)
def pcw2 (c : Nat) : Nat := (c &&& 51) + (c / 4 &&& 51)
def pcw3 (c : Nat) : Nat := (c + c / 16) &&& 15
theorem pcf1 : ∀ b, b < 256 → ∀ c, c < 2 → (b / 2 + 128 * c) &&& 85 = b / 2 &&& 85 := by decide +kernel
theorem pcf2 : ∀ b, b < 256 → ∀ c, c < 4 → (b / 4 + 64 * c) &&& 51 = b / 4 &&& 51 := by decide +kernel
theorem pcf3 : ∀ b, b < 69 → ∀ c, c < 5 → (b + b / 16 + 16 * c) &&& 15 = pcw3 b := by decide +kernel
theorem pcf4 : ∀ b, b < 256 → pcw1 b < 256 ∧ pcw2 (pcw1 b) < 69 ∧ pcw2 (pcw1 b) % 16 < 5 ∧ pcw3 (pcw2 (pcw1 b)) = bcN b 8 := by decide +kernel
theorem pV1_step {x n : Nat} : pV1 x (n + 1) = pcw1 (x % 256) + 256 * pV1 (x / 256) n := by
  unfold pV1 pcw1
  rw [land_split (x / 2) (maskN 85 (n + 1)), show maskN 85 (n + 1) % 256 = 85 from by show (85 + 256 * maskN 85 n) % 256 = 85; omega, show maskN 85 (n + 1) / 256 = maskN 85 n from by show (85 + 256 * maskN 85 n) / 256 = _; omega]
  rw [show x / 2 % 256 = x % 256 / 2 + 128 * (x / 256 % 2) from by omega, pcf1 (x % 256) (by omega) (x / 256 % 2) (by omega), show x / 2 / 256 = x / 256 / 2 from by omega]
  have g1 : x % 256 / 2 &&& 85 ≤ x % 256 / 2 := Nat.and_le_left
  have g2 : x / 256 / 2 &&& maskN 85 n ≤ x / 256 / 2 := Nat.and_le_left
  omega
theorem pV2_step {c y n : Nat} (hc : c < 256) : pV2 (c + 256 * y) (n + 1) = pcw2 c + 256 * pV2 y n := by
  unfold pV2 pcw2
  have m1 : maskN 51 (n + 1) % 256 = 51 := by show (51 + 256 * maskN 51 n) % 256 = 51; omega
  have m2 : maskN 51 (n + 1) / 256 = maskN 51 n := by show (51 + 256 * maskN 51 n) / 256 = _; omega
  rw [land_split (c + 256 * y) (maskN 51 (n + 1)), land_split ((c + 256 * y) / 4) (maskN 51 (n + 1)), m1, m2]
  rw [show (c + 256 * y) % 256 = c from by omega, show (c + 256 * y) / 256 = y from by omega, show (c + 256 * y) / 4 % 256 = c / 4 + 64 * (y % 4) from by omega, pcf2 c hc (y % 4) (by omega), show (c + 256 * y) / 4 / 256 = y / 4 from by omega]
  omega
theorem pV3_step {c y n : Nat} (hc : c < 69) (hy : y % 16 < 5) : pV3 (c + 256 * y) (n + 1) = pcw3 c + 256 * pV3 y n := by
  have m1 : maskN 15 (n + 1) % 256 = 15 := by show (15 + 256 * maskN 15 n) % 256 = 15; omega
  have m2 : maskN 15 (n + 1) / 256 = maskN 15 n := by show (15 + 256 * maskN 15 n) / 256 = _; omega
  unfold pV3
  rw [land_split _ (maskN 15 (n + 1)), m1, m2]
  rw [show (c + 256 * y + (c + 256 * y) / 16) % 256 = c + c / 16 + 16 * (y % 16) from by omega, pcf3 c hc (y % 16) hy, show (c + 256 * y + (c + 256 * y) / 16) / 256 = y + y / 16 from by omega]
theorem pV_all : ∀ n x, pV2 (pV1 x n) n % 16 < 5 ∧ (x < 256 ^ n → pV3 (pV2 (pV1 x n) n) n = pcBB n x)
  | 0, x => by
    constructor
    · show ((pV1 x 0 &&& 0) + (pV1 x 0 / 4 &&& 0)) % 16 < 5
      rw [Nat.and_zero, Nat.and_zero]; omega
    · intro _
      show (_ &&& 0) = 0
      exact Nat.and_zero _
  | n + 1, x => by
    have ih := pV_all n (x / 256)
    have g := pcf4 (x % 256) (by omega)
    rw [pV1_step, pV2_step g.1]
    constructor
    · have := g.2.2.1
      omega
    · intro hx
      rw [pV3_step g.2.1 ih.1, g.2.2.2, ih.2 (by rw [Nat.pow_succ] at hx; omega)]
      rfl
theorem bt_hi (x n : Nat) : bt x (8 + n) = bt (x / 256) n := by
  unfold bt
  rw [Nat.pow_add, ← Nat.div_div_eq_div_mul]
theorem bt_lo (x : Nat) : ∀ k, k < 8 → bt x k = bt (x % 256) k := by
  intro k hk
  have q : k = 0 ∨ k = 1 ∨ k = 2 ∨ k = 3 ∨ k = 4 ∨ k = 5 ∨ k = 6 ∨ k = 7 := by omega
  unfold bt
  rcases q with q | q | q | q | q | q | q | q <;> subst q <;> omega
theorem bcN_lo (x : Nat) : ∀ k, k ≤ 8 → bcN x k = bcN (x % 256) k
  | 0, _ => rfl
  | k + 1, h => by
    show bcN x k + bt x k = bcN (x % 256) k + bt (x % 256) k
    rw [bcN_lo x k (by omega), bt_lo x k (by omega)]
theorem bcN_hi (x : Nat) : ∀ n, bcN x (8 + n) = bcN (x % 256) 8 + bcN (x / 256) n
  | 0 => bcN_lo x 8 (by omega)
  | n + 1 => by
    show bcN x (8 + n) + bt x (8 + n) = bcN (x % 256) 8 + (bcN (x / 256) n + bt (x / 256) n)
    rw [bcN_hi x n, bt_hi]
    omega
/-- the last three steps add the bytes -/
theorem pcBB_sum (x : Nat) : ∃ v, v = pcBB 8 x ∧ v < 2 ^ 60 ∧ ((v + v / 256) + (v + v / 256) / 65536 + ((v + v / 256) + (v + v / 256) / 65536) / 4294967296) % 128 = bcN x 64 := by
  have e1 := bcN_hi x 56
  have e2 := bcN_hi (x / 256) 48
  have e3 := bcN_hi (x / 256 / 256) 40
  have e4 := bcN_hi (x / 256 / 256 / 256) 32
  have e5 := bcN_hi (x / 256 / 256 / 256 / 256) 24
  have e6 := bcN_hi (x / 256 / 256 / 256 / 256 / 256) 16
  have e7 := bcN_hi (x / 256 / 256 / 256 / 256 / 256 / 256) 8
  have e8 := bcN_hi (x / 256 / 256 / 256 / 256 / 256 / 256 / 256) 0
  have b1 := bcN_le (x % 256) 8
  have b2 := bcN_le (x / 256 % 256) 8
  have b3 := bcN_le (x / 256 / 256 % 256) 8
  have b4 := bcN_le (x / 256 / 256 / 256 % 256) 8
  have b5 := bcN_le (x / 256 / 256 / 256 / 256 % 256) 8
  have b6 := bcN_le (x / 256 / 256 / 256 / 256 / 256 % 256) 8
  have b7 := bcN_le (x / 256 / 256 / 256 / 256 / 256 / 256 % 256) 8
  have b8 := bcN_le (x / 256 / 256 / 256 / 256 / 256 / 256 / 256 % 256) 8
  have eB : pcBB 8 x = bcN (x % 256) 8 + 256 * (bcN (x / 256 % 256) 8 + 256 * (bcN (x / 256 / 256 % 256) 8 + 256 * (bcN (x / 256 / 256 / 256 % 256) 8 + 256 * (bcN (x / 256 / 256 / 256 / 256 % 256) 8 + 256 * (bcN (x / 256 / 256 / 256 / 256 / 256 % 256) 8 + 256 * (bcN (x / 256 / 256 / 256 / 256 / 256 / 256 % 256) 8 + 256 * (bcN (x / 256 / 256 / 256 / 256 / 256 / 256 / 256 % 256) 8 + 256 * 0))))))) := rfl
  have e9 : bcN (x / 256 / 256 / 256 / 256 / 256 / 256 / 256 / 256) 0 = 0 := rfl
  simp only [show 8 + 56 = 64 from rfl, show 8 + 48 = 56 from rfl, show 8 + 40 = 48 from rfl, show 8 + 32 = 40 from rfl, show 8 + 24 = 32 from rfl, show 8 + 16 = 24 from rfl, show 8 + 8 = 16 from rfl, show 8 + 0 = 8 from rfl] at e1 e2 e3 e4 e5 e6 e7 e8
  refine ⟨_, rfl, ?_, ?_⟩
  · rw [eB]
    omega
  · rw [eB, e1, e2, e3, e4, e5, e6, e7, e8, e9]
    generalize bcN (x % 256) 8 = p1 at *
    generalize bcN (x / 256 % 256) 8 = p2 at *
    generalize bcN (x / 256 / 256 % 256) 8 = p3 at *
    generalize bcN (x / 256 / 256 / 256 % 256) 8 = p4 at *
    generalize bcN (x / 256 / 256 / 256 / 256 % 256) 8 = p5 at *
    generalize bcN (x / 256 / 256 / 256 / 256 / 256 % 256) 8 = p6 at *
    generalize bcN (x / 256 / 256 / 256 / 256 / 256 / 256 % 256) 8 = p7 at *
    generalize bcN (x / 256 / 256 / 256 / 256 / 256 / 256 / 256 % 256) 8 = p8 at *
    clear e1 e2 e3 e4 e5 e6 e7 e8 e9 eB
    have hu : (p1 + 256 * (p2 + 256 * (p3 + 256 * (p4 + 256 * (p5 + 256 * (p6 + 256 * (p7 + 256 * (p8 + 256 * 0)))))))) + (p1 + 256 * (p2 + 256 * (p3 + 256 * (p4 + 256 * (p5 + 256 * (p6 + 256 * (p7 + 256 * (p8 + 256 * 0)))))))) / 256 = (p1 + p2) + 256 * ((p2 + p3) + 256 * ((p3 + p4) + 256 * ((p4 + p5) + 256 * ((p5 + p6) + 256 * ((p6 + p7) + 256 * ((p7 + p8) + 256 * (p8))))))) := by omega
    rw [hu]
    clear hu
    have hw : ((p1 + p2) + 256 * ((p2 + p3) + 256 * ((p3 + p4) + 256 * ((p4 + p5) + 256 * ((p5 + p6) + 256 * ((p6 + p7) + 256 * ((p7 + p8) + 256 * (p8)))))))) + ((p1 + p2) + 256 * ((p2 + p3) + 256 * ((p3 + p4) + 256 * ((p4 + p5) + 256 * ((p5 + p6) + 256 * ((p6 + p7) + 256 * ((p7 + p8) + 256 * (p8)))))))) / 65536 = (p1 + p2 + p3 + p4) + 256 * ((p2 + p3 + p4 + p5) + 256 * ((p3 + p4 + p5 + p6) + 256 * ((p4 + p5 + p6 + p7) + 256 * ((p5 + p6 + p7 + p8) + 256 * ((p6 + p7 + p8) + 256 * ((p7 + p8) + 256 * ((p8)))))))) := by omega
    rw [hw]
    clear hw
    have hz : ((p1 + p2 + p3 + p4) + 256 * ((p2 + p3 + p4 + p5) + 256 * ((p3 + p4 + p5 + p6) + 256 * ((p4 + p5 + p6 + p7) + 256 * ((p5 + p6 + p7 + p8) + 256 * ((p6 + p7 + p8) + 256 * ((p7 + p8) + 256 * ((p8))))))))) / 4294967296 = (p5 + p6 + p7 + p8) + 256 * ((p6 + p7 + p8) + 256 * ((p7 + p8) + 256 * (p8))) := by omega
    rw [hz]
    clear hz
    have hy : ((p1 + p2 + p3 + p4) + 256 * ((p2 + p3 + p4 + p5) + 256 * ((p3 + p4 + p5 + p6) + 256 * ((p4 + p5 + p6 + p7) + 256 * ((p5 + p6 + p7 + p8) + 256 * ((p6 + p7 + p8) + 256 * ((p7 + p8) + 256 * ((p8))))))))) + ((p5 + p6 + p7 + p8) + 256 * ((p6 + p7 + p8) + 256 * ((p7 + p8) + 256 * (p8)))) = (p1 + p2 + p3 + p4 + p5 + p6 + p7 + p8) + 128 * (2 * ((p2 + p3 + p4 + p5 + p6 + p7 + p8) + 256 * ((p3 + p4 + p5 + p6 + p7 + p8) + 256 * ((p4 + p5 + p6 + p7 + p8) + 256 * ((p5 + p6 + p7 + p8) + 256 * ((p6 + p7 + p8) + 256 * ((p7 + p8) + 256 * p8))))))) := by omega
    rw [hy, Nat.add_mul_mod_self_left, Nat.mod_eq_of_lt (by omega)]
    omega
