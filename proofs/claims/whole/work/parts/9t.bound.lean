/-! Part 9t: the bound: sums without heaps, and the fraction at 205. -/
theorem bt_z {s l : Nat} (h : s < 2 ^ l) : bt s l = 0 := by
  unfold bt
  rw [Nat.div_eq_of_lt h]
theorem allU_20 {v : NV} {c : Nat} (hv : NvOK v) (hc : c < nvC v) : allU v c ≤ 20 := by
  have lp : ∀ n, n ≤ 10 → bcN (nvOn v c) n + 2 * bcN (nvCh v c) n ≤ 2 * n := by
    intro n
    induction n with
    | zero => intro _; exact Nat.le_refl _
    | succ n ih =>
      intro hn
      have g := ih (by omega)
      have e1 : bcN (nvOn v c) (n + 1) = bcN (nvOn v c) n + bt (nvOn v c) n := rfl
      have e2 : bcN (nvCh v c) (n + 1) = bcN (nvCh v c) n + bt (nvCh v c) n := rfl
      by_cases q : n < nvL v
      · have u := (us_cases hv hc q).1
        unfold usN at u
        omega
      · have c1 := hv.2.2.1 c hc
        have pw : (2 : Nat) ^ nvL v ≤ 2 ^ n := Nat.pow_le_pow_right (by omega) (by omega)
        have z1 : bt (nvOn v c) n = 0 := bt_z (by omega)
        have z2 : bt (nvCh v c) n = 0 := bt_z (by omega)
        omega
  have := lp 10 (by omega)
  unfold allU
  omega
theorem allU_pos {v : NV} {c l : Nat} (hl : l < 10) (u : usN v c l ≠ 0) : 0 < allU v c := by
  unfold allU
  unfold usN at u
  rcases bt01 (nvOn v c) l with a | a
  · rcases bt01 (nvCh v c) l with b | b
    · omega
    · have := bcN_lt hl b
      omega
  · have := bcN_lt hl a
    omega
def bdA (v : NV) (r l x y b : Nat) : Nat := x * allU v b + nvW v l * nvPc v r b * y
def bdE (v : NV) (y b : Nat) : Nat := y * allU v b
/-- the bound from link l on, n links to go, the sum so far x over y -/
def bdF (v : NV) (r : Nat) : Nat → Nat → Nat → Nat → Option (Nat × Nat)
  | 0, _, x, y => some (x, y)
  | n + 1, l, x, y => if nvW v l = 0 then bdF v r n (l + 1) x y else
    match bsN v r (some l) (nvC v) with
    | none => none
    | some b => bdF v r n (l + 1) (bdA v r l x y b / Nat.gcd (bdA v r l x y b) (bdE v y b)) (bdE v y b / Nat.gcd (bdA v r l x y b) (bdE v y b))
def BdOK (l x y : Nat) : Prop := 0 < y ∧ y ≤ 20 ^ l ∧ x ≤ 1980 * l * 20 ^ l
theorem bd_up {l x y : Nat} (p : BdOK l x y) : BdOK (l + 1) x y := by
  obtain ⟨p1, p2, p3⟩ := p
  have e : 20 ^ (l + 1) = 20 ^ l * 20 := rfl
  refine ⟨p1, by omega, ?_⟩
  have : 1980 * l * 20 ^ l ≤ 1980 * (l + 1) * 20 ^ (l + 1) := Nat.mul_le_mul (by omega) (by omega)
  omega
theorem bd_pre {v : NV} {r l x y b : Nat} (hv : NvOK v) (hr : r < 10) (hl : l < nvL v) (hb : b < nvC v) (hu : usN v b l ≠ 0) (p : BdOK l x y) : 0 < bdE v y b ∧ bdE v y b ≤ 20 ^ (l + 1) ∧ bdA v r l x y b ≤ 1980 * (l + 1) * 20 ^ (l + 1) := by
  obtain ⟨p1, p2, p3⟩ := p
  have h4 := hv.1
  have u1 := allU_pos (l := l) (by omega) hu
  have u2 := allU_20 hv hb
  have hp := pc_lt hv (q := r) (c := b) hr
  have hw := (hv.2.1 l hl).2.2.2.2
  have e : 20 ^ (l + 1) = 20 ^ l * 20 := rfl
  refine ⟨Nat.mul_pos p1 u1, by rw [e]; exact Nat.mul_le_mul p2 u2, ?_⟩
  have a1 : x * allU v b ≤ 1980 * l * 20 ^ l * 20 := Nat.mul_le_mul p3 u2
  have a2 : nvW v l * nvPc v r b ≤ 2 * 990 := Nat.mul_le_mul hw hp
  have a3 : nvW v l * nvPc v r b * y ≤ 2 * 990 * 20 ^ l := Nat.mul_le_mul a2 p2
  have e2 : 1980 * (l + 1) * (20 ^ l * 20) = 1980 * l * 20 ^ l * 20 + 1980 * (20 ^ l * 20) := by
    rw [Nat.mul_add, Nat.add_mul, Nat.mul_one, Nat.mul_assoc (1980 * l)]
  unfold bdA
  rw [e, e2]
  omega
theorem bd_small {l a e : Nat} (hl : l < 10) (he : e ≤ 20 ^ (l + 1)) (ha : a ≤ 1980 * (l + 1) * 20 ^ (l + 1)) : e < 2 ^ 60 ∧ a < 2 ^ 62 := by
  have pw : (20 : Nat) ^ (l + 1) ≤ 20 ^ 10 := Nat.pow_le_pow_right (by omega) (by omega)
  have : 1980 * (l + 1) * 20 ^ (l + 1) ≤ 19800 * 20 ^ 10 := Nat.mul_le_mul (by omega) pw
  omega
theorem bd_red {l a e : Nat} (h0 : 0 < e) (he : e ≤ 20 ^ l) (ha : a ≤ 1980 * l * 20 ^ l) : BdOK l (a / Nat.gcd a e) (e / Nat.gcd a e) := by
  have g0 : 0 < Nat.gcd a e := Nat.gcd_pos_of_pos_right _ h0
  have gl : Nat.gcd a e ≤ e := Nat.gcd_le_right _ h0
  have d1 := Nat.div_le_self a (Nat.gcd a e)
  have d2 := Nat.div_le_self e (Nat.gcd a e)
  exact ⟨Nat.div_pos gl g0, by omega, by omega⟩
/-- all that stands, with the covers' age at most B -/
def JB (lp : NV → Nat → Nat → Nat) (B : Nat) (d : DV) (g : MH) : Prop := LX g ∧ (TP g ∧ TY g) ∧ CP (CVA lp B) g d ∧ MP g d
theorem JB_205 {lp : NV → Nat → Nat → Nat} {B k : Nat} {d : DV} {g : MH} {x : Int64} (j : JB lp B d g) : JB lp B d (sL g 205 k x) := by
  obtain ⟨hl, ⟨t1, t2⟩, c, m⟩ := j
  have q : NetEq g (sL g 205 k x) := ⟨Nat.le_refl _, fun b hb => ⟨rfl, rfl, rfl, fun _ => funext (fun i => by unfold NA at hb; rw [hL_sL, if_neg (by omega)])⟩⟩
  have q2 : CvEq g (sL g 205 k x) := ⟨Nat.le_refl _, fun b hb => ⟨rfl, rfl, funext (fun i => by rw [hL_sL, if_neg (by omega)]), rfl⟩⟩
  refine ⟨LX_sL hl, ⟨TP_cong rfl rfl rfl rfl rfl rfl t1, ?_⟩, ?_, MP_cong rfl rfl rfl (fun b b1 b2 => rfl) m⟩
  · intro t ht
    have y := t2 t ht
    unfold TY1 at *
    rcases y with y | ⟨s, m0, y1, y2, y3, y4, y5, y6, y7⟩
    · exact Or.inl y
    · refine Or.inr ⟨s, m0, y1, y2, y3, y4, y5, y6, fun i hi => ?_⟩
      rw [hL_sL, if_neg (by omega), hL_sL, if_neg (by omega)]
      exact y7 i hi
  · obtain ⟨⟨a, ca, cn⟩, cs, ⟨p, ch⟩, ci, cb, cv⟩ := c
    exact ⟨⟨a, ca, NetV_keep q cn⟩, StV_row rfl rfl rfl cs, ⟨p, HiV_row (fun b b1 b2 => rfl) ch⟩, fun t ht => ImC_cong ht q rfl (fun b b1 b2 => rfl) (ci t ht), cb, CVA_keep lp B _ _ q2 cv⟩
