/-! Part b2: ten links make at most forty rings. -/
def nS (p : Nat → Bool) : Nat → Nat
  | 0 => 0
  | k + 1 => nS p k + (if p k = true then 1 else 0)
theorem nS_le {p q : Nat → Bool} : ∀ k, (∀ i, i < k → p i = true → q i = true) → nS p k ≤ nS q k
  | 0, _ => Nat.le_refl _
  | k + 1, h => by
    have ih := nS_le k (fun i hi => h i (by omega))
    show nS p k + (if p k = true then 1 else 0) ≤ nS q k + (if q k = true then 1 else 0)
    by_cases z : p k = true
    · rw [if_pos z, if_pos (h k (by omega) z)]; omega
    · rw [if_neg z]; omega
theorem nS_add {p : Nat → Bool} {a : Nat} : ∀ k, nS p (a + k) = nS p a + nS (fun i => p (a + i)) k
  | 0 => rfl
  | k + 1 => by
    show nS p (a + k) + (if p (a + k) = true then 1 else 0) = nS p a + (nS (fun i => p (a + i)) k + (if p (a + k) = true then 1 else 0))
    rw [nS_add k]
    omega
theorem nS_cong {p q : Nat → Bool} : ∀ k, (∀ i, i < k → p i = q i) → nS p k = nS q k
  | 0, _ => rfl
  | k + 1, h => by
    show nS p k + (if p k = true then 1 else 0) = nS q k + (if q k = true then 1 else 0)
    rw [nS_cong k (fun i hi => h i (by omega)), h k (by omega)]
theorem nS_pos {p : Nat → Bool} : ∀ k, 0 < nS p k → ∃ i, i < k ∧ p i = true
  | 0, h => absurd h (by show ¬ 0 < 0; omega)
  | k + 1, h => by
    have h : 0 < nS p k + (if p k = true then 1 else 0) := h
    by_cases z : p k = true
    · exact ⟨k, by omega, z⟩
    · rw [if_neg z] at h
      obtain ⟨i, a, b⟩ := nS_pos k h
      exact ⟨i, by omega, b⟩
theorem nS_two {p : Nat → Bool} {l : Nat} : nS p (2 ^ (l + 1)) = nS p (2 ^ l) + nS (fun i => p (2 ^ l + i)) (2 ^ l) := by
  rw [Nat.pow_succ, Nat.mul_two, nS_add]
theorem bt_up {l D i : Nat} (hi : i < l) : bt (2 ^ l + D) i = bt D i := bt_eq_of (Nat.testBit_two_pow_add_gt hi D)
theorem bt_top {l D : Nat} (hD : D < 2 ^ l) : bt (2 ^ l + D) l = 1 := by
  rw [bt_tb, Nat.testBit_two_pow_add_eq, Nat.testBit_lt_two_pow hD]
  rfl
section EV
variable {f g : Nat → Nat}
theorem dg_up {l D n : Nat} : ∀ i, i ≤ l → dg f g (2 ^ l + D) n i = dg f g D n i
  | 0, _ => rfl
  | i + 1, h => by
    show dg f g (2 ^ l + D) n i + bt (2 ^ l + D) i * (e01 (f i) n + e01 (g i) n) = dg f g D n i + bt D i * (e01 (f i) n + e01 (g i) n)
    rw [dg_up i (by omega), bt_up (by omega)]
theorem pk_up {l D : Nat} : ∀ i, i ≤ l → pkN f g (2 ^ l + D) i = pkN f g D i
  | 0, _ => rfl
  | i + 1, h => by
    show pkN f g (2 ^ l + D) i + bt (2 ^ l + D) i * (16 ^ f i + 16 ^ g i) = pkN f g D i + bt D i * (16 ^ f i + 16 ^ g i)
    rw [pk_up i (by omega), bt_up (by omega)]
/-- which nodes hang together by the first links: the least node of each heap -/
def lab (f g : Nat → Nat) : Nat → Nat → Nat
  | 0, n => n
  | l + 1, n => if lab f g l n = max (lab f g l (f l)) (lab f g l (g l)) then min (lab f g l (f l)) (lab f g l (g l)) else lab f g l n
theorem lab_same : ∀ l i, i < l → lab f g l (f i) = lab f g l (g i)
  | 0, _, h => absurd h (by omega)
  | l + 1, i, h => by
    show (if lab f g l (f i) = max (lab f g l (f l)) (lab f g l (g l)) then min (lab f g l (f l)) (lab f g l (g l)) else lab f g l (f i)) = (if lab f g l (g i) = max (lab f g l (f l)) (lab f g l (g l)) then min (lab f g l (f l)) (lab f g l (g l)) else lab f g l (g i))
    by_cases q : i = l
    · subst q
      by_cases c : lab f g i (f i) ≤ lab f g i (g i)
      · rw [Nat.max_eq_right c, Nat.min_eq_left c, if_pos (rfl : lab f g i (g i) = lab f g i (g i))]
        by_cases z : lab f g i (f i) = lab f g i (g i)
        · rw [if_pos z]
        · rw [if_neg z]
      · have c : lab f g i (g i) ≤ lab f g i (f i) := by omega
        rw [Nat.max_eq_left c, Nat.min_eq_right c, if_pos (rfl : lab f g i (f i) = lab f g i (f i))]
        by_cases z : lab f g i (g i) = lab f g i (f i)
        · rw [if_pos z]
        · rw [if_neg z]
    · rw [lab_same l i (by omega)]
def kcl (f g : Nat → Nat) : Nat → Nat
  | 0 => 0
  | l + 1 => kcl f g l + (if lab f g l (f l) = lab f g l (g l) then 1 else 0)
def suC (c φ : Nat → Nat) : Nat → Nat
  | 0 => 0
  | n + 1 => suC c φ n + c n * φ n
theorem suC_add {c φ ψ : Nat → Nat} : ∀ k, suC c (fun n => φ n + ψ n) k = suC c φ k + suC c ψ k
  | 0 => rfl
  | k + 1 => by
    show suC c (fun n => φ n + ψ n) k + c k * (φ k + ψ k) = (suC c φ k + c k * φ k) + (suC c ψ k + c k * ψ k)
    rw [suC_add k, Nat.mul_add]
    omega
theorem suC_e {c : Nat → Nat} {a : Nat} : ∀ k, suC c (e01 a) k = if a < k then c a else 0
  | 0 => by rw [if_neg (by omega)]; rfl
  | k + 1 => by
    show suC c (e01 a) k + c k * e01 a k = _
    rw [suC_e k]
    by_cases q : a = k
    · subst q; rw [if_neg (by omega), if_pos (by omega), e01_s]; omega
    · rw [e01_n q]
      by_cases q2 : a < k
      · rw [if_pos q2, if_pos (by omega)]; omega
      · rw [if_neg q2, if_neg (by omega)]; omega
theorem suC_even {c φ : Nat → Nat} : ∀ k, (∀ n, n < k → φ n % 2 = 0) → suC c φ k % 2 = 0
  | 0, _ => rfl
  | k + 1, h => by
    have ih := suC_even (c := c) k (fun n hn => h n (by omega))
    show (suC c φ k + c k * φ k) % 2 = 0
    have e : c k * φ k % 2 = 0 := by rw [Nat.mul_mod, h k (by omega), Nat.mul_zero, Nat.zero_mod]
    omega
def pE (f g : Nat → Nat) (acc : Nat → Nat) (l D : Nat) : Bool := allB (fun n => decide ((acc n + dg f g D n l) % 2 = 0)) 8
theorem su_dg {c : Nat → Nat} {D : Nat} : ∀ j, (∀ i, i < j → f i < 8 ∧ g i < 8 ∧ c (f i) = c (g i)) → suC c (fun n => dg f g D n j) 8 % 2 = 0
  | 0, _ => suC_even 8 (fun _ _ => rfl)
  | j + 1, h => by
    have ih := su_dg (c := c) (D := D) j (fun i hi => h i (by omega))
    have hj := h j (by omega)
    rcases bt01 D j with b | b
    · have e : (fun n => dg f g D n (j + 1)) = fun n => dg f g D n j := by
        funext n
        show dg f g D n j + bt D j * (e01 (f j) n + e01 (g j) n) = _
        rw [b, Nat.zero_mul, Nat.add_zero]
      rw [e]
      exact ih
    · have e : (fun n => dg f g D n (j + 1)) = fun n => dg f g D n j + (e01 (f j) n + e01 (g j) n) := by
        funext n
        show dg f g D n j + bt D j * (e01 (f j) n + e01 (g j) n) = _
        rw [b, Nat.one_mul]
      rw [e, suC_add, suC_add, suC_e, suC_e, if_pos hj.1, if_pos hj.2.1, hj.2.2]
      omega
theorem even_le {L : Nat} (h : Lk f g L) : ∀ l acc, l ≤ L → nS (pE f g acc l) (2 ^ l) ≤ 2 ^ kcl f g l
  | 0, acc, _ => by
    show (0 + (if pE f g acc 0 0 = true then 1 else 0)) ≤ 1
    by_cases q : pE f g acc 0 0 = true
    · rw [if_pos q]; omega
    · rw [if_neg q]; omega
  | l + 1, acc, hl => by
    have i1 := even_le h l acc (by omega)
    have i2 := even_le h l (fun n => acc n + (e01 (f l) n + e01 (g l) n)) (by omega)
    have hl0 := h.2 l (by omega)
    have s : nS (pE f g acc (l + 1)) (2 ^ (l + 1)) = nS (pE f g acc l) (2 ^ l) + nS (pE f g (fun n => acc n + (e01 (f l) n + e01 (g l) n)) l) (2 ^ l) := by
      rw [nS_two]
      congr 1
      · refine nS_cong _ (fun D hD => ?_)
        unfold pE
        have e : ∀ n, dg f g D n (l + 1) = dg f g D n l := fun n => by
          show dg f g D n l + bt D l * (e01 (f l) n + e01 (g l) n) = _
          rw [bt_z hD, Nat.zero_mul, Nat.add_zero]
        simp only [e]
      · refine nS_cong _ (fun D hD => ?_)
        show pE f g acc (l + 1) (2 ^ l + D) = _
        unfold pE
        have e : ∀ n, acc n + dg f g (2 ^ l + D) n (l + 1) = acc n + (e01 (f l) n + e01 (g l) n) + dg f g D n l := fun n => by
          show acc n + (dg f g (2 ^ l + D) n l + bt (2 ^ l + D) l * (e01 (f l) n + e01 (g l) n)) = _
          rw [bt_top hD, dg_up l (Nat.le_refl _), Nat.one_mul]
          omega
        simp only [e]
    rw [s]
    show _ ≤ 2 ^ (kcl f g l + (if lab f g l (f l) = lab f g l (g l) then 1 else 0))
    by_cases q : lab f g l (f l) = lab f g l (g l)
    · rw [if_pos q, Nat.pow_succ]; omega
    · rw [if_neg q, Nat.add_zero]
      have not2 : ¬ (0 < nS (pE f g acc l) (2 ^ l) ∧ 0 < nS (pE f g (fun n => acc n + (e01 (f l) n + e01 (g l) n)) l) (2 ^ l)) := by
        rintro ⟨x, y⟩
        obtain ⟨D1, _, p1⟩ := nS_pos _ x
        obtain ⟨D2, _, p2⟩ := nS_pos _ y
        unfold pE at p1 p2
        rw [allB_iff] at p1 p2
        have p1 : ∀ n, n < 8 → (acc n + dg f g D1 n l) % 2 = 0 := fun n hn => of_decide_eq_true (p1 n hn)
        have p2 : ∀ n, n < 8 → (acc n + (e01 (f l) n + e01 (g l) n) + dg f g D2 n l) % 2 = 0 := fun n hn => of_decide_eq_true (p2 n hn)
        have cc : ∀ i, i < l → f i < 8 ∧ g i < 8 ∧ e01 (lab f g l (f l)) (lab f g l (f i)) = e01 (lab f g l (f l)) (lab f g l (g i)) := fun i hi => by
          have := h.2 i (by omega)
          exact ⟨this.1, this.2.1, by rw [lab_same l i hi]⟩
        have d1 := su_dg (f := f) (g := g) (c := fun n => e01 (lab f g l (f l)) (lab f g l n)) (D := D1) l cc
        have d2 := su_dg (f := f) (g := g) (c := fun n => e01 (lab f g l (f l)) (lab f g l n)) (D := D2) l cc
        have s1 := suC_even (c := fun n => e01 (lab f g l (f l)) (lab f g l n)) 8 p1
        have s2 := suC_even (c := fun n => e01 (lab f g l (f l)) (lab f g l n)) 8 p2
        rw [suC_add] at s1
        rw [suC_add, suC_add, suC_add, suC_e, suC_e, if_pos hl0.1, if_pos hl0.2.1, e01_s, e01_n q] at s2
        omega
      omega
end EV
/-! heaps of nodes -/
def cntL (x : Nat) : List Nat → Nat
  | [] => 0
  | y :: r => e01 y x + cntL x r
def uL (s : List Nat) : List Nat → Nat
  | [] => 0
  | x :: r => (if 2 ≤ cntL x s then 1 else 0) + uL s r
def dfsL : Nat → Nat → List Nat → List Nat → Nat → Bool
  | 0, _, s, rs, E => decide (rs.length < 4) || (decide (E + rs.length < 14) || decide (uL s s ≤ 5))
  | k + 1, i, s, rs, E => dfsL k (i + 1) (i :: s) (i :: rs) E && rs.all (fun x => dfsL k (i + 1) (x :: s) rs (E + cntL x s))
theorem dfs_all : dfsL 8 0 [] [] 0 = true := by decide +kernel
/-- links as pairs of nodes -/
def prN (a b : Nat) : Nat := 8 * max a b + min a b
def GsN (f g : Nat → Nat) : Nat → Nat
  | 0 => 0
  | l + 1 => GsN f g l ||| 2 ^ prN (f l) (g l)
def wpN (p : Nat) : Nat := 16 ^ (p / 8) + 16 ^ (p % 8)
def cL : List Nat → Nat → Nat
  | [], acc => if acc &&& mkS 8 = 0 then 1 else 0
  | w :: r, acc => cL r acc + cL r (acc + w)
def wl (G : Nat) : Nat → List Nat
  | 0 => []
  | p + 1 => if bt G p = 1 then wpN p :: wl G p else wl G p
def aS (S : Nat) : Nat → Nat
  | 0 => 0
  | p + 1 => if p % 8 < p / 8 ∧ bt S (p / 8) = 1 ∧ bt S (p % 8) = 1 then aS S p ||| 2 ^ p else aS S p
def k5B (S : Nat) : Bool := decide (5 < bcN S 8) || decide (cL (wl (aS S 64) 64) 0 ≤ 40)
