/-! Part ac: the lexer, pure. -/
/-- the text goes on with such signs from p on -/
def skG (c : Nat → Bool) (T : Nat → Nat) (n : Nat) : Nat → Nat → Nat
  | 0, p => p
  | k + 1, p => if p < n ∧ c (T p) = true then skG c T n k (p + 1) else p
def sk (c : Nat → Bool) (T : Nat → Nat) (n p : Nat) : Nat := skG c T n (n - p) p
theorem sk_step {c : Nat → Bool} {T : Nat → Nat} {n p : Nat} (hp : p < n) (hc : c (T p) = true) : sk c T n p = sk c T n (p + 1) := by
  unfold sk
  rw [show n - p = (n - (p + 1)) + 1 from by omega]
  show (if _ then _ else _) = _
  rw [if_pos ⟨hp, hc⟩]
theorem sk_stop {c : Nat → Bool} {T : Nat → Nat} {n p : Nat} (h : ¬ (p < n ∧ c (T p) = true)) : sk c T n p = p := by
  unfold sk
  cases e : n - p with
  | zero => rfl
  | succ k =>
    show (if _ then _ else _) = _
    rw [if_neg h]
theorem skG_spec {c : Nat → Bool} {T : Nat → Nat} {n : Nat} : ∀ k p, p + k = n → p ≤ skG c T n k p ∧ skG c T n k p ≤ n ∧ (∀ i, p ≤ i → i < skG c T n k p → c (T i) = true) ∧ ¬ (skG c T n k p < n ∧ c (T (skG c T n k p)) = true)
  | 0, p, h => ⟨Nat.le_refl _, by show p ≤ n; omega, fun i h1 h2 => absurd h2 (by show ¬ i < p; omega), fun z => by have : p < n := z.1; omega⟩
  | k + 1, p, h => by
    unfold skG
    by_cases q : p < n ∧ c (T p) = true
    · rw [if_pos q]
      obtain ⟨a, b, d, e⟩ := skG_spec (c := c) (T := T) (n := n) k (p + 1) (by omega)
      refine ⟨by omega, b, fun i h1 h2 => ?_, e⟩
      by_cases z : i = p
      · rw [z]; exact q.2
      · exact d i (by omega) h2
    · rw [if_neg q]
      exact ⟨Nat.le_refl _, by omega, fun i h1 h2 => absurd h2 (by omega), q⟩
theorem sk_spec {c : Nat → Bool} {T : Nat → Nat} {n p : Nat} (h : p ≤ n) : p ≤ sk c T n p ∧ sk c T n p ≤ n ∧ (∀ i, p ≤ i → i < sk c T n p → c (T i) = true) ∧ ¬ (sk c T n p < n ∧ c (T (sk c T n p)) = true) := skG_spec (n - p) p (by omega)
def isBl (x : Nat) : Bool := decide (x = 10 ∨ x = 32)
def isLe (x : Nat) : Bool := decide (97 ≤ x ∧ x ≤ 122)
def isDi (x : Nat) : Bool := decide (48 ≤ x ∧ x ≤ 57)
/-- the number of the first j signs from s on, three at most counting -/
def nuV (T : Nat → Nat) (s : Nat) : Nat → Nat
  | 0 => 0
  | j + 1 => if j < 3 then 10 * nuV T s j + (T (s + j) - 48) else nuV T s j
/-- the words, in the reference's order -/
def KL : List (List Nat) := [[110, 101, 116], [110, 111, 100, 101, 115], [114, 97, 116, 101], [108, 105, 110, 107], [108, 111, 110, 103], [119, 111, 114, 107], [99, 111, 115, 116, 115], [109, 97, 121], [105, 102], [116, 104, 101, 110], [101, 108, 115, 101], [101, 110, 100], [102, 114, 111, 109], [116, 111], [108, 105, 110, 107, 115], [99, 104, 111, 114, 100, 115], [97, 110, 100], [111, 114], [110, 111, 116]]
def mtW (T : Nat → Nat) : Nat → List Nat → Bool
  | _, [] => true
  | a, c :: w => decide (T a = c) && mtW T (a + 1) w
def kyF (T : Nat → Nat) (a b : Nat) : List (List Nat) → Nat → Nat
  | [], _ => 22
  | w :: ws, i => if b - a = w.length ∧ mtW T a w = true then i else kyF T a b ws (i + 1)
def keyK (T : Nat → Nat) (a b : Nat) : Nat := kyF T a b KL 0
/-- the signs -/
def SGL : List Nat := [59, 58, 43, 45, 42, 40, 41, 91, 93, 61, 60, 62]
def sgF (x : Nat) : List Nat → Nat → Nat
  | [], _ => 25
  | s :: ss, i => if x = s then 30 + i else sgF x ss (i + 1)
def sgK (x : Nat) : Nat := sgF x SGL 0
/-- a token: where it begins, what is behind it, its kind (as the reference has it), its number -/
abbrev TK : Type := Nat × Nat × Nat × Nat
def tkA (t : TK) : Nat := t.1
def tkB (t : TK) : Nat := t.2.1
def tkK (t : TK) : Nat := t.2.2.1
def tkV (t : TK) : Nat := t.2.2.2
def tkAt (T : Nat → Nat) (n a : Nat) : TK :=
  if ¬ a < n then (a, a, 24, 0)
  else if isLe (T a) = true then (a, sk isLe T n a, keyK T a (sk isLe T n a), 0)
  else if isDi (T a) = true then (a, sk isDi T n a, (if 3 < sk isDi T n a - a then 25 else 23), nuV T a (sk isDi T n a - a))
  else (a, a + 1, sgK (T a), 0)
def tkN (T : Nat → Nat) (n p : Nat) : TK := tkAt T n (sk isBl T n p)
theorem kyF_lt (T : Nat → Nat) (a b : Nat) : ∀ ws i, i + ws.length ≤ 22 → kyF T a b ws i ≤ 22
  | [], _, _ => Nat.le_refl _
  | w :: ws, i, h => by
    unfold kyF
    rw [List.length_cons] at h
    by_cases q : b - a = w.length ∧ mtW T a w = true
    · rw [if_pos q]; omega
    · rw [if_neg q]; exact kyF_lt T a b ws (i + 1) (by omega)
theorem keyK_lt (T : Nat → Nat) (a b : Nat) : keyK T a b ≤ 22 := kyF_lt T a b KL 0 (by decide)
theorem sgF_cases (x : Nat) : ∀ ss i, i + ss.length ≤ 12 → sgF x ss i = 25 ∨ (30 ≤ sgF x ss i ∧ sgF x ss i ≤ 41)
  | [], _, _ => Or.inl rfl
  | s :: ss, i, h => by
    unfold sgF
    rw [List.length_cons] at h
    by_cases q : x = s
    · rw [if_pos q]; exact Or.inr ⟨by omega, by omega⟩
    · rw [if_neg q]; exact sgF_cases x ss (i + 1) (by omega)
theorem sgK_cases (x : Nat) : sgK x = 25 ∨ (30 ≤ sgK x ∧ sgK x ≤ 41) := sgF_cases x SGL 0 (by decide)
theorem nuV_lt {T : Nat → Nat} {s : Nat} : ∀ j, (∀ i, i < j → isDi (T (s + i)) = true) → nuV T s j < 10 ^ (if j < 3 then j else 3)
  | 0, _ => by show 0 < 10 ^ 0; decide
  | j + 1, h => by
    have ih := nuV_lt j (fun i hi => h i (by omega))
    have d := of_decide_eq_true (h j (by omega))
    unfold nuV
    by_cases q : j < 3
    · rw [if_pos q] at ih ⊢
      generalize nuV T s j = x at ih ⊢
      generalize T (s + j) = y at d ⊢
      rcases (show j = 0 ∨ j = 1 ∨ j = 2 from by omega) with e | e | e <;> subst e <;> simp at ih ⊢ <;> omega
    · rw [if_neg q] at ih ⊢
      rw [if_neg (by omega)]
      exact ih
/-- what holds of every token at hand -/
theorem tkAt_ok {T : Nat → Nat} {n a : Nat} (ha : a ≤ n) : tkA (tkAt T n a) = a ∧ a ≤ tkB (tkAt T n a) ∧ tkB (tkAt T n a) ≤ n ∧ tkK (tkAt T n a) ≤ 41 ∧ tkV (tkAt T n a) < 1000 ∧ (tkK (tkAt T n a) = 24 ↔ a = n) ∧ (a < n → a < tkB (tkAt T n a)) := by
  unfold tkAt
  by_cases q : a < n
  · rw [if_neg (fun z => z q)]
    by_cases l : isLe (T a) = true
    · rw [if_pos l]
      have s := sk_spec (c := isLe) (T := T) ha
      have st := sk_step (c := isLe) q l
      have s2 := sk_spec (c := isLe) (T := T) (show a + 1 ≤ n by omega)
      have kk := keyK_lt T a (sk isLe T n a)
      refine ⟨rfl, s.1, s.2.1, by show keyK T a (sk isLe T n a) ≤ 41; omega, by show 0 < 1000; omega, ⟨fun z => ?_, fun z => by omega⟩, fun _ => by show a < sk isLe T n a; omega⟩
      have z : keyK T a (sk isLe T n a) = 24 := z
      omega
    · rw [if_neg l]
      by_cases d : isDi (T a) = true
      · rw [if_pos d]
        have s := sk_spec (c := isDi) (T := T) ha
        have st := sk_step (c := isDi) q d
        have s2 := sk_spec (c := isDi) (T := T) (show a + 1 ≤ n by omega)
        have v := nuV_lt (T := T) (s := a) (sk isDi T n a - a) (fun i hi => s.2.2.1 (a + i) (by omega) (by omega))
        have v2 : 10 ^ (if sk isDi T n a - a < 3 then sk isDi T n a - a else 3) ≤ 10 ^ 3 := Nat.pow_le_pow_right (by omega) (by
          by_cases y : sk isDi T n a - a < 3
          · rw [if_pos y]; omega
          · rw [if_neg y]; omega)
        refine ⟨rfl, s.1, s.2.1, ?_, by show nuV T a (sk isDi T n a - a) < 1000; omega, ⟨fun z => ?_, fun z => by omega⟩, fun _ => by show a < sk isDi T n a; omega⟩
        · show (if 3 < sk isDi T n a - a then 25 else 23) ≤ 41
          by_cases y : 3 < sk isDi T n a - a
          · rw [if_pos y]; omega
          · rw [if_neg y]; omega
        · have z : (if 3 < sk isDi T n a - a then 25 else 23) = 24 := z
          by_cases y : 3 < sk isDi T n a - a
          · rw [if_pos y] at z; omega
          · rw [if_neg y] at z; omega
      · rw [if_neg d]
        have g := sgK_cases (T a)
        refine ⟨rfl, by show a ≤ a + 1; omega, by show a + 1 ≤ n; omega, by show sgK (T a) ≤ 41; omega, by show 0 < 1000; omega, ⟨fun z => ?_, fun z => by omega⟩, fun _ => by show a < a + 1; omega⟩
        have z : sgK (T a) = 24 := z
        omega
  · rw [if_pos q]
    exact ⟨rfl, Nat.le_refl _, ha, by show 24 ≤ 41; omega, by show 0 < 1000; omega, ⟨fun _ => by omega, fun _ => rfl⟩, fun z => absurd z q⟩
theorem tkN_ok {T : Nat → Nat} {n p : Nat} (hp : p ≤ n) : p ≤ tkA (tkN T n p) ∧ tkA (tkN T n p) ≤ tkB (tkN T n p) ∧ tkB (tkN T n p) ≤ n ∧ tkK (tkN T n p) ≤ 41 ∧ tkV (tkN T n p) < 1000 ∧ (tkK (tkN T n p) = 24 ↔ tkA (tkN T n p) = n) ∧ (tkK (tkN T n p) ≠ 24 → tkA (tkN T n p) < tkB (tkN T n p)) := by
  have s := sk_spec (c := isBl) (T := T) hp
  have t := tkAt_ok (T := T) s.2.1
  unfold tkN
  rw [t.1]
  refine ⟨s.1, t.2.1, t.2.2.1, t.2.2.2.1, t.2.2.2.2.1, t.2.2.2.2.2.1, fun z => t.2.2.2.2.2.2 ?_⟩
  have : ¬ sk isBl T n p = n := fun y => z (t.2.2.2.2.2.1.mpr y)
  omega
