/-! Part az: rings: as the class finds them, as the reference does. -/
def allB (p : Nat → Bool) : Nat → Bool
  | 0 => true
  | n + 1 => p n && allB p n
theorem allB_ok {p : Nat → Bool} : ∀ n, allB p n = true → ∀ i, i < n → p i = true
  | 0, _, i, h => absurd h (by omega)
  | n + 1, h, i, hi => by
    have h : (p n && allB p n) = true := h
    rw [Bool.and_eq_true] at h
    by_cases q : i = n
    · rw [q]; exact h.1
    · exact allB_ok n h.2 i (by omega)
theorem allB_iff {p : Nat → Bool} : ∀ {n}, allB p n = true ↔ ∀ i, i < n → p i = true := by
  intro n
  refine ⟨allB_ok n, ?_⟩
  induction n with
  | zero => intro _; rfl
  | succ n ih =>
    intro h
    show (p n && allB p n) = true
    rw [Bool.and_eq_true]
    exact ⟨h n (by omega), ih (fun i hi => h i (by omega))⟩
def loL (X : Nat) : Nat → Nat → Option Nat
  | 0, _ => none
  | k + 1, i => if bt X i = 1 then some i else loL X k (i + 1)
theorem loL_some {X : Nat} : ∀ k i l, loL X k i = some l → i ≤ l ∧ l < i + k ∧ bt X l = 1
  | 0, _, _, h => absurd h (by unfold loL; simp)
  | k + 1, i, l, h => by
    unfold loL at h
    by_cases q : bt X i = 1
    · rw [if_pos q] at h
      injection h with h
      subst h
      exact ⟨Nat.le_refl _, by omega, q⟩
    · rw [if_neg q] at h
      have := loL_some k (i + 1) l h
      exact ⟨by omega, by omega, this.2.2⟩
theorem loL_none {X : Nat} : ∀ k i, loL X k i = none → ∀ j, i ≤ j → j < i + k → bt X j = 0
  | 0, _, _, j, a, b => by omega
  | k + 1, i, h, j, a, b => by
    unfold loL at h
    by_cases q : bt X i = 1
    · rw [if_pos q] at h; exact absurd h (by simp)
    · rw [if_neg q] at h
      by_cases z : j = i
      · have := bt01 X i; rw [z]; omega
      · exact loL_none k (i + 1) h j (by omega) (by omega)
theorem bcN_zero {X : Nat} : ∀ n, (∀ l, l < n → bt X l = 0) → bcN X n = 0
  | 0, _ => rfl
  | n + 1, h => by
    show bcN X n + bt X n = 0
    rw [bcN_zero n (fun l hl => h l (by omega)), h n (by omega)]
def rdN (f g : Nat → Nat) (L D : Nat) : Nat := match loL D L 0 with
  | none => 1
  | some l => (wk f g L (f l) L D (f l)).1
/-- whether links are a ring -/
def cyB (f g : Nat → Nat) (L D : Nat) : Bool := decide (3 ≤ bcN D 10) && (allB (fun n => decide (dg f g D n L = 0 ∨ dg f g D n L = 2)) 8 && decide (rdN f g L D = 0))
theorem cyB_def {f g : Nat → Nat} {L D : Nat} : cyB f g L D = true ↔ 3 ≤ bcN D 10 ∧ (∀ n, n < 8 → dg f g D n L = 0 ∨ dg f g D n L = 2) ∧ rdN f g L D = 0 := by
  unfold cyB
  rw [Bool.and_eq_true, Bool.and_eq_true, decide_eq_true_iff, decide_eq_true_iff, allB_iff]
  simp only [decide_eq_true_iff]
/-- links of a net: ends below 8, apart -/
def Lk (f g : Nat → Nat) (L : Nat) : Prop := L ≤ 10 ∧ ∀ l, l < L → f l < 8 ∧ g l < 8 ∧ f l ≠ g l
section CY
variable {f g : Nat → Nat} {L : Nat}
theorem dg_hi (h : Lk f g L) {D n : Nat} (hn : 8 ≤ n) : ∀ l, l ≤ L → dg f g D n l = 0
  | 0, _ => rfl
  | l + 1, hl => by
    show dg f g D n l + bt D l * (e01 (f l) n + e01 (g l) n) = 0
    have := h.2 l (by omega)
    rw [dg_hi h hn l (by omega), e01_n (by omega), e01_n (by omega), Nat.add_zero, Nat.mul_zero]
theorem two_iff (h : Lk f g L) {D : Nat} : (∀ n, n < 8 → dg f g D n L = 0 ∨ dg f g D n L = 2) ↔ TwoR f g L D := by
  constructor
  · intro q m
    by_cases z : m < 8
    · exact q m z
    · exact Or.inl (dg_hi h (by omega) L (Nat.le_refl _))
  · intro q n _
    exact q n
theorem wk_lt {y n : Nat} : ∀ k X s, X < 2 ^ n → (wk f g L y k X s).1 < 2 ^ n
  | 0, _, _, h => h
  | k + 1, X, s, h => by
    unfold wk
    cases e : lkF f g X s L 0 with
    | none => exact h
    | some l =>
      show (if f l + g l - s = y then (dfN X (2 ^ l), y) else wk f g L y k (dfN X (2 ^ l)) (f l + g l - s)).1 < 2 ^ n
      by_cases q : f l + g l - s = y
      · rw [if_pos q]; exact dfN_lt h
      · rw [if_neg q]; exact wk_lt k _ _ (dfN_lt h)
theorem bc_ex {D : Nat} (hD : D < 2 ^ L) (hb : 0 < bcN D 10) (hL : L ≤ 10) : ∃ l, loL D L 0 = some l ∧ l < L ∧ bt D l = 1 := by
  cases e : loL D L 0 with
  | none =>
    have z := bcN_zero (X := D) L (fun l hl => loL_none _ _ e l (by omega) (by omega))
    have := bcz_hi hD (10 - L)
    rw [show L + (10 - L) = 10 from by omega] at this
    omega
  | some l =>
    have := loL_some _ _ _ e
    exact ⟨l, rfl, by omega, this.2.2⟩
theorem cyB_iff (h : Lk f g L) {D : Nat} (hD : D < 2 ^ L) : cyB f g L D = true ↔ 3 ≤ bcN D 10 ∧ TwoR f g L D ∧ Cn f g L D := by
  rw [cyB_def, two_iff h]
  have key : 3 ≤ bcN D 10 → TwoR f g L D → (rdN f g L D = 0 ↔ Cn f g L D) := fun b t => by
    obtain ⟨l, e, a, c⟩ := bc_ex hD (by omega) h.1
    unfold rdN
    rw [e]
    show (wk f g L (f l) L D (f l)).1 = 0 ↔ _
    rw [← round_iff (fun l hl => (h.2 l hl).2.2) t a c]
    constructor
    · intro z j _
      rw [z, bt_zz]
    · intro z
      refine mask_ext (wk_lt L D (f l) hD) (Nat.two_pow_pos L) (fun c hc => ?_)
      rw [z c hc, bt_zz]
  constructor
  · rintro ⟨a, b, c⟩
    exact ⟨a, b, (key a b).mp c⟩
  · rintro ⟨a, b, c⟩
    exact ⟨a, b, (key a b).mpr c⟩
/-- nodes of links; nodes of two of them -/
def onS (f g : Nat → Nat) (D : Nat) : Nat → Nat
  | 0 => 0
  | l + 1 => if bt D l = 1 then onS f g D l ||| enS f g l else onS f g D l
def twS (f g : Nat → Nat) (D : Nat) : Nat → Nat
  | 0 => 0
  | l + 1 => if bt D l = 1 then twS f g D l ||| (onS f g D l &&& enS f g l) else twS f g D l
theorem bt_and (a b k : Nat) : bt (a &&& b) k = 1 ↔ bt a k = 1 ∧ bt b k = 1 := by
  rw [bt_tb, bt_tb, bt_tb, Nat.testBit_and, Bool.and_eq_true]
theorem bt_or1 (a b k : Nat) : bt (a ||| b) k = 1 ↔ bt a k = 1 ∨ bt b k = 1 := by
  rw [bt_tb, bt_tb, bt_tb, Nat.testBit_or, Bool.or_eq_true]
theorem bt_pw (a k : Nat) : bt (2 ^ a) k = 1 ↔ k = a := by
  rw [bt_pow]
  by_cases q : k = a
  · rw [if_pos q]; exact ⟨fun _ => q, fun _ => rfl⟩
  · rw [if_neg q]; exact ⟨fun z => absurd z (by omega), fun z => absurd z q⟩
theorem bt_en (l k : Nat) : bt (enS f g l) k = 1 ↔ k = f l ∨ k = g l := by
  unfold enS
  rw [bt_or1, bt_pw, bt_pw]
theorem e_en (hne : f L ≠ g L) (k : Nat) : e01 (f L) k + e01 (g L) k = bt (enS f g L) k := by
  have i := bt_en (f := f) (g := g) L k
  have b := bt01 (enS f g L) k
  by_cases q1 : f L = k
  · rw [q1, e01_s, e01_n (fun z => hne (q1.trans z.symm)), i.mpr (Or.inl q1.symm)]
  · by_cases q2 : g L = k
    · rw [q2, e01_s, e01_n q1, i.mpr (Or.inr q2.symm)]
    · rw [e01_n q1, e01_n q2]
      rcases b with b | b
      · exact b.symm
      · rcases i.mp b with z | z
        · exact absurd z.symm q1
        · exact absurd z.symm q2
theorem dg_s {D n l : Nat} (hne : f l ≠ g l) : dg f g D n (l + 1) = dg f g D n l + bt D l * bt (enS f g l) n := by
  show dg f g D n l + bt D l * (e01 (f l) n + e01 (g l) n) = _
  rw [e_en hne]
theorem bt_on (h : Lk f g L) {D n : Nat} : ∀ l, l ≤ L → (bt (onS f g D l) n = 1 ↔ 1 ≤ dg f g D n l)
  | 0, _ => by
    show bt 0 n = 1 ↔ 1 ≤ 0
    rw [bt_zz]
    omega
  | l + 1, hl => by
    have ih := bt_on h (D := D) (n := n) l (by omega)
    rw [dg_s (h.2 l (by omega)).2.2]
    unfold onS
    have b2 := bt01 (enS f g l) n
    rcases bt01 D l with b | b
    · rw [if_neg (by omega), b, Nat.zero_mul, ih]; omega
    · rw [if_pos b, bt_or1, ih, b, Nat.one_mul]; omega
theorem bt_tw (h : Lk f g L) {D n : Nat} : ∀ l, l ≤ L → (bt (twS f g D l) n = 1 ↔ 2 ≤ dg f g D n l)
  | 0, _ => by
    show bt 0 n = 1 ↔ 2 ≤ 0
    rw [bt_zz]
    omega
  | l + 1, hl => by
    have ih := bt_tw h (D := D) (n := n) l (by omega)
    have io := bt_on h (D := D) (n := n) l (by omega)
    rw [dg_s (h.2 l (by omega)).2.2]
    unfold twS
    have b2 := bt01 (enS f g l) n
    rcases bt01 D l with b | b
    · rw [if_neg (by omega), b, Nat.zero_mul, ih]; omega
    · rw [if_pos b, bt_or1, bt_and, ih, io, b, Nat.one_mul]; omega
theorem onS_lt (h : Lk f g L) {D : Nat} : ∀ l, l ≤ L → onS f g D l < 256
  | 0, _ => by show 0 < 256; omega
  | l + 1, hl => by
    have ih := onS_lt h (D := D) l (by omega)
    have e := h.2 l (by omega)
    unfold onS
    rcases bt01 D l with b | b
    · rw [if_neg (by omega)]; exact ih
    · rw [if_pos b]; exact Nat.or_lt_two_pow (n := 8) ih (enS_lt e.1 e.2.1)
theorem twS_lt (h : Lk f g L) {D : Nat} : ∀ l, l ≤ L → twS f g D l < 256
  | 0, _ => by show 0 < 256; omega
  | l + 1, hl => by
    have ih := twS_lt h (D := D) l (by omega)
    have io := onS_lt h (D := D) l (by omega)
    unfold twS
    rcases bt01 D l with b | b
    · rw [if_neg (by omega)]; exact ih
    · rw [if_pos b]; exact Nat.or_lt_two_pow (n := 8) ih (Nat.lt_of_le_of_lt Nat.and_le_left io)
theorem and_nz {a b : Nat} (ha : a < 256) : (a &&& b ≠ 0) ↔ ∃ k, bt a k = 1 ∧ bt b k = 1 := by
  constructor
  · intro z
    by_cases q : ∃ k, bt a k = 1 ∧ bt b k = 1
    · exact q
    · exfalso
      apply z
      have l : a &&& b < 2 ^ 8 := Nat.lt_of_le_of_lt Nat.and_le_left ha
      refine mask_ext l (by decide) (fun c _ => ?_)
      rw [bt_and, bt_zz]
      exact ⟨fun y => absurd ⟨c, y⟩ q, fun y => absurd y (by omega)⟩
  · rintro ⟨k, x, y⟩ z
    have := (bt_and a b k).mpr ⟨x, y⟩
    rw [z, bt_zz] at this
    omega
/-! closures -/
def v00 (f g : Nat → Nat) (L : Nat) : NV := ((8, L, 0, 0), (f, g, fun _ => 1, fun _ => 0), (fun _ => 0, fun _ => 0, fun _ => 0), fun _ _ _ => 0, fun _ _ => 1, fun _ => 0)
theorem v00_ok (h : Lk f g L) : NvOK (v00 f g L) := by
  refine ⟨⟨by show 1 ≤ 8; omega, by show 8 ≤ 8; omega, h.1, by show 0 ≤ 1000; omega, by show 0 ≤ 40; omega⟩, fun l hl => ?_, fun c hc => absurd hc (by show ¬ c < 0; omega), fun c d _ hd => absurd hd (by show ¬ d < 0; omega), fun c l hc _ => absurd hc (by show ¬ c < 0; omega), fun r l _ _ => ⟨by show 1 ≤ 1; omega, by show 1 ≤ 99; omega⟩, fun r _ => by show 0 < 2 ^ 0; decide⟩
  have := h.2 l hl
  exact ⟨this.1, this.2.1, this.2.2, by show 1 ≤ 9; omega, by show 0 ≤ 2; omega⟩
theorem com_st {v : NV} (hv : NvOK v) {w x : Nat} (hx : x < 2 ^ nvK v) : comR v w (comN v w x 10) = comN v w x 10 := by
  have st : ∀ j, comR v w (comN v w x j) = comN v w x j ∨ j ≤ bcN (comN v w x j) 8 := by
    intro j
    induction j with
    | zero => right; omega
    | succ j ih =>
      rcases ih with e | e
      · left
        show comR v w (comR v w (comN v w x j)) = comR v w (comN v w x j)
        rw [e, e]
      · rcases comR_or hv (w := w) (comN_lt hv (w := w) hx j) with q | q
        · left
          show comR v w (comR v w (comN v w x j)) = comR v w (comN v w x j)
          rw [q, q]
        · right
          show j + 1 ≤ bcN (comR v w (comN v w x j)) 8
          omega
  rcases st 9 with e | e
  · show comR v w (comR v w (comN v w x 9)) = comR v w (comN v w x 9)
    rw [e, e]
  · have := bcN_le (comN v w x 9) 8
    omega
theorem comL_upp (v : NV) (w x k : Nat) : ∀ j l, bt (comL v w x l) k = 1 → bt (comL v w x (l + j)) k = 1
  | 0, _, h => h
  | j + 1, l, h => by
    have ih := comL_upp v w x k j l h
    show bt (if bt w (l + j) = 0 ∧ comL v w x (l + j) &&& enS (nvF v) (nvT v) (l + j) ≠ 0 then comL v w x (l + j) ||| enS (nvF v) (nvT v) (l + j) else comL v w x (l + j)) k = 1
    by_cases q : bt w (l + j) = 0 ∧ comL v w x (l + j) &&& enS (nvF v) (nvT v) (l + j) ≠ 0
    · rw [if_pos q, bt_or1]; exact Or.inl ih
    · rw [if_neg q]; exact ih
theorem com_cl {v : NV} (hv : NvOK v) {w S l : Nat} (hS : S < 2 ^ nvK v) (e : comR v w S = S) (hl : l < nvL v) (hw : bt w l = 0) (hs : bt S (nvF v l) = 1 ∨ bt S (nvT v l) = 1) : bt S (nvF v l) = 1 ∧ bt S (nvT v l) = 1 := by
  have lt := ltK_256 hv (comL_lt hv (w := w) hS l (by omega))
  have c : comL v w S l &&& enS (nvF v) (nvT v) l ≠ 0 := (and_nz lt).mpr (by
    rcases hs with z | z
    · exact ⟨_, comL_ge v w S l _ z, (bt_en (f := nvF v) (g := nvT v) l _).mpr (Or.inl rfl)⟩
    · exact ⟨_, comL_ge v w S l _ z, (bt_en (f := nvF v) (g := nvT v) l _).mpr (Or.inr rfl)⟩)
  have e1 : comL v w S (l + 1) = comL v w S l ||| enS (nvF v) (nvT v) l := by
    show (if bt w l = 0 ∧ comL v w S l &&& enS (nvF v) (nvT v) l ≠ 0 then comL v w S l ||| enS (nvF v) (nvT v) l else comL v w S l) = _
    rw [if_pos ⟨hw, c⟩]
  have up : ∀ k, bt (comL v w S (l + 1)) k = 1 → bt S k = 1 := fun k z => by
    have := comL_upp v w S k (nvL v - (l + 1)) (l + 1) z
    rw [show l + 1 + (nvL v - (l + 1)) = nvL v from by omega] at this
    have e2 : comL v w S (nvL v) = S := e
    rw [e2] at this
    exact this
  exact ⟨up _ (by rw [e1, bt_or1, bt_en]; exact Or.inr (Or.inl rfl)), up _ (by rw [e1, bt_or1, bt_en]; exact Or.inr (Or.inr rfl))⟩
theorem comL_N {v : NV} {w x : Nat} {N : Nat → Prop} (hv : NvOK v) (hx : x < 2 ^ nvK v) (cl : ∀ l, l < nvL v → bt w l = 0 → (N (nvF v l) ↔ N (nvT v l))) (h0 : ∀ k, bt x k = 1 → N k) : ∀ l, l ≤ nvL v → ∀ k, bt (comL v w x l) k = 1 → N k
  | 0, _, k, h => h0 k h
  | l + 1, hl, k, h => by
    have ih := comL_N hv hx cl h0 l (by omega)
    have h : bt (if bt w l = 0 ∧ comL v w x l &&& enS (nvF v) (nvT v) l ≠ 0 then comL v w x l ||| enS (nvF v) (nvT v) l else comL v w x l) k = 1 := h
    by_cases q : bt w l = 0 ∧ comL v w x l &&& enS (nvF v) (nvT v) l ≠ 0
    · rw [if_pos q, bt_or1, bt_en] at h
      obtain ⟨j, a, b⟩ := (and_nz (ltK_256 hv (comL_lt hv (w := w) hx l (by omega)))).mp q.2
      have nj := ih j a
      have c := cl l (by omega) q.1
      rw [bt_en] at b
      have both : N (nvF v l) ∧ N (nvT v l) := by
        rcases b with b | b
        · rw [b] at nj; exact ⟨nj, c.mp nj⟩
        · rw [b] at nj; exact ⟨c.mpr nj, nj⟩
      rcases h with h | h | h
      · exact ih k h
      · rw [h]; exact both.1
      · rw [h]; exact both.2
    · rw [if_neg q] at h
      exact ih k h
theorem comN_N {v : NV} {w x : Nat} {N : Nat → Prop} (hv : NvOK v) (hx : x < 2 ^ nvK v) (cl : ∀ l, l < nvL v → bt w l = 0 → (N (nvF v l) ↔ N (nvT v l))) (h0 : ∀ k, bt x k = 1 → N k) : ∀ j k, bt (comN v w x j) k = 1 → N k
  | 0, k, h => h0 k h
  | j + 1, k, h => comL_N hv (comN_lt hv hx j) cl (comN_N hv hx cl h0 j) _ (Nat.le_refl _) k h
def cwN (D : Nat) : Nat := dfN 1023 D
theorem bt_cw {D l : Nat} (hl : l < 10) : bt (cwN D) l = 0 ↔ bt D l = 1 := by
  have t : bt 1023 l = 1 := by
    have : ∀ l, l < 10 → bt 1023 l = 1 := by decide
    exact this l hl
  have e : bt (cwN D) l = 1 ↔ ¬ bt D l = 1 := by
    unfold cwN dfN
    rw [bt_tb, bt_tb, Nat.testBit_xor, Nat.testBit_and, (bt_tb _ _).mp t]
    cases D.testBit l <;> simp
  have := bt01 (cwN D) l
  have := bt01 D l
  omega
/-- as the reference says it -/
theorem cl_iff (h : Lk f g L) {D l0 : Nat} (hl : l0 < L) (hb : bt D l0 = 1) : comN (v00 f g L) (cwN D) (enS f g l0) 10 = onS f g D L ↔ Cn f g L D := by
  have hv := v00_ok h
  have e0 := h.2 l0 hl
  have hx : enS f g l0 < 2 ^ nvK (v00 f g L) := enS_lt e0.1 e0.2.1
  have w0 : ∀ l, l < L → (bt (cwN D) l = 0 ↔ bt D l = 1) := fun l hl => bt_cw (by have := h.1; omega)
  have dgf : ∀ l, l < L → bt D l = 1 → bt (onS f g D L) (f l) = 1 ∧ bt (onS f g D L) (g l) = 1 := fun l hl hd => by
    rw [bt_on h L (Nat.le_refl _), bt_on h L (Nat.le_refl _)]
    have a1 := dg_ge (f := f) (g := g) (n := f l) hd L hl
    have a2 := dg_ge (f := f) (g := g) (n := g l) hd L hl
    rw [e01_s] at a1 a2
    omega
  have mn : ∀ N : Nat → Prop, ClN f g L D N → N (f l0) → ∀ k, bt (comN (v00 f g L) (cwN D) (enS f g l0) 10) k = 1 → N k := fun N cl n0 => comN_N hv hx (fun l hl hw => cl l hl ((w0 l hl).mp hw)) (fun k z => by
    rcases (bt_en l0 k).mp z with z | z
    · rw [z]; exact n0
    · rw [z]; exact (cl l0 hl hb).mp n0) 10
  constructor
  · intro e N cl ⟨l1, a, b, c⟩ l hl2 hd
    rw [e] at mn
    by_cases q : N (f l0)
    · exact mn N cl q _ (dgf l hl2 hd).1
    · exact absurd c (mn (fun m => ¬ N m) (fun j hj hjd => not_congr (cl j hj hjd)) q _ (dgf l1 a b).1)
  · intro hc
    have l1 : comN (v00 f g L) (cwN D) (enS f g l0) 10 < 2 ^ 8 := comN_lt hv hx 10
    refine mask_ext l1 (onS_lt h L (Nat.le_refl _)) (fun c hc8 => ⟨fun z => ?_, fun z => ?_⟩)
    · exact mn (fun m => bt (onS f g D L) m = 1) (fun j hj hjd => ⟨fun _ => (dgf j hj hjd).2, fun _ => (dgf j hj hjd).1⟩) (dgf l0 hl hb).1 c z
    · have st := com_st hv (w := cwN D) hx
      have cl : ClN f g L D (fun m => bt (comN (v00 f g L) (cwN D) (enS f g l0) 10) m = 1) := fun j hj hjd => ⟨fun y => (com_cl hv l1 st hj ((w0 j hj).mpr hjd) (Or.inl y)).2, fun y => (com_cl hv l1 st hj ((w0 j hj).mpr hjd) (Or.inr y)).1⟩
      have n0 : bt (comN (v00 f g L) (cwN D) (enS f g l0) 10) (f l0) = 1 := by
        have ge : ∀ j, bt (comN (v00 f g L) (cwN D) (enS f g l0) j) (f l0) = 1 := by
          intro j
          induction j with
          | zero => exact (bt_en l0 _).mpr (Or.inl rfl)
          | succ j ih => exact comL_ge _ _ _ _ _ ih
        exact ge 10
      rw [bt_on h L (Nat.le_refl _)] at z
      obtain ⟨j, a, b, y⟩ := dg_ex L z
      have fj := hc _ cl ⟨l0, hl, hb, n0⟩ j a b
      rcases y with y | y
      · rw [← y]; exact fj
      · rw [← y]; exact (cl j a b).mp fj
end CY
