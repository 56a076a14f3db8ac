/-! Part ay: degrees and walks, pure. -/
def e01 (a n : Nat) : Nat := if a = n then 1 else 0
theorem e01_s (a : Nat) : e01 a a = 1 := by unfold e01; rw [if_pos rfl]
theorem e01_n {a n : Nat} (h : a ≠ n) : e01 a n = 0 := by unfold e01; rw [if_neg h]
theorem e01_lt (a n : Nat) : e01 a n < 2 := by
  unfold e01
  by_cases q : a = n
  · rw [if_pos q]; omega
  · rw [if_neg q]; omega
/-- how many of the first links, of some, end at a node -/
def dg (f g : Nat → Nat) (X n : Nat) : Nat → Nat
  | 0 => 0
  | l + 1 => dg f g X n l + bt X l * (e01 (f l) n + e01 (g l) n)
theorem bt_df (s l k : Nat) : bt (dfN s (2 ^ l)) k = if k = l then 0 else bt s k := bt_del s l k
section DG
variable {f g : Nat → Nat}
theorem dg_ge {X n l : Nat} (hb : bt X l = 1) : ∀ L, l < L → e01 (f l) n + e01 (g l) n ≤ dg f g X n L
  | 0, h => absurd h (by omega)
  | L + 1, h => by
    show _ ≤ dg f g X n L + bt X L * (e01 (f L) n + e01 (g L) n)
    by_cases q : l = L
    · subst q; rw [hb, Nat.one_mul]; omega
    · have := dg_ge (n := n) hb L (by omega); omega
theorem dg_ex {X n : Nat} : ∀ L, 0 < dg f g X n L → ∃ l, l < L ∧ bt X l = 1 ∧ (f l = n ∨ g l = n)
  | 0, h => absurd h (by show ¬ 0 < 0; omega)
  | L + 1, h => by
    have h : 0 < dg f g X n L + bt X L * (e01 (f L) n + e01 (g L) n) := h
    by_cases q : 0 < dg f g X n L
    · obtain ⟨l, h1, h2⟩ := dg_ex L q
      exact ⟨l, by omega, h2⟩
    · rcases bt01 X L with b | b
      · rw [b, Nat.zero_mul] at h; omega
      · refine ⟨L, by omega, b, ?_⟩
        by_cases q1 : f L = n
        · exact Or.inl q1
        · by_cases q2 : g L = n
          · exact Or.inr q2
          · rw [e01_n q1, e01_n q2, Nat.add_zero, Nat.mul_zero] at h; omega
theorem dg_del {X n l : Nat} (hb : bt X l = 1) : ∀ L, dg f g X n L = dg f g (dfN X (2 ^ l)) n L + (if l < L then e01 (f l) n + e01 (g l) n else 0)
  | 0 => by rw [if_neg (by omega)]; rfl
  | L + 1 => by
    show dg f g X n L + bt X L * (e01 (f L) n + e01 (g L) n) = dg f g (dfN X (2 ^ l)) n L + bt (dfN X (2 ^ l)) L * (e01 (f L) n + e01 (g L) n) + _
    rw [dg_del hb L, bt_df]
    by_cases q : L = l
    · subst q
      rw [if_neg (by omega), if_pos rfl, if_pos (by omega), hb, Nat.one_mul, Nat.zero_mul]
    · rw [if_neg q]
      by_cases q2 : l < L
      · rw [if_pos q2, if_pos (by omega)]; omega
      · rw [if_neg q2, if_neg (by omega), Nat.add_zero, Nat.add_zero]
theorem dg_sub {X D n : Nat} : ∀ L, (∀ l, l < L → bt X l = 1 → bt D l = 1) → dg f g X n L ≤ dg f g D n L
  | 0, _ => Nat.le_refl _
  | L + 1, h => by
    have ih := dg_sub (n := n) L (fun l hl => h l (by omega))
    show dg f g X n L + bt X L * (e01 (f L) n + e01 (g L) n) ≤ dg f g D n L + bt D L * (e01 (f L) n + e01 (g L) n)
    rcases bt01 X L with b | b
    · rw [b, Nat.zero_mul]; omega
    · rw [b, h L (by omega) b]; omega
theorem dg_slt {X D n l : Nat} (hd : bt D l = 1) (hx : bt X l = 0) (hn : f l = n ∨ g l = n) : ∀ L, l < L → (∀ l, l < L → bt X l = 1 → bt D l = 1) → dg f g X n L < dg f g D n L
  | 0, h, _ => absurd h (by omega)
  | L + 1, hl, h => by
    show dg f g X n L + bt X L * (e01 (f L) n + e01 (g L) n) < dg f g D n L + bt D L * (e01 (f L) n + e01 (g L) n)
    by_cases q : l = L
    · subst q
      have ih := dg_sub (f := f) (g := g) (n := n) l (fun j hj => h j (by omega))
      rw [hx, hd, Nat.zero_mul, Nat.one_mul]
      rcases hn with e | e
      · rw [e, e01_s]; omega
      · rw [e, e01_s]; omega
    · have ih := dg_slt hd hx hn L (by omega) (fun j hj => h j (by omega))
      rcases bt01 X L with b | b
      · rw [b, Nat.zero_mul]; omega
      · rw [b, h L (by omega) b]; omega
/-- the first link of some at a node -/
def lkF (f g : Nat → Nat) (X n : Nat) : Nat → Nat → Option Nat
  | 0, _ => none
  | k + 1, i => if bt X i = 1 ∧ (f i = n ∨ g i = n) then some i else lkF f g X n k (i + 1)
theorem lkF_some {X n : Nat} : ∀ k i l, lkF f g X n k i = some l → i ≤ l ∧ l < i + k ∧ bt X l = 1 ∧ (f l = n ∨ g l = n) ∧ ∀ j, i ≤ j → j < l → ¬ (bt X j = 1 ∧ (f j = n ∨ g j = n))
  | 0, _, _, h => absurd h (by unfold lkF; simp)
  | k + 1, i, l, h => by
    unfold lkF at h
    by_cases q : bt X i = 1 ∧ (f i = n ∨ g i = n)
    · rw [if_pos q] at h
      injection h with h
      subst h
      exact ⟨Nat.le_refl _, by omega, q.1, q.2, fun j a b => by omega⟩
    · rw [if_neg q] at h
      obtain ⟨a, b, c, d, e⟩ := lkF_some k (i + 1) l h
      refine ⟨by omega, by omega, c, d, fun j x y => ?_⟩
      by_cases z : j = i
      · rw [z]; exact q
      · exact e j (by omega) y
theorem lkF_none {X n : Nat} : ∀ k i, lkF f g X n k i = none → ∀ j, i ≤ j → j < i + k → ¬ (bt X j = 1 ∧ (f j = n ∨ g j = n))
  | 0, _, _, j, a, b => by omega
  | k + 1, i, h, j, a, b => by
    unfold lkF at h
    by_cases q : bt X i = 1 ∧ (f i = n ∨ g i = n)
    · rw [if_pos q] at h; exact absurd h (by simp)
    · rw [if_neg q] at h
      by_cases z : j = i
      · rw [z]; exact q
      · exact lkF_none k (i + 1) h j (by omega) (by omega)
/-- a walk to y by links of X, no link twice: what is left, where it ends -/
def wk (f g : Nat → Nat) (L y : Nat) : Nat → Nat → Nat → Nat × Nat
  | 0, X, n => (X, n)
  | k + 1, X, n => match lkF f g X n L 0 with
    | none => (X, n)
    | some l => if f l + g l - n = y then (dfN X (2 ^ l), y) else wk f g L y k (dfN X (2 ^ l)) (f l + g l - n)
def TwoR (f g : Nat → Nat) (L D : Nat) : Prop := ∀ m, dg f g D m L = 0 ∨ dg f g D m L = 2
def ClN (f g : Nat → Nat) (L D : Nat) (N : Nat → Prop) : Prop := ∀ l, l < L → bt D l = 1 → (N (f l) ↔ N (g l))
def Cn (f g : Nat → Nat) (L D : Nat) : Prop := ∀ N : Nat → Prop, ClN f g L D N → (∃ l, l < L ∧ bt D l = 1 ∧ N (f l)) → ∀ l, l < L → bt D l = 1 → N (f l)
def WI (f g : Nat → Nat) (L D s X n : Nat) : Prop := (∀ l, bt X l = 1 → bt D l = 1) ∧ (∀ m, dg f g X m L + e01 s m + e01 n m = 0 ∨ dg f g X m L + e01 s m + e01 n m = 2) ∧ ∀ N : Nat → Prop, ClN f g L D N → (N n ↔ N s) ∧ ∀ l, l < L → bt D l = 1 → bt X l = 0 → (N (f l) ↔ N s)
theorem bcN_df {X l : Nat} (hb : bt X l = 1) : ∀ L, l < L → bcN (dfN X (2 ^ l)) L + 1 = bcN X L
  | 0, h => absurd h (by omega)
  | L + 1, h => by
    show bcN (dfN X (2 ^ l)) L + bt (dfN X (2 ^ l)) L + 1 = bcN X L + bt X L
    rw [bt_df]
    by_cases q : L = l
    · subst q
      rw [if_pos rfl, hb]
      have := bcN_cong (a := dfN X (2 ^ L)) (b := X) L (fun j hj => by rw [bt_df, if_neg (by omega)])
      omega
    · rw [if_neg q]
      have := bcN_df hb L (by omega)
      omega
/-- one step on -/
theorem wk_step {L D s X n l : Nat} (hne : ∀ l, l < L → f l ≠ g l) (hl : l < L) (hb : bt X l = 1) (he : f l = n ∨ g l = n) (sub : ∀ l, bt X l = 1 → bt D l = 1) (wn : ∀ N : Nat → Prop, ClN f g L D N → (N n ↔ N s) ∧ ∀ l, l < L → bt D l = 1 → bt X l = 0 → (N (f l) ↔ N s)) (hi : ∀ m, m ≠ f l → m ≠ g l → dg f g X m L + e01 s m = 0 ∨ dg f g X m L + e01 s m = 2) (h1 : dg f g X n L - 1 + e01 s n = 0 ∨ dg f g X n L - 1 + e01 s n = 2) (h2 : dg f g X (f l + g l - n) L + e01 s (f l + g l - n) = 2) : WI f g L D s (dfN X (2 ^ l)) (f l + g l - n) ∧ f l + g l - n ≠ n ∧ ∀ m, m ≠ n → m ≠ f l + g l - n → dg f g (dfN X (2 ^ l)) m L = dg f g X m L := by
  have ne := hne l hl
  have hn : f l + g l - n ≠ n := by omega
  have hcase : (n = f l ∧ f l + g l - n = g l) ∨ (n = g l ∧ f l + g l - n = f l) := by omega
  have sum : ∀ m, e01 (f l) m + e01 (g l) m = e01 n m + e01 (f l + g l - n) m := fun m => by
    rcases hcase with ⟨a, b⟩ | ⟨a, b⟩
    · rw [b, ← a]
    · rw [b, ← a]; omega
  have del : ∀ m, dg f g X m L = dg f g (dfN X (2 ^ l)) m L + (e01 n m + e01 (f l + g l - n) m) := fun m => by
    have := dg_del (f := f) (g := g) (n := m) hb L
    rw [if_pos hl, sum m] at this
    exact this
  refine ⟨⟨fun i z => ?_, fun m => ?_, fun N cl => ?_⟩, hn, fun m m1 m2 => ?_⟩
  · rw [bt_df] at z
    by_cases q : i = l
    · rw [if_pos q] at z; omega
    · rw [if_neg q] at z; exact sub i z
  · have d := del m
    by_cases q : m = n
    · subst q
      rw [e01_s, e01_n hn] at d
      rw [e01_n hn]
      omega
    · by_cases q2 : m = f l + g l - n
      · have d2 := del (f l + g l - n)
        rw [e01_s, e01_n (fun z => hn z.symm)] at d2
        rw [q2, e01_s]
        omega
      · rw [e01_n (fun z => q z.symm), e01_n (fun z => q2 z.symm)] at d
        rw [e01_n (fun z => q2 z.symm)]
        have := hi m (by omega) (by omega)
        omega
  · obtain ⟨a, b⟩ := wn N cl
    have c := cl l hl (sub l hb)
    have key : N (f l + g l - n) ↔ N s := by
      rcases hcase with ⟨x, y⟩ | ⟨x, y⟩
      · rw [y, ← c, ← x]; exact a
      · rw [y, c, ← x]; exact a
    refine ⟨key, fun i hi2 hd z => ?_⟩
    rw [bt_df] at z
    by_cases q : i = l
    · subst q
      rcases hcase with ⟨x, y⟩ | ⟨x, y⟩
      · rw [← x]; exact a
      · rw [c, ← x]; exact a
    · rw [if_neg q] at z; exact b i hi2 hd z
  · have d := del m
    rw [e01_n (fun z => m1 z.symm), e01_n (fun z => m2 z.symm)] at d
    omega
theorem wk_none {L y X n : Nat} (h : dg f g X n L = 0) : ∀ k, wk f g L y k X n = (X, n)
  | 0 => rfl
  | k + 1 => by
    unfold wk
    cases e : lkF f g X n L 0 with
    | none => rfl
    | some l =>
      obtain ⟨_, a, b, c, _⟩ := lkF_some _ _ _ e
      have := dg_ge (f := f) (g := g) (n := n) b L (by omega)
      exfalso
      rcases c with c | c
      · rw [c, e01_s] at this; omega
      · rw [c, e01_s] at this; omega
theorem lkF_at {L X n : Nat} (h : 0 < dg f g X n L) : ∃ l, lkF f g X n L 0 = some l ∧ l < L ∧ bt X l = 1 ∧ (f l = n ∨ g l = n) := by
  cases e : lkF f g X n L 0 with
  | none =>
    obtain ⟨l, a, b, c⟩ := dg_ex L h
    exact absurd ⟨b, c⟩ (lkF_none _ _ e l (by omega) (by omega))
  | some l =>
    obtain ⟨_, a, b, c, _⟩ := lkF_some _ _ _ e
    exact ⟨l, rfl, by omega, b, c⟩
theorem bcN_pos {X l : Nat} (hb : bt X l = 1) {L : Nat} (h : l < L) : 0 < bcN X L := by
  have := bcN_df hb L h
  omega
def WEnd (f g : Nat → Nat) (L D s y : Nat) (r : Nat × Nat) : Prop := (r.2 = y ∧ WI f g L D s r.1 y) ∨ (y ≠ s ∧ r.2 = s ∧ WI f g L D s r.1 s ∧ dg f g r.1 y L = 2)
theorem wk_go {L D s y : Nat} (hne : ∀ l, l < L → f l ≠ g l) : ∀ k X n, WI f g L D s X n → n ≠ s → n ≠ y → bcN X L ≤ k → (y ≠ s → dg f g X y L = 2) → WEnd f g L D s y (wk f g L y k X n) := by
  intro k
  induction k with
  | zero =>
    intro X n w ns ny hk hy
    have d := w.2.1 n
    rw [e01_s, e01_n (fun z => ns z.symm)] at d
    obtain ⟨l, a, b, c⟩ := dg_ex L (show 0 < dg f g X n L by omega)
    have := bcN_pos b a
    omega
  | succ k ih =>
    intro X n w ns ny hk hy
    obtain ⟨w1, w2, w3⟩ := w
    have d := w2 n
    rw [e01_s, e01_n (fun z => ns z.symm)] at d
    obtain ⟨l, el, a, b, c⟩ := lkF_at (f := f) (g := g) (L := L) (X := X) (n := n) (by omega)
    have ne := hne l a
    have gl := dg_ge (f := f) (g := g) (n := f l + g l - n) b L a
    have sgl : 1 ≤ e01 (f l) (f l + g l - n) + e01 (g l) (f l + g l - n) := by
      rcases c with c | c
      · have : f l + g l - n = g l := by omega
        rw [this, e01_s (g l)]; omega
      · have : f l + g l - n = f l := by omega
        rw [this, e01_s (f l)]; omega
    have st := wk_step (D := D) (s := s) hne a b c w1 w3 (fun m m1 m2 => by
      have q := w2 m
      rw [e01_n (show n ≠ m by omega)] at q
      exact q) (by rw [e01_n (fun z => ns z.symm)]; omega) (by
      have q := w2 (f l + g l - n)
      rw [e01_n (show n ≠ f l + g l - n by omega)] at q
      omega)
    have bc := bcN_df b L a
    unfold wk
    rw [el]
    show WEnd f g L D s y (if f l + g l - n = y then (dfN X (2 ^ l), y) else wk f g L y k (dfN X (2 ^ l)) (f l + g l - n))
    by_cases q : f l + g l - n = y
    · rw [if_pos q]
      exact Or.inl ⟨rfl, by have := st.1; rw [q] at this; exact this⟩
    · rw [if_neg q]
      have hy2 : y ≠ s → dg f g (dfN X (2 ^ l)) y L = 2 := fun z => (st.2.2 y (fun e => ny e.symm) (fun e => q e.symm)).trans (hy z)
      by_cases q2 : f l + g l - n = s
      · have wi := st.1
        rw [q2] at wi ⊢
        have ds := wi.2.1 s
        rw [e01_s] at ds
        rw [wk_none (by omega)]
        have ys : y ≠ s := fun z => q (q2.trans z.symm)
        exact Or.inr ⟨ys, rfl, wi, hy2 ys⟩
      · exact ih _ _ st.1 q2 q (by omega) hy2
theorem wk_all {L D s y : Nat} (hne : ∀ l, l < L → f l ≠ g l) (h2 : TwoR f g L D) (hs : 0 < dg f g D s L) (hy : y ≠ s → dg f g D y L = 2) : WEnd f g L D s y (wk f g L y L D s) := by
  obtain ⟨l, el, a, b, c⟩ := lkF_at (f := f) (g := g) (L := L) (X := D) (n := s) hs
  have ne := hne l a
  have ds := h2 s
  have gl := dg_ge (f := f) (g := g) (n := f l + g l - s) b L a
  have sgl : 1 ≤ e01 (f l) (f l + g l - s) + e01 (g l) (f l + g l - s) := by
    rcases c with c | c
    · have : f l + g l - s = g l := by omega
      rw [this, e01_s (g l)]; omega
    · have : f l + g l - s = f l := by omega
      rw [this, e01_s (f l)]; omega
  have st := wk_step (D := D) (s := s) hne a b c (fun _ z => z) (fun N cl => ⟨Iff.rfl, fun i _ h1 h2 => by omega⟩) (fun m m1 m2 => by
    rw [e01_n (show s ≠ m by omega)]
    exact h2 m) (by rw [e01_s]; omega) (by
    rw [e01_n (show s ≠ f l + g l - s by omega)]
    have := h2 (f l + g l - s)
    omega)
  obtain ⟨k, hk⟩ : ∃ k, L = k + 1 := ⟨L - 1, by omega⟩
  have bc := bcN_df b L a
  have bl := bcN_le D L
  have e : wk f g L y L D s = wk f g L y (k + 1) D s := by rw [← hk]
  rw [e]
  unfold wk
  rw [el]
  show WEnd f g L D s y (if f l + g l - s = y then (dfN D (2 ^ l), y) else wk f g L y k (dfN D (2 ^ l)) (f l + g l - s))
  by_cases q : f l + g l - s = y
  · rw [if_pos q]
    exact Or.inl ⟨rfl, by have := st.1; rw [q] at this; exact this⟩
  · rw [if_neg q]
    exact wk_go hne k _ _ st.1 st.2.1 q (by omega) (fun z => (st.2.2 y z (fun e => q e.symm)).trans (hy z))
/-- come back to s: of a ring nothing is left -/
theorem WI_back {L D s X : Nat} (h2 : TwoR f g L D) (hc : Cn f g L D) (hs : 0 < dg f g D s L) (w : WI f g L D s X s) : ∀ l, l < L → bt X l = 0 := by
  obtain ⟨w1, w2, _⟩ := w
  have dX : ∀ m, dg f g X m L = 0 ∨ (dg f g X m L = 2 ∧ m ≠ s) := fun m => by
    have q := w2 m
    by_cases z : s = m
    · rw [z, e01_s] at q; omega
    · rw [e01_n z] at q; omega
  have cl : ClN f g L D (fun m => dg f g X m L < dg f g D m L) := fun l hl hd => by
    rcases bt01 X l with b | b
    · exact ⟨fun _ => dg_slt hd b (Or.inr rfl) L hl (fun j _ => w1 j), fun _ => dg_slt hd b (Or.inl rfl) L hl (fun j _ => w1 j)⟩
    · have a1 := dg_ge (f := f) (g := g) (n := f l) b L hl
      have a2 := dg_ge (f := f) (g := g) (n := g l) b L hl
      rw [e01_s] at a1 a2
      have b1 := dX (f l)
      have b2 := dX (g l)
      have c1 := h2 (f l)
      have c2 := h2 (g l)
      constructor
      · intro z
        have z : dg f g X (f l) L < dg f g D (f l) L := z
        omega
      · intro z
        have z : dg f g X (g l) L < dg f g D (g l) L := z
        omega
  obtain ⟨l0, a, b, c⟩ := dg_ex L hs
  have ds := dX s
  have ns : dg f g X s L < dg f g D s L := by omega
  have n0 : dg f g X (f l0) L < dg f g D (f l0) L := by
    rcases c with c | c
    · rw [c]; exact ns
    · exact (cl l0 a b).mpr (by show dg f g X (g l0) L < dg f g D (g l0) L; rw [c]; exact ns)
  intro l hl
  rcases bt01 X l with z | z
  · exact z
  · have q : dg f g X (f l) L < dg f g D (f l) L := hc _ cl ⟨l0, a, b, n0⟩ l hl (w1 l z)
    have a1 := dg_ge (f := f) (g := g) (n := f l) z L hl
    rw [e01_s] at a1
    have b1 := dX (f l)
    have c1 := h2 (f l)
    omega
/-- the way round, and what it says -/
theorem round_iff {L D l0 : Nat} (hne : ∀ l, l < L → f l ≠ g l) (h2 : TwoR f g L D) (hl : l0 < L) (hb : bt D l0 = 1) : (∀ l, l < L → bt (wk f g L (f l0) L D (f l0)).1 l = 0) ↔ Cn f g L D := by
  have hs : 0 < dg f g D (f l0) L := by
    have := dg_ge (f := f) (g := g) (n := f l0) hb L hl
    rw [e01_s] at this
    omega
  rcases wk_all (y := f l0) hne h2 hs (fun z => absurd rfl z) with ⟨_, w⟩ | ⟨z, _⟩
  · constructor
    · intro z N cl ⟨l1, a, b, c⟩ l hl2 hd
      have q := (w.2.2 N cl).2
      exact (q l hl2 hd (z l hl2)).mpr ((q l1 a b (z l1 a)).mp c)
    · intro hc
      exact WI_back h2 hc hs w
  · exact absurd rfl z
/-- from one node of a ring to another: some links are gone, some are left -/
theorem side_ok {L D s y : Nat} (hne : ∀ l, l < L → f l ≠ g l) (h2 : TwoR f g L D) (hc : Cn f g L D) (hsy : s ≠ y) (hs : 0 < dg f g D s L) (hy : 0 < dg f g D y L) : (wk f g L y L D s).2 = y ∧ (∀ l, bt (wk f g L y L D s).1 l = 1 → bt D l = 1) ∧ (∃ l, l < L ∧ bt (wk f g L y L D s).1 l = 1) ∧ ∃ l, l < L ∧ bt D l = 1 ∧ bt (wk f g L y L D s).1 l = 0 := by
  have dy := h2 y
  have ds := h2 s
  rcases wk_all (y := y) hne h2 hs (fun _ => by omega) with ⟨e, w⟩ | ⟨_, _, w, z⟩
  · have qy := w.2.1 y
    have qs := w.2.1 s
    rw [e01_s, e01_n hsy] at qy
    rw [e01_s, e01_n (fun z => hsy z.symm)] at qs
    obtain ⟨l, a, b, _⟩ := dg_ex L (show 0 < dg f g (wk f g L y L D s).1 y L by omega)
    refine ⟨e, w.1, ⟨l, a, b⟩, ?_⟩
    by_cases q : ∃ l, l < L ∧ bt D l = 1 ∧ bt (wk f g L y L D s).1 l = 0
    · exact q
    · exfalso
      have le := dg_sub (f := f) (g := g) (X := D) (D := (wk f g L y L D s).1) (n := s) L (fun l hl hd => by
        rcases bt01 (wk f g L y L D s).1 l with z | z
        · exact absurd ⟨l, hl, hd, z⟩ q
        · exact z)
      omega
  · exfalso
    have := WI_back h2 hc hs w
    obtain ⟨l, a, b, _⟩ := dg_ex L (show 0 < dg f g (wk f g L y L D s).1 y L by omega)
    have := this l a
    omega
end DG
