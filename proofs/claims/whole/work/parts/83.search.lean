/-! ===== the first free path, as a search; lost units tried ===== -/
noncomputable def ffG (P : Nat → Prop) : Nat → Nat → Option Nat
  | 0, _ => none
  | n + 1, j => @ite _ (P j) (Classical.propDecidable _) (some j) (ffG P n (j + 1))
/-- the first from j on, below N -/
noncomputable def ffS (P : Nat → Prop) (N j : Nat) : Option Nat := ffG P (N - j) j
theorem ff_end {P : Nat → Prop} {N j : Nat} (h : N ≤ j) : ffS P N j = none := by
  unfold ffS
  rw [show N - j = 0 from by omega]
  rfl
theorem ff_hit {P : Nat → Prop} {N j : Nat} (h : j < N) (p : P j) : ffS P N j = some j := by
  unfold ffS
  rw [show N - j = (N - j - 1) + 1 from by omega]
  exact @if_pos _ (Classical.propDecidable _) p _ _ _
theorem ff_skip {P : Nat → Prop} {N j : Nat} (p : ¬ P j) : ffS P N j = ffS P N (j + 1) := by
  by_cases h : j < N
  · unfold ffS
    rw [show N - j = (N - (j + 1)) + 1 from by omega]
    exact @if_neg _ (Classical.propDecidable _) p _ _ _
  · rw [ff_end (by omega), ff_end (by omega)]
theorem ff_skips {P : Nat → Prop} {N j : Nat} : ∀ k, (∀ i, j ≤ i → i < j + k → ¬ P i) → ffS P N j = ffS P N (j + k)
  | 0, _ => rfl
  | k + 1, h => by
    rw [ff_skips k (fun i a b => h i a (by omega)), ff_skip (h (j + k) (by omega) (by omega))]
    rfl
theorem ff_some {P : Nat → Prop} {N : Nat} : ∀ n j k, N - j = n → ffS P N j = some k → k < N ∧ P k := by
  intro n
  induction n with
  | zero =>
    intro j k hn e
    rw [ff_end (by omega)] at e
    exact absurd e (by simp)
  | succ n ih =>
    intro j k hn e
    by_cases p : P j
    · rw [ff_hit (by omega) p] at e
      injection e with e
      subst e
      exact ⟨by omega, p⟩
    · rw [ff_skip p] at e
      exact ih (j + 1) k (by omega) e
/-- what a unit takes of a copy -/
def pOf (c k : Nat) : Option (Nat × Nat × Nat) → Nat
  | none => 0
  | some (d, i, p) => if d = c ∧ i = k then p else 0
def bzN (s : AS) (c k : Nat) : Nat → Nat
  | 0 => 0
  | n + 1 => bzN s c k n ||| pOf c k (asW s n)
theorem and_or0 {a b c : Nat} : a &&& (b ||| c) = 0 ↔ (a &&& b = 0 ∧ a &&& c = 0) := by
  rw [Nat.and_or_distrib_left, Nat.or_eq_zero_iff]
theorem bz_and {s : AS} {c k a : Nat} : ∀ n, (a &&& bzN s c k n = 0) ↔ ∀ u, u < n → a &&& pOf c k (asW s u) = 0
  | 0 => ⟨fun _ u hu => absurd hu (by omega), fun _ => Nat.and_zero _⟩
  | n + 1 => by
    show (a &&& (bzN s c k n ||| pOf c k (asW s n)) = 0) ↔ _
    rw [and_or0, bz_and n]
    constructor
    · intro ⟨h1, h2⟩ u hu
      by_cases q : u = n
      · subst q; exact h2
      · exact h1 u (by omega)
    · intro h
      exact ⟨fun u hu => h u (by omega), h n (by omega)⟩
theorem pOf_lt {c k : Nat} {o : Option (Nat × Nat × Nat)} (h : ∀ d i p, o = some (d, i, p) → p < 1024) : pOf c k o < 1024 := by
  cases o with
  | none => exact (by decide : 0 < 1024)
  | some t =>
    obtain ⟨d, i, p⟩ := t
    have := h d i p rfl
    show (if d = c ∧ i = k then p else 0) < 1024
    by_cases q : d = c ∧ i = k
    · rw [if_pos q]; exact this
    · rw [if_neg q]; omega
theorem bz_lt {v : NV} {s : AS} (ok : AsOK v s) {c k : Nat} : ∀ n, n ≤ 20 → bzN s c k n < 1024
  | 0, _ => (by decide : 0 < 1024)
  | n + 1, h => Nat.or_lt_two_pow (n := 10) (bz_lt ok n (by omega)) (pOf_lt (fun d i p e => (ok.2.2.2 n (by omega) d i p e).2.2.2.2.1))
/-- index j: cycle j / 18, copy j % 18 / 2, side j % 2 -/
def cand (v : NV) (s : AS) (l j : Nat) : Prop := j % 18 / 2 < asC s (j / 18) ∧ nvPa v (j / 18) l (j % 2) ≠ 0 ∧ (nvPa v (j / 18) l (j % 2) &&& asF s = 0) ∧ (nvPa v (j / 18) l (j % 2) &&& bzN s (j / 18) (j % 18 / 2) 20 = 0)
def trip (v : NV) (l j : Nat) : Nat × Nat × Nat := (j / 18, j % 18 / 2, nvPa v (j / 18) l (j % 2))
noncomputable def ffW (v : NV) (s : AS) (l : Nat) : Option (Nat × Nat × Nat) := (ffS (cand v s l) (18 * nvC v) 0).map (trip v l)
def setW (s : AS) (u : Nat) (o : Option (Nat × Nat × Nat)) : AS := (asR s, asF s, asC s, fun x => if x = u then o else asW s x)
/-- a lost unit tries -/
noncomputable def tryU (v : NV) (s : AS) (l u : Nat) : AS := @ite _ (bt (asF s) l = 1 ∧ asW s (2 * l + u) = none) (Classical.propDecidable _) (setW s (2 * l + u) (ffW v s l)) s
noncomputable def tryN (v : NV) (l : Nat) : Nat → AS → AS
  | 0, s => s
  | n + 1, s => tryU v (tryN v l n s) l n
noncomputable def tryA (v : NV) : Nat → AS → AS
  | 0, s => s
  | n + 1, s => tryN v n (nvW v n) (tryA v n s)
noncomputable def tryS (v : NV) (s : AS) : AS := tryA v (nvL v) s
theorem tryU_yes {v : NV} {s : AS} {l u : Nat} (h : bt (asF s) l = 1) (h2 : asW s (2 * l + u) = none) : tryU v s l u = setW s (2 * l + u) (ffW v s l) := @if_pos _ (Classical.propDecidable _) ⟨h, h2⟩ _ _ _
theorem tryU_no {v : NV} {s : AS} {l u : Nat} (h : ¬ (bt (asF s) l = 1 ∧ asW s (2 * l + u) = none)) : tryU v s l u = s := @if_neg _ (Classical.propDecidable _) h _ _ _
theorem tryU_rest (v : NV) (s : AS) (l u : Nat) : asR (tryU v s l u) = asR s ∧ asF (tryU v s l u) = asF s ∧ asC (tryU v s l u) = asC s := by
  by_cases h : bt (asF s) l = 1 ∧ asW s (2 * l + u) = none
  · rw [tryU_yes h.1 h.2]; exact ⟨rfl, rfl, rfl⟩
  · rw [tryU_no h]; exact ⟨rfl, rfl, rfl⟩
theorem AsOK_tryU {v : NV} {s : AS} {l u : Nat} (hv : NvOK v) (ok : AsOK v s) (hl : l < nvL v) (hu : u < nvW v l) : AsOK v (tryU v s l u) := by
  have h4 := hv.1
  have h5 := hv.2.1 l hl
  by_cases h : bt (asF s) l = 1 ∧ asW s (2 * l + u) = none
  · rw [tryU_yes h.1 h.2]
    refine ⟨ok.1, ok.2.1, ok.2.2.1, fun x hx c k p e => ?_⟩
    by_cases q : x = 2 * l + u
    · have e2 : ffW v s l = some (c, k, p) := by
        have : (if x = 2 * l + u then ffW v s l else asW s x) = some (c, k, p) := e
        rw [if_pos q] at this
        exact this
      unfold ffW at e2
      rw [Option.map_eq_some_iff] at e2
      obtain ⟨j, j1, j2⟩ := e2
      have cj := ff_some _ 0 j rfl j1
      unfold trip at j2
      injection j2 with a1 a2
      injection a2 with a2 a3
      have hc : c < nvC v := by omega
      have c1 := cj.2
      unfold cand at c1
      rw [a1] at a3
      rw [a1, a2, a3] at c1
      have pl := pa_lt (i := j % 2) hv hc hl (by omega)
      have hb : bt (asM v s) c = 1 := by
        rcases bt01 (asM v s) c with b | b
        · have := (ok.2.2.1 c (by omega)).2 b
          omega
        · exact b
      refine ⟨hc, hb, c1.1, by omega, by omega, by omega, ?_, ?_⟩
      · rw [q, show (2 * l + u) / 2 = l from by omega]; omega
      · rw [q, show (2 * l + u) / 2 = l from by omega]; exact h.1
    · have e2 : asW s x = some (c, k, p) := by
        have : (if x = 2 * l + u then ffW v s l else asW s x) = some (c, k, p) := e
        rw [if_neg q] at this
        exact this
      exact ok.2.2.2 x hx c k p e2
  · rw [tryU_no h]; exact ok
theorem AsOK_tryN {v : NV} {s : AS} {l : Nat} (hv : NvOK v) (ok : AsOK v s) (hl : l < nvL v) : ∀ n, n ≤ nvW v l → AsOK v (tryN v l n s)
  | 0, _ => ok
  | n + 1, h => AsOK_tryU hv (AsOK_tryN hv ok hl n (by omega)) hl (by omega)
theorem AsOK_tryA {v : NV} {s : AS} (hv : NvOK v) (ok : AsOK v s) : ∀ n, n ≤ nvL v → AsOK v (tryA v n s)
  | 0, _ => ok
  | n + 1, h => AsOK_tryN hv (AsOK_tryA hv ok n (by omega)) (by omega) _ (Nat.le_refl _)
theorem AsOK_tryS {v : NV} {s : AS} (hv : NvOK v) (ok : AsOK v s) : AsOK v (tryS v s) := AsOK_tryA hv ok _ (Nat.le_refl _)
theorem tryN_rest (v : NV) (l : Nat) : ∀ n s, asR (tryN v l n s) = asR s ∧ asF (tryN v l n s) = asF s ∧ asC (tryN v l n s) = asC s
  | 0, _ => ⟨rfl, rfl, rfl⟩
  | n + 1, s => by
    have h1 := tryU_rest v (tryN v l n s) l n
    have h2 := tryN_rest v l n s
    exact ⟨h1.1.trans h2.1, h1.2.1.trans h2.2.1, h1.2.2.trans h2.2.2⟩
theorem tryA_rest (v : NV) : ∀ n s, asR (tryA v n s) = asR s ∧ asF (tryA v n s) = asF s ∧ asC (tryA v n s) = asC s
  | 0, _ => ⟨rfl, rfl, rfl⟩
  | n + 1, s => by
    have h1 := tryN_rest v n (nvW v n) (tryA v n s)
    have h2 := tryA_rest v n s
    exact ⟨h1.1.trans h2.1, h1.2.1.trans h2.2.1, h1.2.2.trans h2.2.2⟩
theorem tryN_ok {v : NV} {l : Nat} : ∀ n s, bt (asF s) l = 0 → tryN v l n s = s
  | 0, _, _ => rfl
  | n + 1, s, h => by
    show tryU v (tryN v l n s) l n = s
    rw [tryN_ok n s h]
    exact tryU_no (fun q => by omega)
theorem tryA_zero {v : NV} : ∀ n s, asF s = 0 → tryA v n s = s
  | 0, _, _ => rfl
  | n + 1, s, h => by
    show tryN v n (nvW v n) (tryA v n s) = s
    rw [tryA_zero n s h]
    refine tryN_ok _ _ ?_
    rw [h]
    unfold bt
    rw [Nat.zero_div]
theorem bz_set {s : AS} {u c k p : Nat} (hn : asW s u = none) (d i : Nat) : ∀ n, bzN (setW s u (some (c, k, p))) d i n = bzN s d i n ||| (if u < n ∧ c = d ∧ k = i then p else 0)
  | 0 => by
    rw [if_neg (by omega), Nat.or_zero]
    rfl
  | n + 1 => by
    show bzN (setW s u (some (c, k, p))) d i n ||| pOf d i (if n = u then some (c, k, p) else asW s n) = (bzN s d i n ||| pOf d i (asW s n)) ||| _
    rw [bz_set hn d i n]
    by_cases q : n = u
    · subst q
      rw [if_pos rfl, if_neg (by omega), hn]
      show bzN s d i n ||| 0 ||| (if c = d ∧ k = i then p else 0) = bzN s d i n ||| 0 ||| _
      by_cases z : c = d ∧ k = i
      · rw [if_pos z, if_pos (by omega)]
      · rw [if_neg z, if_neg (by omega)]
    · rw [if_neg q, Nat.or_assoc, Nat.or_assoc, Nat.or_comm (pOf d i (asW s n))]
      congr 2
      by_cases z : u < n ∧ c = d ∧ k = i
      · rw [if_pos z, if_pos (by omega)]
      · rw [if_neg z, if_neg (by omega)]
theorem bz_set0 {s : AS} {u : Nat} (hn : asW s u = none) : setW s u none = s := by
  unfold setW
  have e : (fun x => if x = u then none else asW s x) = asW s := by
    funext x
    by_cases q : x = u
    · rw [if_pos q, q, hn]
    · rw [if_neg q]
  rw [e]
  rfl
