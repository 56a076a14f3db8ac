/-! Part a3: the least price, pure. -/
/-- the first link below n that lacks; n: none -/
def fsB (f : Nat → Nat) : Nat → Nat
  | 0 => 0
  | n + 1 => if fsB f n < n then fsB f n else if f n = 0 then n + 1 else n
theorem fsB_spec (f : Nat → Nat) : ∀ n, fsB f n ≤ n ∧ (∀ k, k < fsB f n → f k = 0) ∧ (fsB f n < n → f (fsB f n) ≠ 0)
  | 0 => ⟨Nat.le_refl _, fun k hk => absurd hk (Nat.not_lt_zero k), fun z => absurd z (Nat.not_lt_zero _)⟩
  | n + 1 => by
    obtain ⟨i1, i2, i3⟩ := fsB_spec f n
    unfold fsB
    by_cases q : fsB f n < n
    · rw [if_pos q]
      exact ⟨by omega, i2, fun _ => i3 q⟩
    · rw [if_neg q]
      have e : fsB f n = n := by omega
      rw [e] at i2
      by_cases z : f n = 0
      · rw [if_pos z]
        refine ⟨Nat.le_refl _, fun k hk => ?_, fun y => absurd y (by omega)⟩
        by_cases y : k = n
        · rw [y]; exact z
        · exact i2 k (by omega)
      · rw [if_neg z]
        exact ⟨by omega, i2, fun _ => z⟩
theorem fsB_lt {f : Nat → Nat} {n l : Nat} (hl : l < n) (h : f l ≠ 0) : fsB f n < n := by
  obtain ⟨i1, i2, _⟩ := fsB_spec f n
  by_cases q : fsB f n < n
  · exact q
  · exact absurd (i2 l (by omega)) h
theorem fsB_cong {f g : Nat → Nat} : ∀ n, (∀ k, k < n → f k = g k) → fsB f n = fsB g n
  | 0, _ => rfl
  | n + 1, h => by
    unfold fsB
    rw [fsB_cong n (fun k hk => h k (by omega)), h n (by omega)]
theorem sumM_le {f g : Nat → Nat} : ∀ n, (∀ k, k < n → f k ≤ g k) → sumC f n ≤ sumC g n
  | 0, _ => Nat.le_refl _
  | n + 1, h => by
    have ih := sumM_le n (fun k hk => h k (by omega))
    have := h n (by omega)
    show sumC f n + f n ≤ sumC g n + g n
    omega
theorem sumC_less {f g : Nat → Nat} {l : Nat} : ∀ n, l < n → (∀ k, k < n → f k ≤ g k) → f l < g l → sumC f n + 1 ≤ sumC g n
  | 0, hl, _, _ => absurd hl (Nat.not_lt_zero _)
  | n + 1, hl, h, hlt => by
    have h1 := h n (by omega)
    show sumC f n + f n + 1 ≤ sumC g n + g n
    by_cases q : l = n
    · have ih := sumM_le n (fun k hk => h k (by omega))
      rw [q] at hlt
      omega
    · have ih := sumC_less n (by omega) (fun k hk => h k (by omega)) hlt
      omega
theorem sumM_zero {f : Nat → Nat} : ∀ n, sumC f n = 0 → ∀ k, k < n → f k = 0
  | 0, _, k, hk => absurd hk (Nat.not_lt_zero _)
  | n + 1, h, k, hk => by
    have h : sumC f n + f n = 0 := h
    by_cases q : k = n
    · rw [q]; omega
    · exact sumM_zero n (by omega) k (by omega)
theorem sumC_20 {v : NV} {f : Nat → Nat} (hv : NvOK v) (hf : ∀ l, l < nvL v → f l ≤ 2) : sumC f (nvL v) ≤ 20 := by
  have h4 := hv.1
  have g : ∀ n, n ≤ nvL v → sumC f n ≤ 2 * n := by
    intro n
    induction n with
    | zero => intro _; exact Nat.le_refl _
    | succ n ih =>
      intro hn
      have := ih (by omega)
      have := hf n (by omega)
      show sumC f n + f n ≤ _
      omega
  have := g (nvL v) (Nat.le_refl _)
  omega
theorem sumC_bh {v : NV} {c l : Nat} {f : Nat → Nat} (hl : l < nvL v) (hf : f l ≠ 0) (hu : usN v c l ≠ 0) : sumC (fBh v c f) (nvL v) + 1 ≤ sumC f (nvL v) :=
  sumC_less _ hl (fun k _ => by unfold fBh; omega) (by unfold fBh; omega)
/-- what a ring counts, by the aim -/
def pz (v : NV) (r aim c : Nat) : Nat := if aim = 0 then nvPc v r c else 1
def mnF (v : NV) (r l F : Nat) (p : Nat → Nat) : Nat → Nat
  | 0 => F
  | c + 1 => if bt (nvMy v r) c = 1 ∧ usN v c l ≠ 0 ∧ p c < mnF v r l F p c then p c else mnF v r l F p c
def mnA (v : NV) (r l F : Nat) (p : Nat → Nat) : Nat → Nat
  | 0 => 0
  | c + 1 => if bt (nvMy v r) c = 1 ∧ usN v c l ≠ 0 ∧ p c < mnF v r l F p c then c else mnA v r l F p c
theorem mnF_le {v : NV} {r l F : Nat} {p : Nat → Nat} : ∀ n, mnF v r l F p n ≤ F
  | 0 => Nat.le_refl _
  | n + 1 => by
    have ih := mnF_le (v := v) (r := r) (l := l) (F := F) (p := p) n
    unfold mnF
    by_cases q : bt (nvMy v r) n = 1 ∧ usN v n l ≠ 0 ∧ p n < mnF v r l F p n
    · rw [if_pos q]; omega
    · rw [if_neg q]; exact ih
theorem mnF_all {v : NV} {r l F : Nat} {p : Nat → Nat} : ∀ n c, c < n → bt (nvMy v r) c = 1 → usN v c l ≠ 0 → mnF v r l F p n ≤ p c
  | 0, c, hc, _, _ => absurd hc (Nat.not_lt_zero _)
  | n + 1, c, hc, h1, h2 => by
    unfold mnF
    by_cases e : c = n
    · rw [e] at h1 h2
      by_cases q : bt (nvMy v r) n = 1 ∧ usN v n l ≠ 0 ∧ p n < mnF v r l F p n
      · rw [if_pos q, e]; exact Nat.le_refl _
      · rw [if_neg q, e]
        exact Nat.le_of_not_lt (fun z => q ⟨h1, h2, z⟩)
    · have ih := mnF_all (v := v) (r := r) (l := l) (F := F) (p := p) n c (by omega) h1 h2
      by_cases q : bt (nvMy v r) n = 1 ∧ usN v n l ≠ 0 ∧ p n < mnF v r l F p n
      · rw [if_pos q]; omega
      · rw [if_neg q]; exact ih
theorem mnF_arg {v : NV} {r l F : Nat} {p : Nat → Nat} : ∀ n, mnF v r l F p n < F → mnA v r l F p n < n ∧ bt (nvMy v r) (mnA v r l F p n) = 1 ∧ usN v (mnA v r l F p n) l ≠ 0 ∧ p (mnA v r l F p n) = mnF v r l F p n ∧ ∀ c, c < mnA v r l F p n → bt (nvMy v r) c = 1 → usN v c l ≠ 0 → mnF v r l F p n < p c
  | 0, h => absurd h (Nat.lt_irrefl _)
  | n + 1, h => by
    have al := mnF_all (v := v) (r := r) (l := l) (F := F) (p := p) n
    by_cases q : bt (nvMy v r) n = 1 ∧ usN v n l ≠ 0 ∧ p n < mnF v r l F p n
    · have e1 : mnF v r l F p (n + 1) = p n := by show (if _ then _ else _) = _; rw [if_pos q]
      have e2 : mnA v r l F p (n + 1) = n := by show (if _ then _ else _) = _; rw [if_pos q]
      rw [e1, e2]
      exact ⟨by omega, q.1, q.2.1, rfl, fun c hc b u => by have := al c hc b u; omega⟩
    · have e1 : mnF v r l F p (n + 1) = mnF v r l F p n := by show (if _ then _ else _) = _; rw [if_neg q]
      have e2 : mnA v r l F p (n + 1) = mnA v r l F p n := by show (if _ then _ else _) = _; rw [if_neg q]
      rw [e1] at h
      obtain ⟨i1, i2⟩ := mnF_arg n h
      rw [e1, e2]
      exact ⟨by omega, i2⟩
theorem mnF_cong {v : NV} {r l F : Nat} {p q : Nat → Nat} : ∀ n, (∀ c, c < n → bt (nvMy v r) c = 1 → usN v c l ≠ 0 → p c = q c) → mnF v r l F p n = mnF v r l F q n
  | 0, _ => rfl
  | n + 1, h => by
    have ih := mnF_cong (F := F) n (fun c hc => h c (by omega))
    unfold mnF
    rw [ih]
    by_cases z : bt (nvMy v r) n = 1 ∧ usN v n l ≠ 0
    · rw [h n (by omega) z.1 z.2]
    · rw [if_neg (fun y => z ⟨y.1, y.2.1⟩), if_neg (fun y => z ⟨y.1, y.2.1⟩)]
theorem mnF_far {v : NV} {r l F : Nat} {p : Nat → Nat} (n : Nat) (h : ∀ c, c < n → bt (nvMy v r) c = 1 → usN v c l ≠ 0 → F ≤ p c) : mnF v r l F p n = F := by
  have h1 := mnF_le (v := v) (r := r) (l := l) (F := F) (p := p) n
  by_cases q : mnF v r l F p n < F
  · obtain ⟨a1, a2, a3, a4, _⟩ := mnF_arg n q
    have := h _ a1 a2 a3
    omega
  · omega
theorem mnF_FG {v : NV} {r l F G c : Nat} {p : Nat → Nat} {n : Nat} (hc : c < n) (h1 : bt (nvMy v r) c = 1) (h2 : usN v c l ≠ 0) (hF : p c < F) (hG : p c < G) : mnF v r l F p n = mnF v r l G p n := by
  have x1 := mnF_all (F := F) (p := p) n c hc h1 h2
  have y1 := mnF_all (F := G) (p := p) n c hc h1 h2
  obtain ⟨a1, a2, a3, a4, _⟩ := mnF_arg (v := v) (r := r) (l := l) (F := F) (p := p) n (by omega)
  obtain ⟨b1, b2, b3, b4, _⟩ := mnF_arg (v := v) (r := r) (l := l) (F := G) (p := p) n (by omega)
  have x2 := mnF_all (F := F) (p := p) n _ b1 b2 b3
  have y2 := mnF_all (F := G) (p := p) n _ a1 a2 a3
  omega
/-- the least price of what lacks, with n rings at most; F: far -/
def lqF (v : NV) (r aim F : Nat) : Nat → (Nat → Nat) → Nat
  | 0, _ => 0
  | n + 1, f => if nedB f 1 (nvL v) = 0 then 0 else mnF v r (fsB f (nvL v)) F (fun c => pz v r aim c + lqF v r aim F n (fBh v c f)) (nvC v)
theorem ned_fs {v : NV} {f : Nat → Nat} (h : ¬ nedB f 1 (nvL v) = 0) : fsB f (nvL v) < nvL v ∧ f (fsB f (nvL v)) ≠ 0 := by
  obtain ⟨i1, i2, i3⟩ := fsB_spec f (nvL v)
  by_cases q : fsB f (nvL v) < nvL v
  · exact ⟨q, i3 q⟩
  · exact absurd (nedB_zero.mpr (fun l hl => i2 l (by omega))) h
theorem lqF_le (v : NV) (r aim F : Nat) : ∀ n f, lqF v r aim F n f ≤ F
  | 0, _ => Nat.zero_le _
  | n + 1, f => by
    unfold lqF
    by_cases q : nedB f 1 (nvL v) = 0
    · rw [if_pos q]; exact Nat.zero_le _
    · rw [if_neg q]; exact mnF_le _
theorem lqF_up {v : NV} {r aim F : Nat} : ∀ n f, sumC f (nvL v) ≤ n → lqF v r aim F (n + 1) f = lqF v r aim F n f
  | 0, f, h => by
    have z := nedB_zero.mpr (sumM_zero (nvL v) (by omega : sumC f (nvL v) = 0))
    unfold lqF
    rw [if_pos z]
  | n + 1, f, h => by
    have ih := lqF_up (v := v) (r := r) (aim := aim) (F := F) n
    show (if _ then _ else _) = (if _ then _ else _)
    by_cases q : nedB f 1 (nvL v) = 0
    · rw [if_pos q, if_pos q]
    · rw [if_neg q, if_neg q]
      have z := ned_fs q
      refine mnF_cong _ (fun c hc b u => ?_)
      have := sumC_bh z.1 z.2 u
      show _ + lqF v r aim F (n + 1) (fBh v c f) = _
      rw [ih _ (by omega)]
def lq (v : NV) (r aim F : Nat) (f : Nat → Nat) : Nat := lqF v r aim F 20 f
def lqP (v : NV) (r aim F : Nat) (f : Nat → Nat) (c : Nat) : Nat := pz v r aim c + lq v r aim F (fBh v c f)
theorem lq_zero {v : NV} {r aim F : Nat} {f : Nat → Nat} (h : nedB f 1 (nvL v) = 0) : lq v r aim F f = 0 := by
  unfold lq
  show (if _ then _ else _) = _
  rw [if_pos h]
theorem lq_step {v : NV} {r aim F : Nat} {f : Nat → Nat} (h : ¬ nedB f 1 (nvL v) = 0) (hs : sumC f (nvL v) ≤ 20) : lq v r aim F f = mnF v r (fsB f (nvL v)) F (lqP v r aim F f) (nvC v) := by
  unfold lq
  show (if _ then _ else _) = _
  rw [if_neg h]
  have z := ned_fs h
  refine mnF_cong _ (fun c hc b u => ?_)
  have := sumC_bh z.1 z.2 u
  show pz v r aim c + lqF v r aim F 19 (fBh v c f) = pz v r aim c + lqF v r aim F 20 (fBh v c f)
  rw [lqF_up 19 _ (by omega)]
theorem lq_le (v : NV) (r aim F : Nat) (f : Nat → Nat) : lq v r aim F f ≤ F := lqF_le v r aim F 20 f
/-- every link that lacks has a ring with use -/
def usF (v : NV) (r : Nat) (f : Nat → Nat) : Prop := ∀ l, l < nvL v → f l ≠ 0 → ∃ c, c < nvC v ∧ bt (nvMy v r) c = 1 ∧ usN v c l ≠ 0
theorem usF_bh {v : NV} {r c : Nat} {f : Nat → Nat} (h : usF v r f) : usF v r (fBh v c f) := fun l hl hf => h l hl (fun z => hf (by unfold fBh; omega))
theorem pz_le {v : NV} (hv : NvOK v) {r aim c : Nat} (hr : r < 10) : pz v r aim c ≤ 990 := by
  unfold pz
  by_cases q : aim = 0
  · rw [if_pos q]; exact pc_lt hv hr
  · rw [if_neg q]; omega
theorem lqF_bd {v : NV} (hv : NvOK v) {r aim F : Nat} (hr : r < 10) : ∀ n f, sumC f (nvL v) ≤ n → usF v r f → lqF v r aim F n f ≤ 990 * sumC f (nvL v)
  | 0, f, _, _ => Nat.zero_le _
  | n + 1, f, h, us => by
    show (if _ then _ else _) ≤ _
    by_cases q : nedB f 1 (nvL v) = 0
    · rw [if_pos q]; exact Nat.zero_le _
    · rw [if_neg q]
      have z := ned_fs q
      obtain ⟨c, c1, c2, c3⟩ := us _ z.1 z.2
      have b := sumC_bh z.1 z.2 c3
      have ih := lqF_bd hv (aim := aim) (F := F) hr n (fBh v c f) (by omega) (usF_bh us)
      have x := mnF_all (F := F) (p := fun c => pz v r aim c + lqF v r aim F n (fBh v c f)) (nvC v) c c1 c2 c3
      have y := pz_le hv (aim := aim) (c := c) hr
      have w : mnF v r (fsB f (nvL v)) F (fun c => pz v r aim c + lqF v r aim F n (fBh v c f)) (nvC v) ≤ pz v r aim c + lqF v r aim F n (fBh v c f) := x
      omega
theorem lqF_FG {v : NV} (hv : NvOK v) {r aim F G : Nat} (hr : r < 10) (hF : 20000 ≤ F) (hG : 20000 ≤ G) : ∀ n f, sumC f (nvL v) ≤ n → n ≤ 20 → usF v r f → lqF v r aim F n f = lqF v r aim G n f
  | 0, f, _, _, _ => rfl
  | n + 1, f, h, h20, us => by
    show (if _ then _ else _) = (if _ then _ else _)
    by_cases q : nedB f 1 (nvL v) = 0
    · rw [if_pos q, if_pos q]
    · rw [if_neg q, if_neg q]
      have z := ned_fs q
      have e : ∀ c, c < nvC v → bt (nvMy v r) c = 1 → usN v c (fsB f (nvL v)) ≠ 0 → pz v r aim c + lqF v r aim F n (fBh v c f) = pz v r aim c + lqF v r aim G n (fBh v c f) := fun c c1 c2 c3 => by
        have b := sumC_bh z.1 z.2 c3
        rw [lqF_FG hv hr hF hG n (fBh v c f) (by omega) (by omega) (usF_bh us)]
      rw [mnF_cong (F := F) (nvC v) e]
      obtain ⟨c, c1, c2, c3⟩ := us _ z.1 z.2
      have b := sumC_bh z.1 z.2 c3
      have ih := lqF_bd hv (aim := aim) (F := G) hr n (fBh v c f) (by omega) (usF_bh us)
      have y := pz_le hv (aim := aim) (c := c) hr
      exact mnF_FG c1 c2 c3 (by show pz v r aim c + lqF v r aim G n (fBh v c f) < F; omega) (by show pz v r aim c + lqF v r aim G n (fBh v c f) < G; omega)
theorem lqF_far {v : NV} {r aim F l : Nat} (hl : l < nvL v) (hn : ∀ c, c < nvC v → bt (nvMy v r) c = 1 → usN v c l = 0) : ∀ n f, sumC f (nvL v) ≤ n → f l ≠ 0 → lqF v r aim F n f = F
  | 0, f, h, hf => absurd (sumM_zero (nvL v) (by omega) l hl) hf
  | n + 1, f, h, hf => by
    show (if _ then _ else _) = _
    by_cases q : nedB f 1 (nvL v) = 0
    · exact absurd (nedB_zero.mp q l hl) hf
    · rw [if_neg q]
      have z := ned_fs q
      refine mnF_far _ (fun c c1 c2 c3 => ?_)
      have b := sumC_bh z.1 z.2 c3
      have := lqF_far (aim := aim) (F := F) hl hn n (fBh v c f) (by omega) (by unfold fBh; rw [hn c c1 c2]; omega)
      rw [this]
      omega
