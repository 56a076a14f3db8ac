/-! Part 9w: what is lacking as two sets, and behind a ring. -/
/-- the links below n that lack u units or more -/
def nedB (f : Nat → Nat) (u : Nat) : Nat → Nat
  | 0 => 0
  | l + 1 => if u ≤ f l then nedB f u l ||| 2 ^ l else nedB f u l
theorem nedB_lt (f : Nat → Nat) (u : Nat) : ∀ l, nedB f u l < 2 ^ l
  | 0 => Nat.one_pos
  | l + 1 => by
    have h1 := nedB_lt f u l
    have h2 : (2 : Nat) ^ (l + 1) = 2 ^ l + 2 ^ l := by rw [Nat.pow_succ]; omega
    unfold nedB
    by_cases q : u ≤ f l
    · rw [if_pos q]; exact Nat.or_lt_two_pow (by omega) (by omega)
    · rw [if_neg q]; omega
theorem nedB_bt (f : Nat → Nat) (u : Nat) : ∀ n k, bt (nedB f u n) k = if k < n ∧ u ≤ f k then 1 else 0
  | 0, k => by
    rw [if_neg (by omega)]
    show bt 0 k = 0
    unfold bt
    rw [Nat.zero_div]
  | n + 1, k => by
    have ih := nedB_bt f u n k
    unfold nedB
    by_cases q : u ≤ f n
    · rw [if_pos q, bt_or, ih]
      by_cases e : k = n
      · rw [if_pos e, if_pos (by rw [e]; exact ⟨by omega, q⟩)]
      · rw [if_neg e]
        by_cases z : k < n ∧ u ≤ f k
        · rw [if_pos z, if_pos ⟨by omega, z.2⟩]
        · rw [if_neg z, if_neg (fun y => z ⟨by omega, y.2⟩)]
    · rw [if_neg q, ih]
      by_cases z : k < n ∧ u ≤ f k
      · rw [if_pos z, if_pos ⟨by omega, z.2⟩]
      · rw [if_neg z, if_neg (fun y => z ⟨by
          by_cases e : k = n
          · rw [e] at y; exact absurd y.2 q
          · omega, y.2⟩)]
theorem nedB_tb (f : Nat → Nat) (u n k : Nat) : (nedB f u n).testBit k = decide (k < n ∧ u ≤ f k) := by
  have h := nedB_bt f u n k
  by_cases z : k < n ∧ u ≤ f k
  · rw [if_pos z] at h
    rw [(bt_tb _ _).mp h, decide_eq_true z]
  · rw [if_neg z] at h
    rw [decide_eq_false z]
    cases e : (nedB f u n).testBit k with
    | false => rfl
    | true =>
      have := (bt_tb _ _).mpr e
      omega
theorem bt_tf {s k : Nat} (h : bt s k = 0) : s.testBit k = false := by
  cases e : s.testBit k with
  | false => rfl
  | true =>
    have := (bt_tb _ _).mpr e
    omega
theorem lacB_ned (v : NV) (cp : Nat → Nat) (u : Nat) : ∀ n, lacB v cp u n = nedB (lkC v cp) u n
  | 0 => rfl
  | n + 1 => by
    unfold lacB nedB
    rw [lacB_ned v cp u n]
/-- what lacks behind one more ring -/
def fBh (v : NV) (c : Nat) (f : Nat → Nat) (l : Nat) : Nat := f l - usN v c l
theorem nedB_once {v : NV} {c : Nat} {f : Nat → Nat} (hv : NvOK v) (hc : c < nvC v) (hf : ∀ l, l < nvL v → f l ≤ 2) : dfN (nedB f 1 (nvL v)) (nvOn v c ||| nvCh v c) ||| (nedB f 2 (nvL v) &&& nvOn v c) = nedB (fBh v c f) 1 (nvL v) := by
  apply Nat.eq_of_testBit_eq
  intro i
  unfold dfN
  rw [Nat.testBit_or, Nat.testBit_xor, Nat.testBit_and, Nat.testBit_and, Nat.testBit_or, nedB_tb, nedB_tb, nedB_tb]
  by_cases q : i < nvL v
  · have u := (us_cases hv hc q).1
    have f2 := hf i q
    unfold fBh
    unfold usN at u ⊢
    rcases bt01 (nvOn v c) i with a | a <;> rcases bt01 (nvCh v c) i with b | b
    · rw [a, b, bt_tf a, bt_tf b]
      rcases (show f i = 0 ∨ f i = 1 ∨ f i = 2 from by omega) with e | e | e <;> rw [e] <;> simp [q]
    · rw [a, b, bt_tf a, (bt_tb _ _).mp b]
      rcases (show f i = 0 ∨ f i = 1 ∨ f i = 2 from by omega) with e | e | e <;> rw [e] <;> simp [q]
    · rw [a, b, bt_tf b, (bt_tb _ _).mp a]
      rcases (show f i = 0 ∨ f i = 1 ∨ f i = 2 from by omega) with e | e | e <;> rw [e] <;> simp [q]
    · omega
  · simp [q]
theorem nedB_twice {v : NV} {c : Nat} {f : Nat → Nat} (hv : NvOK v) (hc : c < nvC v) (hf : ∀ l, l < nvL v → f l ≤ 2) : dfN (nedB f 2 (nvL v)) (nvOn v c ||| nvCh v c) = nedB (fBh v c f) 2 (nvL v) := by
  apply Nat.eq_of_testBit_eq
  intro i
  unfold dfN
  rw [Nat.testBit_xor, Nat.testBit_and, Nat.testBit_or, nedB_tb, nedB_tb]
  by_cases q : i < nvL v
  · have u := (us_cases hv hc q).1
    have f2 := hf i q
    unfold fBh
    unfold usN at u ⊢
    rcases bt01 (nvOn v c) i with a | a <;> rcases bt01 (nvCh v c) i with b | b
    · rw [a, b, bt_tf a, bt_tf b]
      rcases (show f i = 0 ∨ f i = 1 ∨ f i = 2 from by omega) with e | e | e <;> rw [e] <;> simp [q]
    · rw [a, b, bt_tf a, (bt_tb _ _).mp b]
      rcases (show f i = 0 ∨ f i = 1 ∨ f i = 2 from by omega) with e | e | e <;> rw [e] <;> simp [q]
    · rw [a, b, bt_tf b, (bt_tb _ _).mp a]
      rcases (show f i = 0 ∨ f i = 1 ∨ f i = 2 from by omega) with e | e | e <;> rw [e] <;> simp [q]
    · omega
  · simp [q]
theorem n_onceBehind {Q : Int32 → MH → Prop} {h : MH} {v : NV} {r c : Nat} {f : Nat → Nat} (hl : LX h) (hv : NvOK v) (p : CvR h v r) (hc : c < nvC v) (hb : bt (nvMy v r) c = 1) (hf : ∀ l, l < nvL v → f l ≤ 2) (hq : Q (nI (nedB (fBh v c f) 1 (nvL v))) h) : wX0_onceBehind 199 (nI (bcN (nvMy v r) c)) (nI (nedB f 1 (nvL v))) (nI (nedB f 2 (nvL v))) h Q := by
  have h4 := hv.1
  have c1 := hv.2.2.1 c hc
  have o1 := lt_of_pow c1.2.1 (by omega)
  have o2 := lt_of_pow c1.2.2.2 (by omega)
  have oo : nvOn v c ||| nvCh v c < 1024 := Nat.or_lt_two_pow (n := 10) o1 o2
  have g1 := lt_of_pow (nedB_lt f 1 (nvL v)) (by omega)
  have g2 := lt_of_pow (nedB_lt f 2 (nvL v)) (by omega)
  have d1 : dfN (nedB f 1 (nvL v)) (nvOn v c ||| nvCh v c) < 2 ^ 10 := dfN_lt (by omega)
  have d2 : nedB f 2 (nvL v) &&& nvOn v c ≤ nedB f 2 (nvL v) := Nat.and_le_left
  have b1 := bcN_lt hc hb
  have b2 := bcN_le (nvMy v r) (nvC v)
  obtain ⟨e1, e2, e3⟩ := p.2.2 c hc hb
  refine ⟨S_199 hl, 200, R_199_3 hl, 40, S_200 hl, vp_in_nI (by omega) (by omega), 201, R_199_4 hl, 40, S_201 hl, vp_in_nI (by omega) (by omega), vp_in_nI (by omega) (by omega), ?_⟩
  rw [nI_clamp (by omega), e1, e2, nI_or (by omega) (by omega), nI_andn (by omega) (by omega), nI_and (by omega) (by omega)]
  show Q (nI (dfN (nedB f 1 (nvL v)) (nvOn v c ||| nvCh v c)) ||| nI (nedB f 2 (nvL v) &&& nvOn v c)) h
  rw [nI_or (by omega) (by omega), nedB_once hv hc hf]
  exact hq
theorem n_twiceBehind {Q : Int32 → MH → Prop} {h : MH} {v : NV} {r c : Nat} {f : Nat → Nat} (hl : LX h) (hv : NvOK v) (p : CvR h v r) (hc : c < nvC v) (hb : bt (nvMy v r) c = 1) (hf : ∀ l, l < nvL v → f l ≤ 2) (hq : Q (nI (nedB (fBh v c f) 2 (nvL v))) h) : wX0_twiceBehind 199 (nI (bcN (nvMy v r) c)) (nI (nedB f 2 (nvL v))) h Q := by
  have h4 := hv.1
  have c1 := hv.2.2.1 c hc
  have o1 := lt_of_pow c1.2.1 (by omega)
  have o2 := lt_of_pow c1.2.2.2 (by omega)
  have oo : nvOn v c ||| nvCh v c < 1024 := Nat.or_lt_two_pow (n := 10) o1 o2
  have g2 := lt_of_pow (nedB_lt f 2 (nvL v)) (by omega)
  have b1 := bcN_lt hc hb
  have b2 := bcN_le (nvMy v r) (nvC v)
  obtain ⟨e1, e2, e3⟩ := p.2.2 c hc hb
  refine ⟨S_199 hl, 200, R_199_3 hl, 40, S_200 hl, vp_in_nI (by omega) (by omega), 201, R_199_4 hl, 40, S_201 hl, vp_in_nI (by omega) (by omega), ?_⟩
  rw [nI_clamp (by omega), e1, e2, nI_or (by omega) (by omega), nI_andn (by omega) (by omega)]
  show Q (nI (dfN (nedB f 2 (nvL v)) (nvOn v c ||| nvCh v c))) h
  rw [nedB_twice hv hc hf]
  exact hq
