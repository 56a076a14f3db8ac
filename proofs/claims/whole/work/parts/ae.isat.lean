/-! Part ae: which token is at hand: the class. -/
def wS (i : Nat) : List Nat := (strByt.getD i []).map (fun c => c.toBitVec.toNat)
def kdL : List Nat := [99, 0, 1, 2, 30, 3, 4, 5, 6, 31, 18, 37, 38, 35, 36, 8, 9, 10, 11, 14, 12, 15, 13, 34, 32, 33, 39, 40, 41, 16, 17, 7]
def kdS (i : Nat) : Nat := kdL.getD i 99
set_option maxRecDepth 100000 in
theorem s8_nat : ∀ t, t < 256 → (sgn8 (nI t)).toBitVec.toNat % 256 = t := by decide +kernel
set_option maxRecDepth 100000 in
theorem s8_id : ∀ t, t < 128 → sgn8 (nI t) = nI t := by decide +kernel
theorem s8_eq {t c : Nat} (ht : t < 256) (hc : c < 128) : sgn8 (nI t) = nI c ↔ t = c := by
  constructor
  · intro e
    have h := s8_nat t ht
    rw [e, nI_bv, BitVec.toNat_ofNat] at h
    omega
  · intro e
    rw [e, s8_id c hc]
set_option maxRecDepth 100000 in
theorem tok_word : ∀ i, i < 32 → kdS i ≤ 18 → KL[kdS i]? = some (wS i) ∧ (∀ j, j < kdS i → KL[j]? ≠ some (wS i)) ∧ 2 ≤ (wS i).length ∧ isLe ((wS i).getD 0 0) = true := by decide +kernel
set_option maxRecDepth 100000 in
theorem tok_sign : ∀ i, i < 32 → 1 ≤ i → ¬ kdS i ≤ 18 → 30 ≤ kdS i ∧ kdS i ≤ 41 ∧ wS i = [SGL.getD (kdS i - 30) 0] ∧ isLe (SGL.getD (kdS i - 30) 0) = false ∧ isDi (SGL.getD (kdS i - 30) 0) = false := by decide +kernel
set_option maxRecDepth 100000 in
theorem tok_len : ∀ i, i < 32 → strLen.getD i 0 = (wS i).length ∧ (wS i).length ≤ 12 ∧ ∀ k, k < (wS i).length → strCh i k = nI ((wS i).getD k 0) ∧ (wS i).getD k 0 < 128 := by decide +kernel
set_option maxRecDepth 100000 in
theorem sg_eq : ∀ x, x < 256 → ∀ j, j < 12 → (sgK x = 30 + j ↔ x = SGL.getD j 0) := by decide +kernel
theorem mtW_inj {T : Nat → Nat} : ∀ (w w2 : List Nat) (a : Nat), w.length = w2.length → mtW T a w = true → mtW T a w2 = true → w = w2
  | [], [], _, _, _, _ => rfl
  | [], _ :: _, _, h, _, _ => absurd h (by simp)
  | _ :: _, [], _, h, _, _ => absurd h (by simp)
  | c :: w, c2 :: w2, a, h, m, m2 => by
    unfold mtW at m m2
    rw [Bool.and_eq_true] at m m2
    have e1 := of_decide_eq_true m.1
    have e2 := of_decide_eq_true m2.1
    have ih := mtW_inj w w2 (a + 1) (by simpa using h) m.2 m2.2
    rw [ih, ← e1, ← e2]
theorem ky_of {T : Nat → Nat} {a b : Nat} {w : List Nat} (m : b - a = w.length ∧ mtW T a w = true) : ∀ (ws : List (List Nat)) (i j : Nat), ws[j]? = some w → (∀ k, k < j → ws[k]? ≠ some w) → kyF T a b ws i = i + j
  | [], _, j, h, _ => absurd h (by simp)
  | w0 :: ws, i, j, h, hn => by
    unfold kyF
    by_cases q : b - a = w0.length ∧ mtW T a w0 = true
    · rw [if_pos q]
      have e := mtW_inj w0 w a (by omega) q.2 m.2
      cases j with
      | zero => rfl
      | succ j => exact absurd (by rw [e]; rfl) (hn 0 (by omega))
    · rw [if_neg q]
      cases j with
      | zero =>
        have h : some w0 = some w := h
        injection h with h
        rw [h] at q
        exact absurd m q
      | succ j =>
        rw [ky_of m ws (i + 1) j h (fun k hk => hn (k + 1) (by omega))]
        omega
theorem kyF_lt2 (T : Nat → Nat) (a b : Nat) : ∀ (ws : List (List Nat)) (i : Nat), i ≤ kyF T a b ws i ∨ kyF T a b ws i = 22
  | [], _ => Or.inr rfl
  | w0 :: ws, i => by
    unfold kyF
    by_cases q : b - a = w0.length ∧ mtW T a w0 = true
    · rw [if_pos q]; exact Or.inl (Nat.le_refl _)
    · rw [if_neg q]
      rcases kyF_lt2 T a b ws (i + 1) with h | h
      · exact Or.inl (by omega)
      · exact Or.inr h
theorem of_ky {T : Nat → Nat} {a b : Nat} : ∀ (ws : List (List Nat)) (i j : Nat), i + j < 22 → kyF T a b ws i = i + j → ∃ w, ws[j]? = some w ∧ b - a = w.length ∧ mtW T a w = true
  | [], i, j, h, e => by
    have e : 22 = i + j := e
    omega
  | w0 :: ws, i, j, h, e => by
    unfold kyF at e
    by_cases q : b - a = w0.length ∧ mtW T a w0 = true
    · rw [if_pos q] at e
      have : j = 0 := by omega
      subst this
      exact ⟨w0, rfl, q⟩
    · rw [if_neg q] at e
      cases j with
      | zero =>
        have h2 := kyF_lt2 T a b ws (i + 1)
        omega
      | succ j =>
        obtain ⟨w, h1, h2⟩ := of_ky (T := T) (a := a) (b := b) ws (i + 1) j (by omega) (by omega)
        exact ⟨w, h1, h2⟩
/-- the token at hand is this word or sign -/
theorem tok_iff {T : Nat → Nat} {n a i : Nat} (ha : a ≤ n) (hT : ∀ k, k < n → T k < 256) (hi : i < 32) (h1 : 1 ≤ i) : ((if tkK (tkAt T n a) = 25 then a else tkB (tkAt T n a)) - a = (wS i).length ∧ mtW T a (wS i) = true) ↔ tkK (tkAt T n a) = kdS i := by
  have ok := tkAt_ok (T := T) ha
  have first : mtW T a (wS i) = true → 1 ≤ (wS i).length → T a = (wS i).getD 0 0 := fun m hl => by
    cases e : wS i with
    | nil => rw [e] at hl; exact absurd hl (by simp)
    | cons c w =>
      rw [e] at m
      unfold mtW at m
      rw [Bool.and_eq_true] at m
      exact of_decide_eq_true m.1
  by_cases q : a < n
  · have eA : tkAt T n a = if isLe (T a) = true then (a, sk isLe T n a, keyK T a (sk isLe T n a), 0) else if isDi (T a) = true then (a, sk isDi T n a, (if 3 < sk isDi T n a - a then 25 else 23), nuV T a (sk isDi T n a - a)) else (a, a + 1, sgK (T a), 0) := by
      unfold tkAt
      rw [if_neg (fun z => z q)]
    by_cases l : isLe (T a) = true
    · rw [if_pos l] at eA
      have kk := keyK_lt T a (sk isLe T n a)
      have eK : tkK (tkAt T n a) = keyK T a (sk isLe T n a) := by rw [eA]; rfl
      have eB : tkB (tkAt T n a) = sk isLe T n a := by rw [eA]; rfl
      rw [eK, eB, if_neg (by omega)]
      by_cases w : kdS i ≤ 18
      · obtain ⟨w1, w2, w3, w4⟩ := tok_word i hi w
        constructor
        · intro m
          have := ky_of m KL 0 (kdS i) w1 w2
          rw [Nat.zero_add] at this
          exact this
        · intro e
          obtain ⟨w', h2, h3⟩ := of_ky KL 0 (kdS i) (by omega) (by rw [Nat.zero_add]; exact e)
          rw [w1] at h2
          injection h2 with h2
          rw [h2]
          exact h3
      · obtain ⟨s1, s2, s3, s4, s5⟩ := tok_sign i hi h1 w
        constructor
        · intro m
          have := first m.2 (by rw [s3]; simp)
          rw [s3] at this
          have : T a = SGL.getD (kdS i - 30) 0 := this
          rw [this, s4] at l
          exact absurd l (by simp)
        · intro e
          omega
    · rw [if_neg l] at eA
      by_cases d : isDi (T a) = true
      · rw [if_pos d] at eA
        have eK : tkK (tkAt T n a) = if 3 < sk isDi T n a - a then 25 else 23 := by rw [eA]; rfl
        constructor
        · intro m
          exfalso
          by_cases w : kdS i ≤ 18
          · obtain ⟨w1, w2, w3, w4⟩ := tok_word i hi w
            rw [← first m.2 (by omega)] at w4
            exact l w4
          · obtain ⟨s1, s2, s3, s4, s5⟩ := tok_sign i hi h1 w
            have := first m.2 (by rw [s3]; simp)
            rw [s3] at this
            have : T a = SGL.getD (kdS i - 30) 0 := this
            rw [this, s5] at d
            exact absurd d (by simp)
        · intro e
          exfalso
          have c : kdS i ≤ 18 ∨ 30 ≤ kdS i := by
            by_cases w : kdS i ≤ 18
            · exact Or.inl w
            · exact Or.inr (tok_sign i hi h1 w).1
          rw [eK] at e
          by_cases y : 3 < sk isDi T n a - a
          · rw [if_pos y] at e; omega
          · rw [if_neg y] at e; omega
      · rw [if_neg d] at eA
        have eK : tkK (tkAt T n a) = sgK (T a) := by rw [eA]; rfl
        have eB : tkB (tkAt T n a) = a + 1 := by rw [eA]; rfl
        have gc := sgK_cases (T a)
        rw [eK, eB]
        by_cases w : kdS i ≤ 18
        · obtain ⟨w1, w2, w3, w4⟩ := tok_word i hi w
          constructor
          · intro m
            rw [← first m.2 (by omega)] at w4
            exact absurd w4 l
          · intro e
            omega
        · obtain ⟨s1, s2, s3, s4, s5⟩ := tok_sign i hi h1 w
          have sg := sg_eq (T a) (hT a q) (kdS i - 30) (by omega)
          rw [show 30 + (kdS i - 30) = kdS i from by omega] at sg
          rw [sg, s3]
          constructor
          · intro m
            have m2 := m.2
            unfold mtW at m2
            rw [Bool.and_eq_true] at m2
            exact of_decide_eq_true m2.1
          · intro e
            have : sgK (T a) = kdS i := sg.mpr e
            rw [if_neg (by omega)]
            refine ⟨by rw [List.length_singleton]; omega, ?_⟩
            unfold mtW mtW
            rw [Bool.and_true]
            exact decide_eq_true e
  · have eA : tkAt T n a = (a, a, 24, 0) := by
      unfold tkAt
      rw [if_pos q]
    have c : kdS i ≠ 24 ∧ 1 ≤ (wS i).length := by
      by_cases w : kdS i ≤ 18
      · have := tok_word i hi w
        omega
      · have := tok_sign i hi h1 w
        rw [this.2.2.1]
        exact ⟨by omega, by simp⟩
    rw [eA]
    constructor
    · intro m
      have m1 : (if (24 : Nat) = 25 then a else a) - a = (wS i).length := m.1
      rw [if_neg (by omega)] at m1
      omega
    · intro e
      have e : 24 = kdS i := e
      omega
theorem mtW_drop {T : Nat → Nat} {a j : Nat} {w : List Nat} (hj : j < w.length) : mtW T (a + j) (w.drop j) = (decide (T (a + j) = w.getD j 0) && mtW T (a + (j + 1)) (w.drop (j + 1))) := by
  rw [List.drop_eq_getElem_cons hj]
  show (decide (T (a + j) = w[j]) && mtW T (a + j + 1) (w.drop (j + 1))) = _
  rw [show w.getD j 0 = w[j] from by simp [List.getD, hj]]
  rfl
theorem n_isAt {Q : Int32 → MH → Prop} {h0 g : MH} {T : Nat → Nat} {n a i : Nat} (ha : a ≤ n) (hi : i < 32) (h1 : 1 ≤ i) (r : RdT h0 g T n (tkAt T n a)) (hq : Q (if tkK (tkAt T n a) = kdS i then nI 1 else nI 0) g) : wX5_isAt 129 i g Q := by
  have ok := tkAt_ok (T := T) ha
  have hT : ∀ k, k < n → T k < 256 := fun k hk => (r.2.2.1.2.2 k hk).1
  have iff := tok_iff ha hT hi h1
  have tl := tok_len i hi
  have hn := r.2.2.1.1
  have e7 := r.2.2.2.1
  have e8 := r.2.2.2.2.1
  rw [ok.1] at e7 e8
  have eb : a ≤ (if tkK (tkAt T n a) = 25 then a else tkB (tkAt T n a)) ∧ (if tkK (tkAt T n a) = 25 then a else tkB (tkAt T n a)) ≤ n := by
    by_cases y : tkK (tkAt T n a) = 25
    · rw [if_pos y]; omega
    · rw [if_neg y]; omega
  generalize (if tkK (tkAt T n a) = 25 then a else tkB (tkAt T n a)) = b at e8 eb iff
  refine ⟨S_129 r.1, by omega, fun z => ?_, fun z => ?_⟩
  · rw [e7, e8, nI_subN eb.1, tl.1] at z
    have z := (nI_eq (by omega) (by omega)).mp z
    have lp : ∀ k j, j + k = (wS i).length → (mtW T (a + j) ((wS i).drop j) = mtW T a (wS i)) → wX5_isAt_23 Q (k + 1) 129 i (nI (a + j)) g := by
      intro k
      induction k with
      | zero =>
        intro j hj m
        rw [show (wS i).drop j = [] from List.drop_eq_nil_of_le (by omega)] at m
        have m : true = mtW T a (wS i) := m
        rw [if_pos (iff.mp ⟨z, m.symm⟩)] at hq
        unfold wX5_isAt_23
        rw [e8]
        exact ⟨S_129 r.1, fun _ => hq, fun y => absurd (nI_le (by omega) (by omega)) y⟩
      | succ k ih =>
        intro j hj m
        have hjl : j < (wS i).length := by omega
        have hp : a + j < n := by omega
        obtain ⟨c1, c2⟩ := r.2.2.1.2.2 (a + j) hp
        have ch := tl.2.2 j hjl
        rw [mtW_drop hjl] at m
        unfold wX5_isAt_23
        rw [e8, e7, nI_clamp (by omega), nI_subN (by omega), Nat.add_sub_cancel_left, nI_clamp (by omega), nI_add, tl.1]
        refine ⟨S_129 r.1, fun y => absurd y (nI_ge (by omega) (by omega)), fun _ => ⟨130, R_129_3 r.1, 900, S_130 r.1, vp_in_nI (by omega) (by omega), by omega, vp_in_nI (by omega) (by omega), ?_⟩⟩
        rw [c2, ch.1, s8_eq c1 ch.2]
        refine ⟨fun y => ih (j + 1) (by omega) ?_, fun y => ?_⟩
        · rw [decide_eq_true y, Bool.true_and] at m
          exact m
        · rw [decide_eq_false y, Bool.false_and] at m
          rw [if_neg (fun x => by rw [(iff.mpr x).2] at m; exact absurd m (by simp))] at hq
          exact hq
    have k0 := lp (wS i).length 0 (by omega) rfl
    rw [e7]
    exact ⟨_, k0⟩
  · rw [e7, e8, nI_subN eb.1, tl.1] at z
    rw [if_neg (fun x => z (by rw [(iff.mpr x).1]))] at hq
    exact hq
