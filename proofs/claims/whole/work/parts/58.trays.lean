/-! ===== the trays: numbers ===== -/
def zL (g : MH) (a lo hi : Nat) : MH := (g.1, g.2.1, (fun b j => if b = a ∧ lo ≤ j ∧ j < hi then 0 else hL g b j), g.2.2.2.1, g.2.2.2.2)
theorem zL_L (g : MH) (a lo hi b j : Nat) : hL (zL g a lo hi) b j = if b = a ∧ lo ≤ j ∧ j < hi then 0 else hL g b j := rfl
theorem zL_I (g : MH) (a lo hi b j : Nat) : hI (zL g a lo hi) b j = hI g b j := rfl
theorem zL_0 (g : MH) (a lo : Nat) : zL g a lo lo = g := by
  refine mh_ext (fun _ => rfl) (fun _ _ => rfl) (fun b j => ?_) (fun _ _ => rfl) rfl
  rw [zL_L, if_neg (by omega)]
theorem zL_step {g : MH} {a lo i : Nat} (hi : lo ≤ i) : sL (zL g a lo i) a i 0 = zL g a lo (i + 1) := by
  refine mh_ext (fun _ => rfl) (fun _ _ => rfl) (fun b j => ?_) (fun _ _ => rfl) rfl
  rw [hL_sL, zL_L, zL_L]
  by_cases c : b = a ∧ j = i
  · rw [if_pos c, if_pos (by omega)]
  · rw [if_neg c]
    by_cases c2 : b = a ∧ lo ≤ j ∧ j < i
    · rw [if_pos c2, if_pos (by omega)]
    · rw [if_neg c2, if_neg (by omega)]
theorem LX_zL {h : MH} {a lo hi : Nat} (hl : LX h) : LX (zL h a lo hi) := hl
theorem tr_S {h : MH} {t : Nat} (hl : LX h) (ht : t < 4) : hS h (207 + 2 * t) = (1, 8) ∧ hS h (208 + 2 * t) = (3, 40) ∧ hR h 206 t = some (207 + 2 * t) ∧ hR h (207 + 2 * t) 2 = some (208 + 2 * t) := by
  have q : t = 0 ∨ t = 1 ∨ t = 2 ∨ t = 3 := by omega
  rcases q with q | q | q | q <;> subst q
  · exact ⟨S_207 hl, S_208 hl, R_206_0 hl, R_207_2 hl⟩
  · exact ⟨S_209 hl, S_210 hl, R_206_1 hl, R_209_2 hl⟩
  · exact ⟨S_211 hl, S_212 hl, R_206_2 hl, R_211_2 hl⟩
  · exact ⟨S_213 hl, S_214 hl, R_206_3 hl, R_213_2 hl⟩
/-- an int from 0 to n, or not -/
theorem nI_cases (x : Int32) (n : Nat) (hn : n < 2 ^ 31) : (∃ j, j ≤ n ∧ x = nI j) ∨ ¬ (0 ≤ x.toInt ∧ x.toInt ≤ n) := by
  by_cases c : 0 ≤ x.toInt ∧ x.toInt ≤ n
  · refine Or.inl ⟨x.toInt.toNat, by omega, ?_⟩
    apply Int32.toInt_inj.mp
    rw [nI_toInt (by omega)]
    omega
  · exact Or.inr c
theorem u_within {x : Int32} {lo hi : Int64} {h : MH} {Q : Int32 → MH → Prop} (k1 : lo.toInt ≤ x.toInt → x.toInt ≤ hi.toInt → Q (nI 1) h) (k2 : ¬ (lo.toInt ≤ x.toInt ∧ x.toInt ≤ hi.toInt) → Q (nI 0) h) : wX10_within x.toInt64 lo hi h Q := by
  unfold wX10_within
  rw [lg_cmp_lt, Int64.lt_iff_toInt_lt, Int32.toInt_toInt64]
  refine ⟨fun c => k2 (by omega), fun c => ?_⟩
  by_cases c2 : 0 < lg_cmp x.toInt64 hi
  · rw [if_pos c2]
    rw [lg_cmp_gt, Int64.lt_iff_toInt_lt, Int32.toInt_toInt64] at c2
    exact ⟨Or.inl (by decide), k2 (by omega)⟩
  · rw [if_neg c2]
    rw [lg_cmp_gt, Int64.lt_iff_toInt_lt, Int32.toInt_toInt64] at c2
    exact ⟨Or.inr (by decide), k1 (by omega) (by omega)⟩
theorem i0_toInt : (0 : Int32).toInt = 0 := by decide
theorem u_isTray {x : Int32} {h : MH} {Q : Int32 → MH → Prop} (k1 : ∀ t, t ≤ 3 → x = nI t → Q (nI 1) h) (k2 : ¬ (0 ≤ x.toInt ∧ x.toInt ≤ 3) → Q (nI 0) h) : wX9_isTray x h Q := by
  unfold wX9_isTray
  rcases nI_cases x 3 (by omega) with ⟨t, ht, e⟩ | c
  · have k := k1 t ht e
    subst e
    rw [if_neg (nI_pos (by omega)), if_neg (nI_ge (by omega) (by omega))]
    exact ⟨Or.inr (by decide), k⟩
  · have k := k2 c
    by_cases c1 : x < 0
    · rw [if_pos c1]; exact ⟨Or.inl (by decide), k⟩
    · rw [if_neg c1]
      have c2 : nI 4 ≤ x := by
        rw [Int32.lt_iff_toInt_lt, i0_toInt] at c1
        rw [Int32.le_iff_toInt_le, nI_toInt (by omega)]
        omega
      rw [if_pos c2]; exact ⟨Or.inl (by decide), k⟩
theorem u_begin_loop {Q : MH → Prop} {g : MH} {t : Nat} (hl : LX g) (ht : t < 4) (hq : Q (zL g (208 + 2 * t) 0 40)) : ∀ n i, i + n = 40 → wX8_begin_12 Q (n + 1) (207 + 2 * t) (nI i) (zL g (208 + 2 * t) 0 i) := by
  intro n
  induction n with
  | zero =>
    intro i hi
    have hi : i = 40 := by omega
    subst hi
    unfold wX8_begin_12
    exact ⟨fun _ => hq, fun c => absurd (nI_le (by omega) (by omega)) c⟩
  | succ n ih =>
    intro i hi
    have hs := tr_S (LX_zL (a := 208 + 2 * t) (lo := 0) (hi := i) hl) ht
    unfold wX8_begin_12
    refine ⟨fun c => absurd c (nI_ge (by omega) (by omega)), fun _ => ⟨hs.1, _, hs.2.2.2, 40, hs.2.1, vp_in_nI (by omega) (by omega), fun _ e => ?_⟩⟩
    rw [nI_clamp (by omega), zL_step (by omega)] at e
    subst e
    rw [show nI i + nI 1 = nI (i + 1) from nI_add i 1]
    exact ih (i + 1) (by omega)
theorem u_begin {Q : MH → Prop} {h : MH} {t : Nat} {s m : Int32} (hl : LX h) (ht : t < 4) (hq : Q (zL (sI (sI h (207 + 2 * t) 0 s) (207 + 2 * t) 1 m) (208 + 2 * t) 0 40)) : wX8_begin (207 + 2 * t) s m h Q := by
  unfold wX8_begin
  refine ⟨(tr_S hl ht).1, fun _ e => ?_⟩
  subst e
  intro _ e
  subst e
  have hw := u_begin_loop (Q := Q) (g := sI (sI h (207 + 2 * t) 0 s) (207 + 2 * t) 1 m) (LX_sI (LX_sI hl)) ht hq 40 0 (by omega)
  rw [zL_0] at hw
  exact ⟨41, hw⟩
/-- numbers, the class's side -/
theorem u_X9_numbers {Q : Int32 → MH → Prop} {h : MH} {x s n : Int32} (hl : LX h) (k1 : ¬ (0 ≤ x.toInt ∧ x.toInt ≤ 3) ∨ ¬ (0 ≤ s.toInt ∧ s.toInt ≤ 3) → Q (-2) h) (k2 : (0 ≤ x.toInt ∧ x.toInt ≤ 3) → (0 ≤ s.toInt ∧ s.toInt ≤ 3) → ¬ (0 ≤ n.toInt ∧ n.toInt ≤ 40) → Q (-3) h) (k3 : ∀ t i m : Nat, t < 4 → i < 4 → m ≤ 40 → x = nI t → s = nI i → n = nI m → Q (nI 0) (zL (sI (sI h (207 + 2 * t) 0 (nI i)) (207 + 2 * t) 1 (nI m)) (208 + 2 * t) 0 40)) : wX9_numbers 128 x s n h Q := by
  unfold wX9_numbers
  refine u_isTray (fun t ht e => ?_) (fun c => ⟨fun _ => k1 (Or.inl c), fun q => absurd nI_0 q⟩)
  have hx : 0 ≤ x.toInt ∧ x.toInt ≤ 3 := by rw [e, nI_toInt (by omega)]; omega
  refine ⟨fun q => absurd q (by decide), fun _ => ?_⟩
  rcases nI_cases s 3 (by omega) with ⟨i, hi, es⟩ | c
  · have hs : 0 ≤ s.toInt ∧ s.toInt ≤ 3 := by rw [es, nI_toInt (by omega)]; omega
    subst es
    refine ⟨fun q => absurd q (nI_pos (by omega)), fun _ => ⟨fun _ => ?_, fun q => absurd (nI_lt (by omega) (by omega)) q⟩⟩
    rcases nI_cases n 40 (by omega) with ⟨m, hm, en⟩ | c
    · subst en
      refine ⟨fun q => absurd q (nI_pos (by omega)), fun _ => ⟨fun _ => ?_, fun q => absurd (nI_le (by omega) (by omega)) q⟩⟩
      have ts := tr_S hl (show t < 4 by omega)
      subst e
      rw [nI_clamp (by omega)]
      exact ⟨S_128 hl, 206, R_128_9 hl, 4, S_206 hl, vp_in_nI (by omega) (by omega), _, ts.2.2.1, ts.1, u_begin hl (by omega) (k3 t i m (by omega) (by omega) hm rfl rfl rfl)⟩
    · have k := k2 hx hs c
      refine ⟨fun _ => k, fun q => ⟨fun q2 => absurd ?_ c, fun _ => k⟩⟩
      rw [Int32.lt_iff_toInt_lt, i0_toInt] at q
      rw [Int32.le_iff_toInt_le, nI_toInt (by omega)] at q2
      omega
  · have k := k1 (Or.inr c)
    refine ⟨fun _ => k, fun q => ⟨fun q2 => absurd ?_ c, fun _ => k⟩⟩
    rw [Int32.lt_iff_toInt_lt, i0_toInt] at q
    rw [Int32.lt_iff_toInt_lt, nI_toInt (by omega)] at q2
    omega
theorem u_mnum_loop {Q : Int32 → MH → Prop} {g : MH} {t m : Nat} (hl : LX g) (ht : t < 4) (hm : m ≤ 40) (hq : Q (nI 0) (zL g 243 (40 * t) (40 * t + m))) : ∀ n i, i + n = m → wX10_numbers_64 Q (n + 1) 223 (nI t) (nI m) (nI i) (zL g 243 (40 * t) (40 * t + i)) := by
  intro n
  induction n with
  | zero =>
    intro i hi
    have hi : i = m := by omega
    subst hi
    unfold wX10_numbers_64
    exact ⟨fun _ => hq, fun c => absurd (nI_le (by omega) (by omega)) c⟩
  | succ n ih =>
    intro i hi
    have hl2 := LX_zL (a := 243) (lo := 40 * t) (hi := 40 * t + i) hl
    have e0 : nI 40 * nI t + nI i = nI (40 * t + i) := by
      rw [show nI 40 * nI t = nI (40 * t) from (Int32.ofNat_mul 40 t).symm]
      exact nI_add _ _
    unfold wX10_numbers_64
    rw [e0]
    refine ⟨fun c => absurd c (nI_ge (by omega) (by omega)), fun _ => ⟨S_223 hl2, 243, R_223_36 hl2, 160, S_243 hl2, vp_in_nI (by omega) (by omega), fun _ e => ?_⟩⟩
    rw [nI_clamp (by omega), zL_step (by omega)] at e
    subst e
    rw [show nI i + nI 1 = nI (i + 1) from nI_add i 1]
    exact ih (i + 1) (by omega)
/-- numbers, the reference's side -/
theorem u_X10_numbers {Q : Int32 → MH → Prop} {h : MH} {x s n : Int32} (hl : LX h) (k1 : ¬ (0 ≤ x.toInt ∧ x.toInt ≤ 3) ∨ ¬ (0 ≤ s.toInt ∧ s.toInt ≤ 3) → Q (-2) (sI h 223 0 (nI 0))) (k2 : (0 ≤ x.toInt ∧ x.toInt ≤ 3) → (0 ≤ s.toInt ∧ s.toInt ≤ 3) → ¬ (0 ≤ n.toInt ∧ n.toInt ≤ 40) → Q (-3) (sI h 223 0 (nI 0))) (k3 : ∀ t i m : Nat, t < 4 → i < 4 → m ≤ 40 → x = nI t → s = nI i → n = nI m → Q (nI 0) (zL (sI (sI (sI h 223 0 (nI 0)) 241 t (nI i)) 242 t (nI m)) 243 (40 * t) (40 * t + m))) : wX10_numbers 223 x s n h Q := by
  unfold wX10_numbers
  refine ⟨S_223 hl, fun _ e => ?_⟩
  subst e
  have hl1 : LX (sI h 223 0 (nI 0)) := LX_sI hl
  have l3 : (3 : Int64).toInt = 3 := by decide
  have l0 : (0 : Int64).toInt = 0 := by decide
  have l40 : (40 : Int64).toInt = 40 := by decide
  refine u_within (fun p1 p2 => ⟨fun q => absurd q (by decide), fun _ => ?_⟩) (fun c => ⟨fun _ => k1 (Or.inl (by omega)), fun q => absurd nI_0 q⟩)
  refine u_within (fun p3 p4 => ⟨fun _ => ?_, fun q => absurd q (by decide)⟩) (fun c => ⟨fun q => absurd nI_0 q, fun _ => k1 (Or.inr (by omega))⟩)
  refine u_within (fun p5 p6 => ⟨fun _ => ?_, fun q => absurd q (by decide)⟩) (fun c => ⟨fun q => absurd nI_0 q, fun _ => k2 (by omega) (by omega) (by omega)⟩)
  rcases nI_cases x 3 (by omega) with ⟨t, ht, e1⟩ | c
  · rcases nI_cases s 3 (by omega) with ⟨i, hi, e2⟩ | c
    · rcases nI_cases n 40 (by omega) with ⟨m, hm, e3⟩ | c
      · have k := k3 t i m (by omega) (by omega) hm e1 e2 e3
        subst e1
        subst e2
        subst e3
        rw [nI_clamp (by omega)]
        refine ⟨S_223 hl1, 241, R_223_34 hl1, 4, S_241 hl1, vp_in_nI (by omega) (by omega), fun _ e => ?_⟩
        subst e
        refine ⟨242, R_223_35 (LX_sI hl1), 4, S_242 (LX_sI hl1), vp_in_nI (by omega) (by omega), fun _ e => ?_⟩
        subst e
        have hw := u_mnum_loop (Q := Q) (LX_sI (LX_sI hl1)) (show t < 4 by omega) hm k m 0 (by omega)
        rw [show 40 * t + 0 = 40 * t from rfl, zL_0] at hw
        exact ⟨m + 1, hw⟩
      · omega
    · omega
  · omega
