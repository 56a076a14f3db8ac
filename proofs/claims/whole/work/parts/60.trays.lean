/-! ===== the trays: write ===== -/
def cut64 (v : Int64) (s : Nat) : Int64 := if s = 0 then (((v).toInt32).toInt8.toInt32).toInt64 else if s = 1 then (((v).toInt32).toInt16.toInt32).toInt64 else if s = 2 then ((v).toInt32).toInt64 else v
theorem u_tput {Q : MH → Prop} {h : MH} {t s i : Nat} {v : Int64} (hl : LX h) (ht : t < 4) (hs : s < 4) (hi : i < 40) (e : hI h (207 + 2 * t) 0 = nI s) (hq : Q (sL h (208 + 2 * t) i (cut64 v s))) : wX8_put (207 + 2 * t) (nI i) v h Q := by
  have ts := tr_S hl ht
  unfold wX8_put
  rw [e, nI_clamp (by omega), nI_toInt (by omega)]
  have vi : vp_in (nI i) 40 := vp_in_nI (by omega) (by omega)
  refine ⟨ts.1, fun c => ⟨_, ts.2.2.2, 40, ts.2.1, vi, fun _ e2 => ?_⟩, fun c => ⟨_, ts.2.2.2, 40, ts.2.1, vi, fun _ e2 => ?_⟩, fun c => ⟨_, ts.2.2.2, 40, ts.2.1, vi, fun _ e2 => ?_⟩, fun c => ⟨_, ts.2.2.2, 40, ts.2.1, vi, fun _ e2 => ?_⟩⟩
  · have c : s = 3 := by omega
    subst c
    subst e2
    exact hq
  · rw [nI_eq (by omega) (by omega)] at c
    subst c
    subst e2
    exact hq
  · rw [nI_eq (by omega) (by omega)] at c
    subst c
    subst e2
    exact hq
  · rw [nI_eq (by omega) (by omega)] at c
    subst c
    subst e2
    exact hq
theorem m1_toInt : (-1 : Int32).toInt = -1 := by decide
/-- write, the class's side -/
theorem u_X9_write {Q : Int64 → MH → Prop} {h : MH} {x i : Int32} {v : Int64} (hl : LX h) (hy : TY h) (k1 : ¬ (0 ≤ x.toInt ∧ x.toInt ≤ 3) → Q (-2) h) (k2 : ∀ t, t < 4 → x = nI t → hI h 241 t = -1 → Q (-6) h) (k3 : ∀ t s m : Nat, t < 4 → s < 4 → m ≤ 40 → x = nI t → hI h 241 t = nI s → hI h 242 t = nI m → ¬ (0 ≤ i.toInt ∧ i.toInt ≤ (m : Int) - 1) → Q (-7) h) (k4 : ∀ t s m j : Nat, t < 4 → s < 4 → m ≤ 40 → j < m → x = nI t → i = nI j → hI h 241 t = nI s → hI h 242 t = nI m → Q (cut64 v s) (sL h (208 + 2 * t) j (cut64 v s))) : wX9_write 128 x i v h Q := by
  unfold wX9_write
  refine u_isTray (fun t ht e => ?_) (fun c => ⟨fun q => absurd nI_0 q, fun _ => k1 c⟩)
  have ts := tr_S hl (show t < 4 by omega)
  refine ⟨fun _ => ?_, fun q => absurd q (by decide)⟩
  subst e
  rw [nI_clamp (by omega)]
  refine ⟨S_128 hl, 206, R_128_9 hl, 4, S_206 hl, vp_in_nI (by omega) (by omega), _, ts.2.2.1, ts.1, ?_⟩
  unfold wX8_isMissing
  refine ⟨ts.1, ?_⟩
  rcases hy t (by omega) with ⟨q1, q2⟩ | ⟨s, m, q1, q2, q3, q4, q5, q6, q7⟩
  · rw [if_neg (show ¬ (0 : Int32) ≤ hI h (207 + 2 * t) 1 from by rw [q1]; decide)]
    exact ⟨Or.inr (by decide), fun q => absurd q (by decide), fun _ => k2 t (by omega) rfl q2⟩
  · rw [if_pos (show (0 : Int32) ≤ hI h (207 + 2 * t) 1 from by rw [q4]; exact nI_pos' (by omega))]
    refine ⟨Or.inl (by decide), fun _ => ?_, fun q => absurd nI_0 q⟩
    by_cases c : 0 ≤ i.toInt ∧ i.toInt ≤ (m : Int) - 1
    · rcases nI_cases i 40 (by omega) with ⟨j, hj, ej⟩ | c2
      · subst ej
        rw [nI_toInt (by omega)] at c
        refine ⟨fun q => absurd q (nI_pos (by omega)), fun _ => ⟨ts.1, fun _ => ?_, fun q => absurd ?_ q⟩⟩
        · refine u_tput hl (by omega) q1 (by omega) q3 ?_
          have ts2 := tr_S (LX_sL (a := 208 + 2 * t) (k := j) (v := cut64 v s) hl) (show t < 4 by omega)
          refine ⟨ts2.1, _, ts2.2.2.2, 40, ts2.2.1, vp_in_nI (by omega) (by omega), ?_⟩
          rw [nI_clamp (by omega), hL_sL, if_pos ⟨rfl, rfl⟩]
          exact k4 t s m j (by omega) q1 q2 (by omega) rfl rfl q5 q6
        · rw [q4]; exact nI_lt (by omega) (by omega)
      · omega
    · have k := k3 t s m (by omega) q1 q2 rfl q5 q6 c
      refine ⟨fun _ => k, fun q => ⟨ts.1, fun q2 => absurd ?_ c, fun _ => k⟩⟩
      rw [Int32.lt_iff_toInt_lt, i0_toInt] at q
      rw [q4, Int32.lt_iff_toInt_lt, nI_toInt (by omega)] at q2
      omega
/-- write, the reference's side -/
theorem u_X10_write {Q : Int64 → MH → Prop} {h : MH} {x i : Int32} {v : Int64} (hl : LX h) (hy : ∀ t, t < 4 → hI h 241 t = -1 ∨ ∃ s m : Nat, s < 4 ∧ m ≤ 40 ∧ hI h 241 t = nI s ∧ hI h 242 t = nI m) (k1 : ¬ (0 ≤ x.toInt ∧ x.toInt ≤ 3) → Q (-2) (sI h 223 0 (nI 0))) (k2 : ∀ t, t < 4 → x = nI t → hI h 241 t = -1 → Q (-6) (sI h 223 0 (nI 0))) (k3 : ∀ t s m : Nat, t < 4 → s < 4 → m ≤ 40 → x = nI t → hI h 241 t = nI s → hI h 242 t = nI m → ¬ (0 ≤ i.toInt ∧ i.toInt ≤ (m : Int) - 1) → Q (-7) (sI h 223 0 (nI 0))) (k4 : ∀ t s m j : Nat, t < 4 → s < 4 → m ≤ 40 → j < m → x = nI t → i = nI j → hI h 241 t = nI s → hI h 242 t = nI m → Q (cut64 v s) (sL (sI h 223 0 (nI 0)) 243 (40 * t + j) (cut64 v s))) : wX10_write 223 x i v h Q := by
  unfold wX10_write
  refine ⟨S_223 hl, fun _ e => ?_⟩
  subst e
  have hl1 : LX (sI h 223 0 (nI 0)) := LX_sI hl
  have l3 : (3 : Int64).toInt = 3 := by decide
  have l0 : (0 : Int64).toInt = 0 := by decide
  unfold wX10_noTray
  refine u_within (fun p1 p2 => ⟨fun _ => ?_, fun q => absurd q (by decide)⟩) (fun c => ⟨fun q => absurd nI_0 q, fun _ => ⟨fun q => absurd q (by decide), fun _ => k1 (by omega)⟩⟩)
  rcases nI_cases x 3 (by omega) with ⟨t, ht, e1⟩ | c
  · subst e1
    have i1 : hI (sI h 223 0 (nI 0)) 241 t = hI h 241 t := by rw [hI_sI, if_neg (by omega)]
    have i2 : hI (sI h 223 0 (nI 0)) 242 t = hI h 242 t := by rw [hI_sI, if_neg (by omega)]
    rw [nI_clamp (by omega)]
    refine ⟨S_223 hl1, 241, R_223_34 hl1, 4, S_241 hl1, vp_in_nI (by omega) (by omega), ?_⟩
    rcases hy t (by omega) with q | ⟨s, m, q1, q2, q3, q4⟩
    · rw [i1, if_pos q]
      exact ⟨fun q => absurd q (by decide), fun _ => k2 t (by omega) rfl q⟩
    · rw [if_neg (show ¬ hI (sI h 223 0 (nI 0)) 241 t = -1 from by rw [i1, q3]; intro w; have w2 := congrArg Int32.toInt w; rw [nI_toInt (by omega), m1_toInt] at w2; omega)]
      refine ⟨fun _ => ?_, fun q => absurd nI_0 q⟩
      refine ⟨S_223 hl1, 242, R_223_35 hl1, 4, S_242 hl1, vp_in_nI (by omega) (by omega), ?_⟩
      have lm : ((hI (sI h 223 0 (nI 0)) 242 t - nI 1).toInt64).toInt = (m : Int) - 1 := by
        rw [i2, q4, Int32.toInt_toInt64, Int32.toInt_sub, nI_toInt (by omega), nI_toInt (by omega), Int.bmod_eq_of_le (by omega) (by omega)]
        rfl
      refine u_within (fun p3 p4 => ⟨fun _ => ?_, fun q => absurd q (by decide)⟩) (fun c => ⟨fun q => absurd nI_0 q, fun _ => k3 t s m (by omega) q1 q2 rfl q3 q4 (by rw [lm] at c; omega)⟩)
      rw [lm] at p4
      rcases nI_cases i 40 (by omega) with ⟨j, hj, ej⟩ | c2
      · subst ej
        rw [nI_toInt (by omega)] at p4
        have k := k4 t s m j (by omega) q1 q2 (by omega) rfl rfl q3 q4
        have e0 : nI 40 * nI t + nI j = nI (40 * t + j) := by
          rw [show nI 40 * nI t = nI (40 * t) from (Int32.ofNat_mul 40 t).symm]
          exact nI_add _ _
        rw [e0, nI_clamp (by omega)]
        refine ⟨S_223 hl1, 243, R_223_36 hl1, 241, R_223_34 hl1, 4, S_241 hl1, vp_in_nI (by omega) (by omega), ?_⟩
        rw [i1, q3]
        unfold wX10_cutTo
        have ec : (if nI s = 0 then (((v).toInt32).toInt8.toInt32).toInt64 else (if nI s = nI 1 then (((v).toInt32).toInt16.toInt32).toInt64 else (if nI s = nI 2 then ((v).toInt32).toInt64 else v))) = cut64 v s := by
          have q : s = 0 ∨ s = 1 ∨ s = 2 ∨ s = 3 := by omega
          rcases q with q | q | q | q <;> subst q <;> rfl
        rw [ec]
        refine ⟨160, S_243 hl1, vp_in_nI (by omega) (by omega), fun _ e => ?_⟩
        subst e
        refine ⟨S_223 (LX_sL hl1), 243, R_223_36 (LX_sL hl1), 160, S_243 (LX_sL hl1), vp_in_nI (by omega) (by omega), ?_⟩
        rw [hL_sL, if_pos ⟨rfl, rfl⟩]
        exact k
      · omega
  · omega
theorem TY_side {h : MH} (hy : TY h) : ∀ t, t < 4 → hI h 241 t = -1 ∨ ∃ s m : Nat, s < 4 ∧ m ≤ 40 ∧ hI h 241 t = nI s ∧ hI h 242 t = nI m := fun t ht => by
  rcases hy t ht with ⟨_, q⟩ | ⟨s, m, q1, q2, _, _, q5, q6, _⟩
  · exact Or.inl q
  · exact Or.inr ⟨s, m, q1, q2, q5, q6⟩
theorem nI_m1 {s : Nat} (hs : s < 2 ^ 31) : nI s ≠ -1 := fun w => by
  have w2 := congrArg Int32.toInt w
  rw [nI_toInt hs, m1_toInt] at w2
  omega
theorem ST_write_of {RR : MH → Prop} (hf : ∀ h h2, AgY h h2 → RR h → RR h2) : ST_write (RLY RR) := by
  intro x i v h hr P kP
  have hr0 := hr
  obtain ⟨hl, ht, hy, hrr⟩ := hr
  refine u_X9_write hl hy (fun c => ?_) (fun t c1 c2 c3 => ?_) (fun t s m c1 c2 c3 c4 c5 c6 c7 => ?_) (fun t s m j c1 c2 c3 c4 c5 c6 c7 c8 => ?_)
  · refine kP _ h (S_223 hl) (fun P2 k2 => u_X10_write hl (TY_side hy) (fun _ => k2 _ (RLY_thrown hf hr0)) (fun t d1 d2 d3 => ?_) (fun t s m d1 d2 d3 d4 d5 d6 d7 => ?_) (fun t s m j d1 d2 d3 d4 d5 d6 d7 d8 => ?_))
    · exfalso; subst d2; rw [nI_toInt (by omega)] at c; omega
    · exfalso; subst d4; rw [nI_toInt (by omega)] at c; omega
    · exfalso; subst d5; rw [nI_toInt (by omega)] at c; omega
  · subst c2
    refine kP _ h (S_223 hl) (fun P2 k2 => u_X10_write hl (TY_side hy) (fun d => ?_) (fun t d1 d2 d3 => k2 _ (RLY_thrown hf hr0)) (fun t s m d1 d2 d3 d4 d5 d6 d7 => ?_) (fun t s m j d1 d2 d3 d4 d5 d6 d7 d8 => ?_))
    · exfalso; rw [nI_toInt (by omega)] at d; omega
    · exfalso
      have d4 := (nI_eq (by omega) (by omega)).mp d4
      subst d4
      exact nI_m1 (by omega) (d5.symm.trans c3)
    · exfalso
      have d5 := (nI_eq (by omega) (by omega)).mp d5
      subst d5
      exact nI_m1 (by omega) (d7.symm.trans c3)
  · subst c4
    refine kP _ h (S_223 hl) (fun P2 k2 => u_X10_write hl (TY_side hy) (fun d => ?_) (fun t d1 d2 d3 => ?_) (fun t s m d1 d2 d3 d4 d5 d6 d7 => k2 _ (RLY_thrown hf hr0)) (fun t s m2 j d1 d2 d3 d4 d5 d6 d7 d8 => ?_))
    · exfalso; rw [nI_toInt (by omega)] at d; omega
    · exfalso
      have d2 := (nI_eq (by omega) (by omega)).mp d2
      subst d2
      exact nI_m1 (by omega) (c5.symm.trans d3)
    · exfalso
      have d5 := (nI_eq (by omega) (by omega)).mp d5
      subst d5
      have e := (nI_eq (by omega) (by omega)).mp (c6.symm.trans d8)
      subst e
      subst d6
      rw [nI_toInt (by omega)] at c7
      omega
  · subst c5
    subst c6
    have hl2 : LX (sL h (208 + 2 * t) j (cut64 v s)) := LX_sL hl
    have hy2 : ∀ u, u < 4 → hI (sL h (208 + 2 * t) j (cut64 v s)) 241 u = -1 ∨ ∃ s2 m2 : Nat, s2 < 4 ∧ m2 ≤ 40 ∧ hI (sL h (208 + 2 * t) j (cut64 v s)) 241 u = nI s2 ∧ hI (sL h (208 + 2 * t) j (cut64 v s)) 242 u = nI m2 := fun u hu => by
      rw [hI_sL, hI_sL]
      exact TY_side hy u hu
    refine kP _ _ (S_223 hl2) (fun P2 k2 => u_X10_write hl2 hy2 (fun d => ?_) (fun t2 d1 d2 d3 => ?_) (fun t2 s2 m2 d1 d2 d3 d4 d5 d6 d7 => ?_) (fun t2 s2 m2 j2 d1 d2 d3 d4 d5 d6 d7 d8 => ?_))
    · exfalso; rw [nI_toInt (by omega)] at d; omega
    · exfalso
      have d2 := (nI_eq (by omega) (by omega)).mp d2
      subst d2
      rw [hI_sL] at d3
      exact nI_m1 (by omega) (c7.symm.trans d3)
    · exfalso
      have d4 := (nI_eq (by omega) (by omega)).mp d4
      subst d4
      rw [hI_sL] at d6
      have e := (nI_eq (by omega) (by omega)).mp (c8.symm.trans d6)
      subst e
      rw [nI_toInt (by omega)] at d7
      omega
    · have d5 := (nI_eq (by omega) (by omega)).mp d5
      subst d5
      have d6 := (nI_eq (by omega) (by omega)).mp d6
      subst d6
      rw [hI_sL] at d7
      have e := (nI_eq (by omega) (by omega)).mp (c7.symm.trans d7)
      subst e
      refine k2 _ ?_
      have hag : AgY h (sL (sI (sL h (208 + 2 * t) j (cut64 v s)) 223 0 (nI 0)) 243 (40 * t + j) (cut64 v s)) := by
        refine ⟨rfl, fun _ => rfl, fun _ _ => rfl, fun a k w1 w2 => ?_, fun a k w1 w2 w3 w4 => ?_⟩
        · have w := w1 t c1
          rw [hL_sL, if_neg (by omega), hL_sI, hL_sL, if_neg (by omega)]
        · rw [hI_sL, hI_sI, if_neg (by omega), hI_sL]
      refine ⟨LX_sL (LX_sI hl2), TP_AgY hag ht, fun u hu => ?_, hf h _ hag hrr⟩
      have e1 : ∀ a k, a ≠ 223 → hI (sL (sI (sL h (208 + 2 * t) j (cut64 v s)) 223 0 (nI 0)) 243 (40 * t + j) (cut64 v s)) a k = hI h a k := fun a k w => by rw [hI_sL, hI_sI, if_neg (by omega), hI_sL]
      unfold TY1
      rw [e1 _ _ (by omega), e1 _ _ (by omega), e1 _ _ (by omega), e1 _ _ (by omega)]
      rcases hy u hu with q | ⟨s3, m3, q1, q2, q3, q4, q5, q6, q7⟩
      · exact Or.inl q
      · refine Or.inr ⟨s3, m3, q1, q2, q3, q4, q5, q6, fun k hk => ?_⟩
        rw [hL_sL, if_neg (by omega), hL_sI, hL_sL, hL_sL]
        by_cases c : u = t ∧ k = j
        · rw [if_pos (by omega), if_pos (by omega)]
        · rw [if_neg (by omega), if_neg (by omega), hL_sI, hL_sL, if_neg (by omega)]
          exact q7 k hk
