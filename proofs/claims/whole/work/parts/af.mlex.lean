/-! Part af: the reference's lexer. -/
set_option maxRecDepth 100000 in
theorem m8_facts : ∀ t, t < 256 → ((nI t = nI 10 ↔ t = 10) ∧ (nI t = nI 32 ↔ t = 32) ∧ (if nI t < nI 97 then nI 0 else (if nI 122 < nI t then nI 0 else nI 1)) = (if isLe t = true then nI 1 else nI 0) ∧ (if nI t < nI 48 then nI 0 else (if nI 57 < nI t then nI 0 else nI 1)) = (if isDi t = true then nI 1 else nI 0)) := by decide +kernel
def sgP (x : Nat) : Nat → Nat
  | 0 => 25
  | k + 1 => if x = SGL.getD k 0 then 30 + k else sgP x k
set_option maxRecDepth 100000 in
theorem sgP_12 : ∀ x, x < 256 → sgP x 12 = sgK x := by decide +kernel
theorem sg_ch : ∀ k, k < 12 → strCh 0 k = nI (SGL.getD k 0) ∧ SGL.getD k 0 < 128 := by decide
def kpL : List Nat := [1, 5, 11, 16, 21, 26, 31, 37, 41, 44, 49, 54, 58, 63, 66, 72, 79, 83, 86, 90]
def kwL (j : Nat) : List Nat := KL.getD j []
set_option maxRecDepth 100000 in
theorem key_ch : ∀ j, j < 19 → KL.drop j = kwL j :: KL.drop (j + 1) ∧ (kwL j).length ≤ 12 ∧ kpL.getD (j + 1) 0 = kpL.getD j 0 + (kwL j).length + 1 ∧ kpL.getD (j + 1) 0 ≤ 90 ∧ (∀ k, k < (kwL j).length → strCh 32 (kpL.getD j 0 + k) = nI ((kwL j).getD k 0) ∧ (kwL j).getD k 0 < 128 ∧ 33 ≤ (kwL j).getD k 0) ∧ strCh 32 (kpL.getD j 0 + (kwL j).length) = nI 32 := by decide +kernel
theorem key_len : strLen.getD 32 0 = 90 ∧ strLen.getD 0 0 = 12 := by decide
def TxM (h : MH) (T : Nat → Nat) (n : Nat) : Prop := n ≤ 900 ∧ hI h 223 8 = nI n ∧ ∀ k, k < n → T k < 256 ∧ hI h 226 k = nI (T k)
def isPf (k : Nat) : Prop := k = 6 ∨ k = 7 ∨ k = 9 ∨ k = 10 ∨ k = 11 ∨ k = 12
def FrX (h g : MH) : Prop := Fr (fun b => b = 223) h g ∧ ∀ k, ¬ isPf k → hI g 223 k = hI h 223 k
theorem FrX_rfl (h : MH) : FrX h h := ⟨Fr_rfl _ _, fun _ _ => rfl⟩
theorem FrX_trans {h g k : MH} (p : FrX h g) (q : FrX g k) : FrX h k := ⟨Fr_trans p.1 q.1, fun j hj => (q.2 j hj).trans (p.2 j hj)⟩
theorem FrX_sI {g : MH} {k : Nat} {x : Int32} (hk : isPf k) : FrX g (sI g 223 k x) := ⟨Fr_sI rfl, fun j hj => by rw [hI_sI, if_neg (fun z => hj (by rw [z.2]; exact hk))]⟩
theorem TxM_FrX {h g : MH} {T : Nat → Nat} {n : Nat} (f : FrX h g) (t : TxM h T n) : TxM g T n := ⟨t.1, by rw [f.2 8 (by unfold isPf; omega)]; exact t.2.1, fun k hk => by rw [Fr_I f.1 (by omega)]; exact t.2.2 k hk⟩
/-- the reference's reader: text, the token's start, what is behind it, kind, number, fault, its place -/
def RM (h0 g : MH) (T : Nat → Nat) (n : Nat) (a b kd nu wr wa : Int32) : Prop := LX g ∧ FrX h0 g ∧ TxM g T n ∧ hI g 223 6 = a ∧ hI g 223 7 = b ∧ hI g 223 9 = kd ∧ hI g 223 10 = nu ∧ hI g 223 11 = wr ∧ hI g 223 12 = wa
section RMs
variable {h0 g : MH} {T : Nat → Nat} {n : Nat} {a b kd nu wr wa x : Int32}
theorem RM_6 (r : RM h0 g T n a b kd nu wr wa) : RM h0 (sI g 223 6 x) T n x b kd nu wr wa := by
  obtain ⟨r1, r2, r3, r4, r5, r6, r7, r8, r9⟩ := r
  have fr := FrX_sI (g := g) (k := 6) (x := x) (by unfold isPf; omega)
  exact ⟨LX_sI r1, FrX_trans r2 fr, TxM_FrX fr r3, by rw [hI_sI, if_pos ⟨rfl, rfl⟩], by rw [hI_sI, if_neg (by omega)]; exact r5, by rw [hI_sI, if_neg (by omega)]; exact r6, by rw [hI_sI, if_neg (by omega)]; exact r7, by rw [hI_sI, if_neg (by omega)]; exact r8, by rw [hI_sI, if_neg (by omega)]; exact r9⟩
theorem RM_7 (r : RM h0 g T n a b kd nu wr wa) : RM h0 (sI g 223 7 x) T n a x kd nu wr wa := by
  obtain ⟨r1, r2, r3, r4, r5, r6, r7, r8, r9⟩ := r
  have fr := FrX_sI (g := g) (k := 7) (x := x) (by unfold isPf; omega)
  exact ⟨LX_sI r1, FrX_trans r2 fr, TxM_FrX fr r3, by rw [hI_sI, if_neg (by omega)]; exact r4, by rw [hI_sI, if_pos ⟨rfl, rfl⟩], by rw [hI_sI, if_neg (by omega)]; exact r6, by rw [hI_sI, if_neg (by omega)]; exact r7, by rw [hI_sI, if_neg (by omega)]; exact r8, by rw [hI_sI, if_neg (by omega)]; exact r9⟩
theorem RM_9 (r : RM h0 g T n a b kd nu wr wa) : RM h0 (sI g 223 9 x) T n a b x nu wr wa := by
  obtain ⟨r1, r2, r3, r4, r5, r6, r7, r8, r9⟩ := r
  have fr := FrX_sI (g := g) (k := 9) (x := x) (by unfold isPf; omega)
  exact ⟨LX_sI r1, FrX_trans r2 fr, TxM_FrX fr r3, by rw [hI_sI, if_neg (by omega)]; exact r4, by rw [hI_sI, if_neg (by omega)]; exact r5, by rw [hI_sI, if_pos ⟨rfl, rfl⟩], by rw [hI_sI, if_neg (by omega)]; exact r7, by rw [hI_sI, if_neg (by omega)]; exact r8, by rw [hI_sI, if_neg (by omega)]; exact r9⟩
theorem RM_10 (r : RM h0 g T n a b kd nu wr wa) : RM h0 (sI g 223 10 x) T n a b kd x wr wa := by
  obtain ⟨r1, r2, r3, r4, r5, r6, r7, r8, r9⟩ := r
  have fr := FrX_sI (g := g) (k := 10) (x := x) (by unfold isPf; omega)
  exact ⟨LX_sI r1, FrX_trans r2 fr, TxM_FrX fr r3, by rw [hI_sI, if_neg (by omega)]; exact r4, by rw [hI_sI, if_neg (by omega)]; exact r5, by rw [hI_sI, if_neg (by omega)]; exact r6, by rw [hI_sI, if_pos ⟨rfl, rfl⟩], by rw [hI_sI, if_neg (by omega)]; exact r8, by rw [hI_sI, if_neg (by omega)]; exact r9⟩
theorem RM_11 (r : RM h0 g T n a b kd nu wr wa) : RM h0 (sI g 223 11 x) T n a b kd nu x wa := by
  obtain ⟨r1, r2, r3, r4, r5, r6, r7, r8, r9⟩ := r
  have fr := FrX_sI (g := g) (k := 11) (x := x) (by unfold isPf; omega)
  exact ⟨LX_sI r1, FrX_trans r2 fr, TxM_FrX fr r3, by rw [hI_sI, if_neg (by omega)]; exact r4, by rw [hI_sI, if_neg (by omega)]; exact r5, by rw [hI_sI, if_neg (by omega)]; exact r6, by rw [hI_sI, if_neg (by omega)]; exact r7, by rw [hI_sI, if_pos ⟨rfl, rfl⟩], by rw [hI_sI, if_neg (by omega)]; exact r9⟩
theorem RM_12 (r : RM h0 g T n a b kd nu wr wa) : RM h0 (sI g 223 12 x) T n a b kd nu wr x := by
  obtain ⟨r1, r2, r3, r4, r5, r6, r7, r8, r9⟩ := r
  have fr := FrX_sI (g := g) (k := 12) (x := x) (by unfold isPf; omega)
  exact ⟨LX_sI r1, FrX_trans r2 fr, TxM_FrX fr r3, by rw [hI_sI, if_neg (by omega)]; exact r4, by rw [hI_sI, if_neg (by omega)]; exact r5, by rw [hI_sI, if_neg (by omega)]; exact r6, by rw [hI_sI, if_neg (by omega)]; exact r7, by rw [hI_sI, if_neg (by omega)]; exact r8, by rw [hI_sI, if_pos ⟨rfl, rfl⟩]⟩
theorem m_see {Q : Int32 → MH → Prop} {k : Nat} (r : RM h0 g T n a b kd nu wr wa) (hk : k ≤ 901) (hq : Q (if k < n then nI (T k) else -1) g) : wX10_see 223 (nI k) g Q := by
  have hn := r.2.2.1.1
  unfold wX10_see
  rw [r.2.2.1.2.1, nI_clamp (by omega)]
  by_cases q : k < n
  · rw [if_pos q] at hq
    refine ⟨S_223 r.1, fun z => absurd z (nI_ge q (by omega)), fun _ => ⟨226, R_223_3 r.1, 900, S_226 r.1, vp_in_nI (by omega) (by omega), ?_⟩⟩
    rw [(r.2.2.1.2.2 k q).2]
    exact hq
  · rw [if_neg q] at hq
    exact ⟨S_223 r.1, fun _ => hq, fun z => absurd (nI_le (by omega) (by omega)) z⟩
end RMs
theorem m_small {Q : Int32 → MH → Prop} {g : MH} {T : Nat → Nat} {n k : Nat} (hT : ∀ k, k < n → T k < 256) (hq : Q (if k < n ∧ isLe (T k) = true then nI 1 else nI 0) g) : wX10_isSmall (if k < n then nI (T k) else -1) g Q := by
  unfold wX10_isSmall
  by_cases q : k < n
  · rw [if_pos q, (m8_facts (T k) (hT k q)).2.2.1]
    by_cases l : isLe (T k) = true
    · rw [if_pos ⟨q, l⟩] at hq
      rw [if_pos l]
      exact ⟨Or.inr (by decide), hq⟩
    · rw [if_neg (fun z => l z.2)] at hq
      rw [if_neg l]
      exact ⟨Or.inl nI_0, hq⟩
  · rw [if_neg (fun z => q z.1)] at hq
    rw [if_neg q]
    exact ⟨Or.inl (by decide), hq⟩
theorem m_digit {Q : Int32 → MH → Prop} {g : MH} {T : Nat → Nat} {n k : Nat} (hT : ∀ k, k < n → T k < 256) (hq : Q (if k < n ∧ isDi (T k) = true then nI 1 else nI 0) g) : wX10_isDigit (if k < n then nI (T k) else -1) g Q := by
  unfold wX10_isDigit
  by_cases q : k < n
  · rw [if_pos q, (m8_facts (T k) (hT k q)).2.2.2]
    by_cases l : isDi (T k) = true
    · rw [if_pos ⟨q, l⟩] at hq
      rw [if_pos l]
      exact ⟨Or.inr (by decide), hq⟩
    · rw [if_neg (fun z => l z.2)] at hq
      rw [if_neg l]
      exact ⟨Or.inl nI_0, hq⟩
  · rw [if_neg (fun z => q z.1)] at hq
    rw [if_neg q]
    exact ⟨Or.inl (by decide), hq⟩
theorem m_key97 {Q : Int32 → MH → Prop} {K : Nat → Int32 → Int32 → MH → Prop} {g : MH} {j : Nat} (hj : j < 19) (hk : K 223 (nI (j + 1)) (nI (kpL.getD (j + 1) 0)) g) : ∀ k q, q + k = (kwL j).length → wX10_keyAt_97 Q K (k + 1) 223 (nI j) (nI (kpL.getD j 0 + q)) g := by
  obtain ⟨_, f2, f3, f4, f5, f6⟩ := key_ch j hj
  intro k
  induction k with
  | zero =>
    intro q hq
    have hq : q = (kwL j).length := by omega
    subst hq
    unfold wX10_keyAt_97
    rw [nI_clamp (by omega), key_len.1, f6, nI_add, nI_add, show kpL.getD j 0 + (kwL j).length + 1 = kpL.getD (j + 1) 0 from by omega]
    exact ⟨by omega, vp_in_nI (by omega) (by omega), fun _ => hk, fun z => absurd rfl z⟩
  | succ k ih =>
    intro q hq
    obtain ⟨c1, c2, c3⟩ := f5 q (by omega)
    have g0 := ih (q + 1) (by omega)
    unfold wX10_keyAt_97
    rw [nI_clamp (by omega), key_len.1, c1, nI_add, nI_add]
    refine ⟨by omega, vp_in_nI (by omega) (by omega), fun z => ?_, fun _ => g0⟩
    have := (nI_eq (by omega) (by omega)).mp z
    omega
theorem m_keyAt {Q : Int32 → MH → Prop} {h0 g : MH} {T : Nat → Nat} {n a b : Nat} {kd nu wr wa : Int32} (r : RM h0 g T n (nI a) (nI b) kd nu wr wa) (hab : a ≤ b) (hb : b ≤ n) (hq : Q (nI (keyK T a b)) g) : wX10_keyAt 223 g Q := by
  have hn := r.2.2.1.1
  have lp : ∀ m j, j + m = 19 → kyF T a b (KL.drop j) j = keyK T a b → wX10_keyAt_4 Q (m + 1) 223 (nI j) (nI (kpL.getD j 0)) g := by
    intro m
    induction m with
    | zero =>
      intro j hj e
      have hj : j = 19 := by omega
      subst hj
      have e : 22 = keyK T a b := e
      rw [← e] at hq
      unfold wX10_keyAt_4
      rw [key_len.1]
      exact ⟨by omega, fun _ => hq, fun z => absurd (by decide) z⟩
    | succ m ih =>
      intro j hj e
      have hj19 : j < 19 := by omega
      obtain ⟨f1, f2, f3, f4, f5, f6⟩ := key_ch j hj19
      rw [f1] at e
      have e : (if b - a = (kwL j).length ∧ mtW T a (kwL j) = true then j else kyF T a b (KL.drop (j + 1)) (j + 1)) = keyK T a b := e
      have nx : ¬ (b - a = (kwL j).length ∧ mtW T a (kwL j) = true) → wX10_keyAt_4 Q (m + 1) 223 (nI (j + 1)) (nI (kpL.getD (j + 1) 0)) g := fun y => by
        rw [if_neg y] at e
        exact ih (j + 1) (by omega) e
      have go : ¬ (b - a = (kwL j).length ∧ mtW T a (kwL j) = true) → ∃ m8, wX10_keyAt_97 Q (wX10_keyAt_4 Q (m + 1)) m8 223 (nI j) (nI (kpL.getD j 0)) g := fun y => ⟨_, m_key97 hj19 (nx y) (kwL j).length 0 (by omega)⟩
      have inner : ∀ k i, i + k = (kwL j).length → a + i ≤ b → mtW T (a + i) ((kwL j).drop i) = mtW T a (kwL j) → wX10_keyAt_15 Q (wX10_keyAt_4 Q (m + 1)) (k + 1) 223 (nI j) (nI (kpL.getD j 0)) (nI i) g := by
        intro k
        induction k with
        | zero =>
          intro i hi hab2 mt
          have hi : i = (kwL j).length := by omega
          subst hi
          rw [List.drop_length] at mt
          have mt : true = mtW T a (kwL j) := mt
          unfold wX10_keyAt_15
          rw [nI_add, nI_clamp (by omega), key_len.1, f6]
          refine ⟨by omega, vp_in_nI (by omega) (by omega), fun _ => ?_, fun z => absurd rfl z⟩
          unfold wX10_keyAt_69
          rw [nI_add, nI_clamp (by omega), key_len.1, f6, r.2.2.2.1, r.2.2.2.2.1, nI_add]
          refine ⟨by omega, vp_in_nI (by omega) (by omega), fun z => absurd rfl z, fun _ => ⟨S_223 r.1, fun z => go (fun y => z (by rw [show a + (kwL j).length = b from by omega])), fun z => ?_⟩⟩
          have z := (nI_eq (by omega) (by omega)).mp z
          rw [if_pos ⟨by omega, mt.symm⟩] at e
          rw [← e] at hq
          exact hq
        | succ k ik =>
          intro i hi hab2 mt
          have hil : i < (kwL j).length := by omega
          obtain ⟨c1, c2, c3⟩ := f5 i hil
          have ns : ¬ (nI ((kwL j).getD i 0) = nI 32) := fun z => by
            have := (nI_eq (by omega) (by omega)).mp z
            omega
          have no69 : ¬ (b - a = (kwL j).length ∧ mtW T a (kwL j) = true) → wX10_keyAt_69 Q (wX10_keyAt_4 Q (m + 1)) 223 (nI j) (nI (kpL.getD j 0)) (nI i) g := fun y => by
            unfold wX10_keyAt_69
            rw [nI_add, nI_clamp (by omega), key_len.1, c1]
            exact ⟨by omega, vp_in_nI (by omega) (by omega), fun _ => go y, fun z => absurd z ns⟩
          unfold wX10_keyAt_15
          rw [nI_add, nI_clamp (by omega), key_len.1, c1, r.2.2.2.1, r.2.2.2.2.1, nI_add, nI_clamp (by omega), nI_add]
          refine ⟨by omega, vp_in_nI (by omega) (by omega), fun z => absurd z ns, fun _ => ⟨S_223 r.1, fun z => ?_, fun z => ?_⟩⟩
          · have : ¬ a + i < b := fun y => absurd z (nI_ge y (by omega))
            exact no69 (fun y => by omega)
          · have lt : a + i < b := Nat.lt_of_not_le (fun y => z (nI_le y (by omega)))
            obtain ⟨t1, t2⟩ := r.2.2.1.2.2 (a + i) (by omega)
            rw [mtW_drop hil] at mt
            refine ⟨226, R_223_3 r.1, 900, S_226 r.1, vp_in_nI (by omega) (by omega), by omega, vp_in_nI (by omega) (by omega), ?_⟩
            rw [t2, nI_eq (by omega) (by omega)]
            refine ⟨fun y => no69 (fun x => ?_), fun y => ik (i + 1) (by omega) (by omega) ?_⟩
            · rw [decide_eq_false y, Bool.false_and, x.2] at mt
              exact absurd mt (by simp)
            · rw [decide_eq_true y, Bool.true_and] at mt
              exact mt
      have kp : kpL.getD j 0 < 90 := by omega
      unfold wX10_keyAt_4
      rw [key_len.1]
      exact ⟨by omega, fun z => absurd z (nI_ge kp (by omega)), fun _ => ⟨_, inner (kwL j).length 0 (by omega) (by omega) rfl⟩⟩
  exact ⟨_, lp 19 0 (by omega) rfl⟩
