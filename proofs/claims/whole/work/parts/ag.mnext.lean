/-! Part ag: the reference's next token. -/
/-- the reference's reader has this token at hand, and no fault was found -/
def RmT (h0 g : MH) (T : Nat → Nat) (n : Nat) (t : TK) : Prop := ∃ nu wa, RM h0 g T n (nI (tkA t)) (nI (tkB t)) (nI (tkK t)) nu 0 wa ∧ (tkK t = 23 → nu = nI (tkV t))
theorem m_next89 {Q : MH → Prop} {h0 : MH} {T : Nat → Nat} {n a : Nat} {kd nu wr wa : Int32} (ha : a ≤ n) (hq : ∀ g, RM h0 g T n (nI a) (nI (sk isLe T n a)) (nI (keyK T a (sk isLe T n a))) nu wr wa → Q g) : ∀ k p g, p + k = n → a ≤ p → sk isLe T n p = sk isLe T n a → RM h0 g T n (nI a) (nI p) kd nu wr wa → wX10_next_89 Q (k + 1) 223 g := by
  have fin : ∀ p g, p ≤ n → a ≤ p → sk isLe T n a = p → RM h0 g T n (nI a) (nI p) kd nu wr wa → wX10_keyAt 223 g (fun r59 h60 => hS h60 223 = (1, 10) ∧ ∀ h62, h62 = sI h60 223 9 (r59) → Q h62) := fun p g h1 h2 e r => m_keyAt r h2 h1 ⟨S_223 r.1, fun h62 e62 => hq h62 (by
    rw [e62, e]
    exact RM_9 r)⟩
  intro k
  induction k with
  | zero =>
    intro p g hk hap hs r
    have hn := r.2.2.1.1
    have hT : ∀ k, k < n → T k < 256 := fun k hk => (r.2.2.1.2.2 k hk).1
    have e : sk isLe T n p = p := sk_stop (by omega)
    unfold wX10_next_89
    rw [r.2.2.2.2.1]
    refine ⟨S_223 r.1, m_see r (by omega) (m_small hT ?_)⟩
    rw [if_neg (by omega)]
    exact ⟨fun _ => ⟨S_223 r.1, fin p g (by omega) hap (by rw [← hs, e]) r⟩, fun z => absurd nI_0 z⟩
  | succ k ih =>
    intro p g hk hap hs r
    have hn := r.2.2.1.1
    have hT : ∀ k, k < n → T k < 256 := fun k hk => (r.2.2.1.2.2 k hk).1
    unfold wX10_next_89
    rw [r.2.2.2.2.1]
    refine ⟨S_223 r.1, m_see r (by omega) (m_small hT ?_)⟩
    by_cases q : isLe (T p) = true
    · rw [if_pos ⟨by omega, q⟩]
      refine ⟨fun z => absurd z (by decide), fun _ => ⟨S_223 r.1, fun h64 e64 => ?_⟩⟩
      rw [r.2.2.2.2.1, nI_add] at e64
      refine ih (p + 1) h64 (by omega) (by omega) (by rw [← hs]; exact (sk_step (by omega) q).symm) ?_
      rw [e64]
      exact RM_7 r
    · rw [if_neg (fun z => q z.2)]
      have e : sk isLe T n p = p := sk_stop (fun z => q z.2)
      exact ⟨fun _ => ⟨S_223 r.1, fin p g (by omega) hap (by rw [← hs, e]) r⟩, fun z => absurd nI_0 z⟩
theorem m_next146 {Q : MH → Prop} {h0 : MH} {T : Nat → Nat} {n a : Nat} {kd wr wa : Int32} (ha : a ≤ n) (hq : ∀ g, RM h0 g T n (nI a) (nI (sk isDi T n a)) (nI (if 3 < sk isDi T n a - a then 25 else 23)) (nI (nuV T a (sk isDi T n a - a))) wr wa → Q g) : ∀ k j g, a + j + k = n → sk isDi T n (a + j) = sk isDi T n a → RM h0 g T n (nI a) (nI (a + j)) kd (nI (nuV T a j)) wr wa → wX10_next_146 Q (k + 1) 223 g := by
  have fin : ∀ j g, a + j ≤ n → sk isDi T n a = a + j → RM h0 g T n (nI a) (nI (a + j)) kd (nI (nuV T a j)) wr wa → ∀ h43, h43 = sI g 223 9 ((if (hI g 223 7 - hI g 223 6) ≤ nI 3 then nI 23 else nI 25)) → Q h43 := by
    intro j g hj e r h43 e43
    have hn := r.2.2.1.1
    rw [e, Nat.add_sub_cancel_left] at hq
    rw [r.2.2.2.2.1, r.2.2.2.1, nI_subN (by omega), Nat.add_sub_cancel_left] at e43
    by_cases y : 3 < j
    · rw [if_pos y] at hq
      rw [if_neg (nI_ge y (by omega))] at e43
      exact hq h43 (by rw [e43]; exact RM_9 r)
    · rw [if_neg y] at hq
      rw [if_pos (nI_le (by omega) (by omega))] at e43
      exact hq h43 (by rw [e43]; exact RM_9 r)
  intro k
  induction k with
  | zero =>
    intro j g hk hs r
    have hn := r.2.2.1.1
    have hT : ∀ k, k < n → T k < 256 := fun k hk => (r.2.2.1.2.2 k hk).1
    have e : sk isDi T n (a + j) = a + j := sk_stop (by omega)
    have f := fin j g (by omega) (by rw [← hs, e]) r
    unfold wX10_next_146
    rw [r.2.2.2.2.1]
    refine ⟨S_223 r.1, m_see r (by omega) (m_digit hT ?_)⟩
    rw [if_neg (by omega)]
    exact ⟨fun _ => ⟨S_223 r.1, f⟩, fun z => absurd nI_0 z⟩
  | succ k ih =>
    intro j g hk hs r
    have hn := r.2.2.1.1
    have hT : ∀ k, k < n → T k < 256 := fun k hk => (r.2.2.1.2.2 k hk).1
    unfold wX10_next_146
    rw [r.2.2.2.2.1]
    refine ⟨S_223 r.1, m_see r (by omega) (m_digit hT ?_)⟩
    by_cases q : isDi (T (a + j)) = true
    · have hs2 : sk isDi T n (a + (j + 1)) = sk isDi T n a := by rw [← hs]; exact (sk_step (by omega) q).symm
      have ev : nuV T a (j + 1) = if j < 3 then 10 * nuV T a j + (T (a + j) - 48) else nuV T a j := rfl
      have g0 := ih (j + 1)
      rw [ev] at g0
      rw [if_pos ⟨by omega, q⟩]
      have d := of_decide_eq_true q
      refine ⟨fun z => absurd z (by decide), fun _ => ⟨S_223 r.1, fun z => ?_, fun z => ?_⟩⟩
      · rw [r.2.2.2.2.1, r.2.2.2.1, nI_subN (by omega), Nat.add_sub_cancel_left] at z
        have y : ¬ j < 3 := fun y => absurd z (nI_ge y (by omega))
        rw [if_neg y] at g0
        refine ⟨S_223 r.1, fun h47 e47 => g0 h47 (by omega) hs2 ?_⟩
        rw [r.2.2.2.2.1, nI_add] at e47
        rw [e47]
        exact RM_7 r
      · rw [r.2.2.2.2.1, r.2.2.2.1, nI_subN (by omega), Nat.add_sub_cancel_left] at z
        have y : j < 3 := Nat.lt_of_not_le (fun y => z (nI_le y (by omega)))
        rw [if_pos y] at g0
        rw [r.2.2.2.2.1]
        refine m_see r (by omega) ⟨S_223 r.1, fun h51 e51 => ⟨?_, fun h47 e47 => g0 h47 (by omega) hs2 ?_⟩⟩
        · rw [e51]; exact S_223 r.1
        · rw [if_pos (by omega), r.2.2.2.2.2.2.1, nI_mul, nI_add, nI_subN (by omega), show 10 * nuV T a j + T (a + j) - 48 = 10 * nuV T a j + (T (a + j) - 48) from by omega] at e51
          have r51 : RM h0 h51 T n (nI a) (nI (a + j)) kd (nI (10 * nuV T a j + (T (a + j) - 48))) wr wa := by rw [e51]; exact RM_10 r
          rw [r51.2.2.2.2.1, nI_add] at e47
          rw [e47]
          exact RM_7 r51
    · rw [if_neg (fun z => q z.2)]
      have e : sk isDi T n (a + j) = a + j := sk_stop (fun z => q z.2)
      exact ⟨fun _ => ⟨S_223 r.1, fin j g (by omega) (by rw [← hs, e]) r⟩, fun z => absurd nI_0 z⟩
theorem m_next254 {Q : MH → Prop} {h0 : MH} {T : Nat → Nat} {n a : Nat} {b nu wr wa : Int32} (ha : a < n) (hT : T a < 256) (hq : ∀ g, RM h0 g T n (nI a) b (nI (sgK (T a))) nu wr wa → Q g) : ∀ m k g, k + m = 12 → RM h0 g T n (nI a) b (nI (sgP (T a) k)) nu wr wa → wX10_next_254 Q (m + 1) 223 (nI k) g := by
  intro m
  induction m with
  | zero =>
    intro k g hk r
    have hk : k = 12 := by omega
    subst hk
    rw [sgP_12 _ hT] at r
    unfold wX10_next_254
    rw [key_len.2]
    exact ⟨by omega, fun _ => hq g r, fun z => absurd (by decide) z⟩
  | succ m ih =>
    intro k g hk r
    have hn := r.2.2.1.1
    have g0 := ih (k + 1)
    have es : sgP (T a) (k + 1) = if T a = SGL.getD k 0 then 30 + k else sgP (T a) k := rfl
    obtain ⟨c1, c2⟩ := sg_ch k (by omega)
    unfold wX10_next_254
    rw [key_len.2, r.2.2.2.1, nI_add]
    refine ⟨by omega, fun z => absurd z (nI_ge (by omega) (by omega)), fun _ => ⟨S_223 r.1, m_see r (by omega) ⟨by omega, vp_in_nI (by omega) (by omega), ?_⟩⟩⟩
    rw [if_pos ha, nI_clamp (by omega), c1, nI_eq (by omega) (by omega)]
    refine ⟨fun y => ?_, fun y => ⟨S_223 r.1, fun h32 e32 => ?_⟩⟩
    · rw [es, if_neg y] at g0
      exact g0 g (by omega) r
    · rw [es, if_pos y] at g0
      rw [nI_add] at e32
      refine g0 h32 (by omega) ?_
      rw [e32]
      exact RM_9 r
theorem m_next {Q : MH → Prop} {h0 g : MH} {T : Nat → Nat} {n p : Nat} {a kd nu wa : Int32} (hp : p ≤ n) (r : RM h0 g T n a (nI p) kd nu 0 wa) (hq : ∀ g, RmT h0 g T n (tkN T n p) → Q g) : wX10_next 223 g Q := by
  have hn := r.2.2.1.1
  have hT : ∀ k, k < n → T k < 256 := fun k hk => (r.2.2.1.2.2 k hk).1
  have fin : ∀ c g, c ≤ n → sk isBl T n p = c → RM h0 g T n (nI c) (nI p) kd nu 0 wa → ∀ h12, h12 = sI g 223 7 (hI g 223 6) → (hI h12 223 6 < hI h12 223 8 → wX10_see 223 (hI h12 223 6) h12 (fun r13 h14 => wX10_isSmall r13 h14 (fun r15 h16 => (r15 = 0 → hS h16 223 = (1, 10) ∧ wX10_see 223 (hI h16 223 6) h16 (fun r18 h19 => wX10_isDigit r18 h19 (fun r20 h21 => (r20 = 0 → hS h21 223 = (1, 10) ∧ ∀ h23, h23 = sI h21 223 7 ((hI h21 223 7 + nI 1)) → ∀ h24, h24 = sI h23 223 9 (nI 25) → ∃ m33, wX10_next_254 Q m33 223 (nI 0) h24) ∧ (¬ (r20 = 0) → hS h21 223 = (1, 10) ∧ ∀ h35, h35 = sI h21 223 10 (nI 0) → ∃ m52, wX10_next_146 Q m52 223 h35)))) ∧ (¬ (r15 = 0) → ∃ m65, wX10_next_89 Q m65 223 h16)))) ∧ (¬ (hI h12 223 6 < hI h12 223 8) → ∀ h66, h66 = sI h12 223 9 (nI 24) → Q h66) := by
    intro c g hc e r h12 e12
    have hq2 : ∀ g, RmT h0 g T n (tkAt T n c) → Q g := fun g rg => hq g (by unfold tkN; rw [e]; exact rg)
    rw [r.2.2.2.1] at e12
    have r12 : RM h0 h12 T n (nI c) (nI c) kd nu 0 wa := by rw [e12]; exact RM_7 r
    rw [r12.2.2.2.1, r12.2.2.1.2.1]
    unfold tkAt at hq2
    by_cases q : c < n
    · rw [if_neg (fun z => z q)] at hq2
      refine ⟨fun _ => m_see r12 (by omega) (m_small hT ?_), fun z => absurd (nI_lt q (by omega)) z⟩
      by_cases l : isLe (T c) = true
      · rw [if_pos l] at hq2
        rw [if_pos ⟨q, l⟩]
        have kk := keyK_lt T c (sk isLe T n c)
        exact ⟨fun z => absurd z (by decide), fun _ => ⟨_, m_next89 hc (fun g2 r2 => hq2 g2 ⟨nu, wa, r2, fun z => by have z : keyK T c (sk isLe T n c) = 23 := z; omega⟩) (n - c) c h12 (by omega) (Nat.le_refl _) rfl r12⟩⟩
      · rw [if_neg l] at hq2
        rw [if_neg (fun z => l z.2)]
        refine ⟨fun _ => ⟨S_223 r12.1, ?_⟩, fun z => absurd nI_0 z⟩
        rw [r12.2.2.2.1]
        refine m_see r12 (by omega) (m_digit hT ?_)
        by_cases d : isDi (T c) = true
        · rw [if_pos d] at hq2
          rw [if_pos ⟨q, d⟩]
          refine ⟨fun z => absurd z (by decide), fun _ => ⟨S_223 r12.1, fun h35 e35 => ⟨_, m_next146 (kd := kd) hc (fun g2 r2 => hq2 g2 ⟨_, wa, r2, fun _ => rfl⟩) (n - c) 0 h35 (by omega) rfl ?_⟩⟩⟩
          rw [e35]
          exact RM_10 r12
        · rw [if_neg d] at hq2
          rw [if_neg (fun z => d z.2)]
          have gc := sgK_cases (T c)
          refine ⟨fun _ => ⟨S_223 r12.1, fun h23 e23 h24 e24 => ⟨_, m_next254 q (hT c q) (fun g2 r2 => hq2 g2 ⟨nu, wa, r2, fun z => by have z : sgK (T c) = 23 := z; omega⟩) 12 0 h24 (by omega) ?_⟩⟩, fun z => absurd nI_0 z⟩
          rw [r12.2.2.2.2.1, nI_add] at e23
          rw [e24, e23]
          exact RM_9 (RM_7 r12)
    · rw [if_pos q] at hq2
      refine ⟨fun z => absurd z (nI_nlt (by omega) (by omega)), fun _ h66 e66 => hq2 h66 ⟨nu, wa, ?_, fun z => absurd z (by show ¬ (24 : Nat) = 23; omega)⟩⟩
      rw [e66]
      exact RM_9 r12
  have lp : ∀ k c g, c + k = n → sk isBl T n c = sk isBl T n p → RM h0 g T n (nI c) (nI p) kd nu 0 wa → wX10_next_8 Q (k + 1) 223 g := by
    intro k
    induction k with
    | zero =>
      intro c g hk hs r
      have e : sk isBl T n c = c := sk_stop (by omega)
      have f := fin c g (by omega) (by rw [← hs, e]) r
      unfold wX10_next_8
      rw [r.2.2.2.1]
      refine ⟨S_223 r.1, m_see r (by omega) ?_⟩
      rw [if_neg (by omega)]
      refine ⟨fun z => absurd z (by decide), fun _ => ⟨S_223 r.1, ?_⟩⟩
      rw [r.2.2.2.1]
      refine m_see r (by omega) ?_
      rw [if_neg (by omega)]
      refine ⟨fun _ => ⟨S_223 r.1, ?_⟩, fun z => absurd z (by decide)⟩
      exact f
    | succ k ih =>
      intro c g hk hs r
      have hc : c < n := by omega
      have c1 := hT c hc
      have go : isBl (T c) = true → wX10_next_34 Q (wX10_next_8 Q (k + 1)) 223 g := fun q => ⟨S_223 r.1, fun h7 e7 => by
        rw [r.2.2.2.1, nI_add] at e7
        refine ih (c + 1) h7 (by omega) (by rw [← hs]; exact (sk_step hc q).symm) ?_
        rw [e7]
        exact RM_6 r⟩
      have f := fin c g (by omega)
      unfold wX10_next_8
      rw [r.2.2.2.1]
      refine ⟨S_223 r.1, m_see r (by omega) ?_⟩
      rw [if_pos hc, (m8_facts (T c) c1).1]
      refine ⟨fun q => go (decide_eq_true (Or.inl q)), fun q1 => ⟨S_223 r.1, ?_⟩⟩
      rw [r.2.2.2.1]
      refine m_see r (by omega) ?_
      rw [if_pos hc, (m8_facts (T c) c1).2.1]
      refine ⟨fun q2 => ⟨S_223 r.1, ?_⟩, fun q => go (decide_eq_true (Or.inr q))⟩
      have e : sk isBl T n c = c := sk_stop (fun z => by
        have := of_decide_eq_true z.2
        rcases this with u | u
        · exact q1 u
        · exact q2 u)
      exact f (by rw [← hs, e]) r
  refine ⟨S_223 r.1, fun h2 e2 => ⟨_, lp (n - p) p h2 (by omega) rfl ?_⟩⟩
  rw [r.2.2.2.2.1] at e2
  rw [e2]
  exact RM_6 r
theorem m_fails0 {Q : MH → Prop} {h0 g : MH} {T : Nat → Nat} {n : Nat} {a b nu wa x : Int32} {kd : Nat} (hk : kd < 100) (r : RM h0 g T n a b (nI kd) nu 0 wa) (hq : ∀ g2, RM h0 g2 T n a b (nI kd) nu (if kd = 25 then nI 1 else x) a → Q g2) : wX10_fails 223 x g Q := by
  refine ⟨S_223 r.1, fun _ => ⟨S_223 r.1, fun h4 e4 => ?_⟩, fun z => absurd r.2.2.2.2.2.2.2.1 z⟩
  have ex : (if hI g 223 9 = nI 25 then nI 1 else x) = (if kd = 25 then nI 1 else x) := by
    rw [r.2.2.2.2.2.1]
    by_cases y : kd = 25
    · rw [if_pos y, if_pos (by rw [y])]
    · rw [if_neg y, if_neg (fun z => y ((nI_eq (by omega) (by omega)).mp z))]
  rw [ex] at e4
  have r4 : RM h0 h4 T n a b (nI kd) nu (if kd = 25 then nI 1 else x) wa := by rw [e4]; exact RM_11 r
  refine ⟨S_223 r4.1, fun h6 e6 => hq h6 ?_⟩
  rw [r4.2.2.2.1] at e6
  rw [e6]
  exact RM_12 r4
theorem m_fails1 {Q : MH → Prop} {g : MH} {x : Int32} (hl : LX g) (hf : hI g 223 11 ≠ 0) (hq : Q g) : wX10_fails 223 x g Q := ⟨S_223 hl, fun z => absurd z hf, fun _ => hq⟩
theorem m_is0 {Q : Int32 → MH → Prop} {h0 g : MH} {T : Nat → Nat} {n k : Nat} {t : TK} (hk : k < 100) (hkk : tkK t < 100) (r : RmT h0 g T n t) (hq : Q (if tkK t = k then nI 1 else nI 0) g) : wX10_is 223 (nI k) g Q := by
  obtain ⟨nu, wa, r, _⟩ := r
  refine ⟨S_223 r.1, fun z => absurd r.2.2.2.2.2.2.2.1 z, fun _ => ?_⟩
  rw [r.2.2.2.2.2.1]
  by_cases y : tkK t = k
  · rw [if_pos y] at hq
    rw [if_pos (by rw [y])]
    exact ⟨Or.inr (by decide), hq⟩
  · rw [if_neg y] at hq
    rw [if_neg (fun z => y ((nI_eq (by omega) (by omega)).mp z))]
    exact ⟨Or.inl nI_0, hq⟩
theorem m_is1 {Q : Int32 → MH → Prop} {g : MH} {x : Int32} (hl : LX g) (hf : hI g 223 11 ≠ 0) (hq : Q (nI 0) g) : wX10_is 223 x g Q := ⟨S_223 hl, fun _ => hq, fun z => absurd z hf⟩
