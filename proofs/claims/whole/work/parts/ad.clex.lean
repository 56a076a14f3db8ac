/-! Part ad: the class's lexer. -/
set_option maxRecDepth 100000 in
theorem s8_facts : ∀ t, t < 256 → ((sgn8 (nI t) = nI 10 ↔ t = 10) ∧ (sgn8 (nI t) = nI 32 ↔ t = 32) ∧ (if sgn8 (nI t) < nI 97 then nI 0 else (if nI 122 < sgn8 (nI t) then nI 0 else nI 1)) = (if isLe t = true then nI 1 else nI 0) ∧ (if sgn8 (nI t) < nI 48 then nI 0 else (if nI 57 < sgn8 (nI t) then nI 0 else nI 1)) = (if isDi t = true then nI 1 else nI 0)) := by decide +kernel
set_option maxRecDepth 100000 in
theorem s8_sign : ∀ t, t < 256 → ((sgK t = 25 → sgn8 (nI t) ≤ 0 ∨ strIx 0 (((sgn8 (nI t)).toUInt32 % 65536).toInt32) < 0) ∧ (sgK t ≠ 25 → ¬ sgn8 (nI t) ≤ 0 ∧ ¬ strIx 0 (((sgn8 (nI t)).toUInt32 % 65536).toInt32) < 0)) := by decide +kernel
set_option maxRecDepth 100000 in
theorem s8_dig : ∀ t, t < 256 → isDi t = true → sgn8 (nI t) = nI t := by decide +kernel
def TxC (h : MH) (T : Nat → Nat) (n : Nat) : Prop := n ≤ 900 ∧ hI h 129 6 = nI n ∧ ∀ k, k < n → T k < 256 ∧ hI h 130 k = sgn8 (nI (T k))
def FrR (h g : MH) : Prop := Fr (fun b => b = 129) h g ∧ ∀ k, (k = 0 ∨ k = 6 ∨ 10 ≤ k) → hI g 129 k = hI h 129 k
theorem FrR_rfl (h : MH) : FrR h h := ⟨Fr_rfl _ _, fun _ _ => rfl⟩
theorem FrR_trans {h g k : MH} (p : FrR h g) (q : FrR g k) : FrR h k := ⟨Fr_trans p.1 q.1, fun j hj => (q.2 j hj).trans (p.2 j hj)⟩
/-- the reader: text, the token's start, what is behind it, its number, the fault and its place -/
def RD (h0 g : MH) (T : Nat → Nat) (n : Nat) (s b v f pl : Int32) : Prop := LX g ∧ FrR h0 g ∧ TxC g T n ∧ hI g 129 7 = s ∧ hI g 129 8 = b ∧ hI g 129 9 = v ∧ hI g 129 1 = f ∧ hI g 129 2 = pl
theorem FrR_sI {g : MH} {k : Nat} {x : Int32} (hk : k = 1 ∨ k = 2 ∨ k = 7 ∨ k = 8 ∨ k = 9) : FrR g (sI g 129 k x) := ⟨Fr_sI rfl, fun j hj => by rw [hI_sI, if_neg (by omega)]⟩
theorem TxC_FrR {h g : MH} {T : Nat → Nat} {n : Nat} (f : FrR h g) (t : TxC h T n) : TxC g T n := ⟨t.1, by rw [f.2 6 (by omega)]; exact t.2.1, fun k hk => by rw [Fr_I f.1 (by omega)]; exact t.2.2 k hk⟩
section RDs
variable {h0 g : MH} {T : Nat → Nat} {n : Nat} {s b v f pl x : Int32}
theorem RD_7 (r : RD h0 g T n s b v f pl) : RD h0 (sI g 129 7 x) T n x b v f pl := by
  obtain ⟨r1, r2, r3, r4, r5, r6, r7, r8⟩ := r
  have fr := FrR_sI (g := g) (k := 7) (x := x) (by omega)
  exact ⟨LX_sI r1, FrR_trans r2 fr, TxC_FrR fr r3, by rw [hI_sI, if_pos ⟨rfl, rfl⟩], by rw [hI_sI, if_neg (by omega)]; exact r5, by rw [hI_sI, if_neg (by omega)]; exact r6, by rw [hI_sI, if_neg (by omega)]; exact r7, by rw [hI_sI, if_neg (by omega)]; exact r8⟩
theorem RD_8 (r : RD h0 g T n s b v f pl) : RD h0 (sI g 129 8 x) T n s x v f pl := by
  obtain ⟨r1, r2, r3, r4, r5, r6, r7, r8⟩ := r
  have fr := FrR_sI (g := g) (k := 8) (x := x) (by omega)
  exact ⟨LX_sI r1, FrR_trans r2 fr, TxC_FrR fr r3, by rw [hI_sI, if_neg (by omega)]; exact r4, by rw [hI_sI, if_pos ⟨rfl, rfl⟩], by rw [hI_sI, if_neg (by omega)]; exact r6, by rw [hI_sI, if_neg (by omega)]; exact r7, by rw [hI_sI, if_neg (by omega)]; exact r8⟩
theorem RD_9 (r : RD h0 g T n s b v f pl) : RD h0 (sI g 129 9 x) T n s b x f pl := by
  obtain ⟨r1, r2, r3, r4, r5, r6, r7, r8⟩ := r
  have fr := FrR_sI (g := g) (k := 9) (x := x) (by omega)
  exact ⟨LX_sI r1, FrR_trans r2 fr, TxC_FrR fr r3, by rw [hI_sI, if_neg (by omega)]; exact r4, by rw [hI_sI, if_neg (by omega)]; exact r5, by rw [hI_sI, if_pos ⟨rfl, rfl⟩], by rw [hI_sI, if_neg (by omega)]; exact r7, by rw [hI_sI, if_neg (by omega)]; exact r8⟩
theorem RD_1 (r : RD h0 g T n s b v f pl) : RD h0 (sI g 129 1 x) T n s b v x pl := by
  obtain ⟨r1, r2, r3, r4, r5, r6, r7, r8⟩ := r
  have fr := FrR_sI (g := g) (k := 1) (x := x) (by omega)
  exact ⟨LX_sI r1, FrR_trans r2 fr, TxC_FrR fr r3, by rw [hI_sI, if_neg (by omega)]; exact r4, by rw [hI_sI, if_neg (by omega)]; exact r5, by rw [hI_sI, if_neg (by omega)]; exact r6, by rw [hI_sI, if_pos ⟨rfl, rfl⟩], by rw [hI_sI, if_neg (by omega)]; exact r8⟩
theorem RD_2 (r : RD h0 g T n s b v f pl) : RD h0 (sI g 129 2 x) T n s b v f x := by
  obtain ⟨r1, r2, r3, r4, r5, r6, r7, r8⟩ := r
  have fr := FrR_sI (g := g) (k := 2) (x := x) (by omega)
  exact ⟨LX_sI r1, FrR_trans r2 fr, TxC_FrR fr r3, by rw [hI_sI, if_neg (by omega)]; exact r4, by rw [hI_sI, if_neg (by omega)]; exact r5, by rw [hI_sI, if_neg (by omega)]; exact r6, by rw [hI_sI, if_neg (by omega)]; exact r7, by rw [hI_sI, if_pos ⟨rfl, rfl⟩]⟩
theorem n_refuse0 {Q : Int32 → MH → Prop} (r : RD h0 g T n s b v 0 pl) (hq : ∀ g2, RD h0 g2 T n s b v x s → Q (nI 0) g2) : wX5_refuse 129 x g Q := by
  refine ⟨S_129 r.1, fun z => absurd r.2.2.2.2.2.2.1 z, fun _ h2 e2 h3 e3 => ?_⟩
  have r2 : RD h0 h2 T n s b v x pl := by rw [e2]; exact RD_1 r
  rw [r2.2.2.2.1] at e3
  refine hq h3 ?_
  rw [e3]
  exact RD_2 r2
theorem n_refuse1 {Q : Int32 → MH → Prop} (hl : LX g) (hf : hI g 129 1 ≠ 0) (hq : Q (nI 0) g) : wX5_refuse 129 x g Q :=
  ⟨S_129 hl, fun _ => hq, fun z => absurd z hf⟩
end RDs
/-- the class's reader has this token at hand -/
def RdT (h0 g : MH) (T : Nat → Nat) (n : Nat) (t : TK) : Prop := RD h0 g T n (nI (tkA t)) (nI (if tkK t = 25 then tkA t else tkB t)) (if tkK t = 23 then nI (tkV t) else -1) (if tkK t = 25 then nI 1 else 0) (if tkK t = 25 then nI (tkA t) else -1)
theorem n_adv94 {Q : MH → Prop} {h0 : MH} {T : Nat → Nat} {n a : Nat} {v f pl : Int32} (hq : ∀ g, RD h0 g T n (nI a) (nI (sk isLe T n a)) v f pl → Q g) : ∀ k p g, p + k = n → sk isLe T n p = sk isLe T n a → RD h0 g T n (nI a) (nI p) v f pl → wX5_advance_94 Q (k + 1) 129 g := by
  intro k
  induction k with
  | zero =>
    intro p g hk hs r
    have hn := r.2.2.1.1
    have e : sk isLe T n p = p := sk_stop (by omega)
    unfold wX5_advance_94
    rw [r.2.2.1.2.1, r.2.2.2.2.1]
    refine ⟨S_129 r.1, fun _ => hq g ?_, fun z => absurd (nI_le (by omega) (by omega)) z⟩
    rw [← hs, e]
    exact r
  | succ k ih =>
    intro p g hk hs r
    have hn := r.2.2.1.1
    have hp : p < n := by omega
    obtain ⟨c1, c2⟩ := r.2.2.1.2.2 p hp
    unfold wX5_advance_94
    rw [r.2.2.1.2.1, r.2.2.2.2.1, nI_clamp (by omega)]
    refine ⟨S_129 r.1, fun z => absurd z (nI_ge hp (by omega)), fun _ => ⟨130, R_129_3 r.1, 900, S_130 r.1, vp_in_nI (by omega) (by omega), ?_⟩⟩
    unfold wX5_isLetter
    rw [c2, (s8_facts (T p) c1).2.2.1]
    by_cases q : isLe (T p) = true
    · rw [if_pos q]
      refine ⟨Or.inr (by decide), fun z => absurd z (by decide), fun _ => ⟨S_129 r.1, fun h32 e32 => ?_⟩⟩
      rw [r.2.2.2.2.1, nI_add] at e32
      refine ih (p + 1) h32 (by omega) (by rw [← hs]; exact (sk_step hp q).symm) ?_
      rw [e32]
      exact RD_8 r
    · rw [if_neg q]
      refine ⟨Or.inl nI_0, fun _ => hq g ?_, fun z => absurd nI_0 z⟩
      have e : sk isLe T n p = p := sk_stop (fun z => q z.2)
      rw [← hs, e]
      exact r
theorem n_digits {Q : MH → Prop} {h0 : MH} {T : Nat → Nat} {n a : Nat} (ha : a ≤ n) (hq : ∀ g, RD h0 g T n (nI a) (nI (if 3 < sk isDi T n a - a then a else sk isDi T n a)) (if 3 < sk isDi T n a - a then -1 else nI (nuV T a (sk isDi T n a - a))) (if 3 < sk isDi T n a - a then nI 1 else 0) (if 3 < sk isDi T n a - a then nI a else -1) → Q g) : ∀ k j g, a + j + k = n → sk isDi T n (a + j) = sk isDi T n a → RD h0 g T n (nI a) (nI (a + j)) (-1) 0 (-1) → wX5_readDigits_2 Q (k + 1) 129 (nI (nuV T a j)) g := by
  have fin : ∀ j g, a + j ≤ n → sk isDi T n a = a + j → RD h0 g T n (nI a) (nI (a + j)) (-1) 0 (-1) → wX5_readDigits_76 Q 129 (nI (nuV T a j)) g := by
    intro j g hj e r
    have hn := r.2.2.1.1
    rw [e, Nat.add_sub_cancel_left] at hq
    unfold wX5_readDigits_76
    rw [r.2.2.2.2.1, r.2.2.2.1, nI_subN (by omega), Nat.add_sub_cancel_left]
    by_cases y : 3 < j
    · rw [if_pos y, if_pos y, if_pos y, if_pos y] at hq
      refine ⟨S_129 r.1, fun z => absurd z (nI_ge y (by omega)), fun _ h4 e4 => ?_⟩
      have r4 : RD h0 h4 T n (nI a) (nI a) (-1) 0 (-1) := by rw [e4]; exact RD_8 r
      exact n_refuse0 r4 hq
    · rw [if_neg y, if_neg y, if_neg y, if_neg y] at hq
      refine ⟨S_129 r.1, fun _ h3 e3 => hq h3 ?_, fun z => absurd (nI_le (by omega) (by omega)) z⟩
      rw [e3]
      exact RD_9 r
  intro k
  induction k with
  | zero =>
    intro j g hk hs r
    have hn := r.2.2.1.1
    have e : sk isDi T n (a + j) = a + j := sk_stop (by omega)
    unfold wX5_readDigits_2
    rw [r.2.2.1.2.1, r.2.2.2.2.1]
    exact ⟨S_129 r.1, fun _ => fin j g (by omega) (by rw [← hs, e]) r, fun z => absurd (nI_le (by omega) (by omega)) z⟩
  | succ k ih =>
    intro j g hk hs r
    have hn := r.2.2.1.1
    have hp : a + j < n := by omega
    obtain ⟨c1, c2⟩ := r.2.2.1.2.2 (a + j) hp
    unfold wX5_readDigits_2
    rw [r.2.2.1.2.1, r.2.2.2.2.1, nI_clamp (by omega)]
    refine ⟨S_129 r.1, fun z => absurd z (nI_ge hp (by omega)), fun _ => ⟨130, R_129_3 r.1, 900, S_130 r.1, vp_in_nI (by omega) (by omega), ?_⟩⟩
    unfold wX5_isDigit
    rw [c2, (s8_facts (T (a + j)) c1).2.2.2]
    by_cases q : isDi (T (a + j)) = true
    · have hs2 : sk isDi T n (a + (j + 1)) = sk isDi T n a := by rw [← hs]; exact (sk_step hp q).symm
      have ev : nuV T a (j + 1) = if j < 3 then 10 * nuV T a j + (T (a + j) - 48) else nuV T a j := rfl
      have g0 := ih (j + 1)
      rw [ev] at g0
      rw [if_pos q]
      refine ⟨Or.inr (by decide), fun z => absurd z (by decide), fun _ => ⟨S_129 r.1, fun z => ?_, fun z => ⟨130, R_129_3 r.1, 900, S_130 r.1, by rw [r.2.2.2.2.1]; exact vp_in_nI (by omega) (by omega), ?_⟩⟩⟩
      · rw [r.2.2.2.2.1, r.2.2.2.1, nI_subN (by omega), Nat.add_sub_cancel_left] at z
        have y : ¬ j < 3 := fun y => absurd z (nI_ge y (by omega))
        rw [if_neg y] at g0
        refine ⟨S_129 r.1, fun h16 e16 => g0 h16 (by omega) hs2 ?_⟩
        rw [r.2.2.2.2.1, nI_add] at e16
        rw [e16]
        exact RD_8 r
      · rw [r.2.2.2.2.1, r.2.2.2.1, nI_subN (by omega), Nat.add_sub_cancel_left] at z
        have y : j < 3 := Nat.lt_of_not_le (fun y => z (nI_le y (by omega)))
        have d := of_decide_eq_true q
        rw [if_pos y] at g0
        rw [r.2.2.2.2.1, nI_clamp (by omega), c2, s8_dig _ c1 q, nI_mul, nI_add, nI_subN (by omega), show 10 * nuV T a j + T (a + j) - 48 = 10 * nuV T a j + (T (a + j) - 48) from by omega]
        refine ⟨S_129 r.1, fun h16 e16 => g0 h16 (by omega) hs2 ?_⟩
        rw [r.2.2.2.2.1, nI_add] at e16
        rw [e16]
        exact RD_8 r
    · rw [if_neg q]
      have e : sk isDi T n (a + j) = a + j := sk_stop (fun z => q z.2)
      exact ⟨Or.inl nI_0, fun _ => fin j g (by omega) (by rw [← hs, e]) r, fun z => absurd nI_0 z⟩
theorem n_adv52 {Q : MH → Prop} {h0 g : MH} {T : Nat → Nat} {n a : Nat} {s v : Int32} (ha : a ≤ n) (r : RD h0 g T n s (nI a) v 0 (-1)) (hq : ∀ g, RdT h0 g T n (tkAt T n a) → Q g) : wX5_advance_52 Q 129 g := by
  have hn := r.2.2.1.1
  refine ⟨S_129 r.1, fun h3 e3 h4 e4 => ?_⟩
  rw [r.2.2.2.2.1] at e3
  have r4 : RD h0 h4 T n (nI a) (nI a) (-1) 0 (-1) := by rw [e4, e3]; exact RD_9 (RD_7 r)
  rw [r4.2.2.2.1, r4.2.2.1.2.1, nI_clamp (by omega)]
  by_cases q : a < n
  · refine ⟨fun _ => ⟨130, R_129_3 r4.1, 900, S_130 r4.1, vp_in_nI (by omega) (by omega), ?_⟩, fun z => absurd (nI_lt q (by omega)) z⟩
    obtain ⟨c1, c2⟩ := r4.2.2.1.2.2 a q
    unfold wX5_isLetter
    rw [c2, (s8_facts (T a) c1).2.2.1]
    unfold tkAt at hq
    rw [if_neg (fun z => z q)] at hq
    by_cases l : isLe (T a) = true
    · rw [if_pos l] at hq
      rw [if_pos l]
      have kk := keyK_lt T a (sk isLe T n a)
      refine ⟨Or.inr (by decide), fun z => absurd z (by decide), fun _ => ⟨_, n_adv94 (fun g2 r2 => hq g2 ?_) (n - a) a h4 (by omega) rfl r4⟩⟩
      unfold RdT tkK tkA tkB tkV
      rw [if_neg (by show ¬ keyK T a (sk isLe T n a) = 25; omega), if_neg (by show ¬ keyK T a (sk isLe T n a) = 23; omega), if_neg (by show ¬ keyK T a (sk isLe T n a) = 25; omega), if_neg (by show ¬ keyK T a (sk isLe T n a) = 25; omega)]
      exact r2
    · rw [if_neg l] at hq
      rw [if_neg l]
      refine ⟨Or.inl nI_0, fun _ => ?_, fun z => absurd nI_0 z⟩
      unfold wX5_isDigit
      rw [(s8_facts (T a) c1).2.2.2]
      by_cases d : isDi (T a) = true
      · rw [if_pos d] at hq
        rw [if_pos d]
        refine ⟨Or.inr (by decide), fun z => absurd z (by decide), fun _ => ⟨S_129 r4.1, _, n_digits ha (fun g2 r2 => hq g2 ?_) (n - a) 0 h4 (by omega) rfl r4⟩⟩
        unfold RdT tkK tkA tkB tkV
        by_cases y : 3 < sk isDi T n a - a
        · rw [if_pos y, if_pos y, if_pos y, if_pos y] at r2
          rw [if_pos y]
          exact r2
        · rw [if_neg y, if_neg y, if_neg y, if_neg y] at r2
          rw [if_neg y]
          exact r2
      · rw [if_neg d] at hq
        rw [if_neg d]
        refine ⟨Or.inl nI_0, fun _ => ?_, fun z => absurd nI_0 z⟩
        have sg := s8_sign (T a) c1
        have bad : sgK (T a) = 25 → wX5_advance_174 Q 129 h4 := fun y => ⟨S_129 r4.1, n_refuse0 r4 (fun g2 r2 => hq g2 (by
          unfold RdT tkK tkA tkB tkV
          rw [if_pos y, if_neg (by show ¬ sgK (T a) = 23; omega), if_pos y, if_pos y]
          exact r2))⟩
        by_cases y : sgK (T a) = 25
        · refine ⟨fun _ => bad y, fun z => ⟨by omega, fun _ => bad y, fun w => ?_⟩⟩
          rcases sg.1 y with u | u
          · exact absurd u z
          · exact absurd u w
        · have sg2 := sg.2 y
          refine ⟨fun z => absurd z sg2.1, fun _ => ⟨by omega, fun z => absurd z sg2.2, fun _ => ⟨S_129 r4.1, fun h19 e19 => hq h19 ?_⟩⟩⟩
          have gc := sgK_cases (T a)
          rw [r4.2.2.2.2.1, nI_add] at e19
          unfold RdT tkK tkA tkB tkV
          rw [if_neg y, if_neg (by show ¬ sgK (T a) = 23; omega), if_neg y, if_neg y, e19]
          exact RD_8 r4
  · refine ⟨fun z => absurd z (nI_nlt (by omega) (by omega)), fun _ => hq h4 ?_⟩
    unfold tkAt
    rw [if_pos q]
    exact r4
theorem n_advance {Q : MH → Prop} {h0 g : MH} {T : Nat → Nat} {n p : Nat} {s v : Int32} (hp : p ≤ n) (r : RD h0 g T n s (nI p) v 0 (-1)) (hq : ∀ g, RdT h0 g T n (tkN T n p) → Q g) : wX5_advance 129 g Q := by
  have hn := r.2.2.1.1
  have lp : ∀ k p' g, p' + k = n → sk isBl T n p' = sk isBl T n p → RD h0 g T n s (nI p') v 0 (-1) → wX5_advance_0 Q (k + 1) 129 g := by
    have fin : ∀ p' g, p' ≤ n → sk isBl T n p = p' → RD h0 g T n s (nI p') v 0 (-1) → wX5_advance_52 Q 129 g := fun p' g h1 e r => n_adv52 h1 r (fun g2 r2 => hq g2 (by unfold tkN; rw [e]; exact r2))
    intro k
    induction k with
    | zero =>
      intro p' g hk hs r
      have e : sk isBl T n p' = p' := sk_stop (by omega)
      unfold wX5_advance_0
      rw [r.2.2.1.2.1, r.2.2.2.2.1]
      exact ⟨S_129 r.1, fun _ => fin p' g (by omega) (by rw [← hs, e]) r, fun z => absurd (nI_le (by omega) (by omega)) z⟩
    | succ k ih =>
      intro p' g hk hs r
      have hp : p' < n := by omega
      obtain ⟨c1, c2⟩ := r.2.2.1.2.2 p' hp
      have go : isBl (T p') = true → wX5_advance_39 Q (wX5_advance_0 Q (k + 1)) 129 g := fun q => ⟨S_129 r.1, fun h40 e40 => by
        rw [r.2.2.2.2.1, nI_add] at e40
        refine ih (p' + 1) h40 (by omega) (by rw [← hs]; exact (sk_step hp q).symm) ?_
        rw [e40]
        exact RD_8 r⟩
      unfold wX5_advance_0
      rw [r.2.2.1.2.1, r.2.2.2.2.1, nI_clamp (by omega)]
      refine ⟨S_129 r.1, fun z => absurd z (nI_ge hp (by omega)), fun _ => ⟨130, R_129_3 r.1, 900, S_130 r.1, vp_in_nI (by omega) (by omega), ?_⟩⟩
      rw [c2, (s8_facts (T p') c1).1, (s8_facts (T p') c1).2.1]
      refine ⟨fun q => go (decide_eq_true (Or.inl q)), fun q1 => ⟨vp_in_nI (by omega) (by omega), fun q2 => ?_, fun q => go (decide_eq_true (Or.inr q))⟩⟩
      have e : sk isBl T n p' = p' := sk_stop (fun z => by
        have := of_decide_eq_true z.2
        rcases this with u | u
        · exact q1 u
        · exact q2 u)
      exact fin p' g (by omega) (by rw [← hs, e]) r
  exact ⟨_, lp (n - p) p g (by omega) rfl r⟩
