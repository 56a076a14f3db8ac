/-! Part ai: the class's parser: its state, its small steps. -/
/-- the class's code for the reference's -/
def ccl (c : Nat) : Nat := if c < 1005 then c else if c = 1005 then 1003 else if c = 1006 then 1004 else if c = 3000 then 1005 else if c = 3001 then 1006 else if c = 3002 then 1007 else if c = 3003 then 1008 else if c = 3004 then 1009 else if c = 3005 then 1010 else if c = 3006 then 1013 else if c = 3007 then 1011 else if c = 3008 then 1012 else 1014
def FrP (h g : MH) : Prop := Fr (fun b => b = 129 ∨ b = 131 ∨ b = 132) h g ∧ (∀ k, (k = 0 ∨ k = 6 ∨ 10 ≤ k) → hI g 129 k = hI h 129 k) ∧ ∀ k, k ≠ 1 → hI g 131 k = hI h 131 k
theorem FrP_rfl (h : MH) : FrP h h := ⟨Fr_rfl _ _, fun _ _ => rfl, fun _ _ => rfl⟩
theorem FrP_trans {h g k : MH} (p : FrP h g) (q : FrP g k) : FrP h k := ⟨Fr_trans p.1 q.1, fun j hj => (q.2.1 j hj).trans (p.2.1 j hj), fun j hj => (q.2.2 j hj).trans (p.2.2 j hj)⟩
theorem FrP_R {h g : MH} (p : FrR h g) : FrP h g := ⟨Fr_mono (fun b z => Or.inl z) p.1, p.2, fun k _ => Fr_I p.1 (by omega) k⟩
/-- the code laid so far -/
def CdC (g : MH) (cs : CD) : Prop := hI g 131 1 = nI cs.1 ∧ ∀ i, i < cs.1 → hI g 132 i = nI (ccl (cs.2 i))
def PC (hb g : MH) (T : Nat → Nat) (n m : Nat) (t : TK) (cs : CD) : Prop := TkOK T n t ∧ RdT g g T n t ∧ FrP hb g ∧ hI g 129 10 = nI m ∧ CdC g cs
def PF (hb g : MH) (e : Nat × Nat) : Prop := LX g ∧ FrP hb g ∧ (0 < e.1 ∧ e.1 < 5 ∧ hI g 129 1 = nI e.1 ∧ hI g 129 2 = nI e.2) ∧ ∃ k, k ≤ 900 ∧ hI g 131 1 = nI k
theorem RdT_self {h0 g : MH} {T : Nat → Nat} {n : Nat} {t : TK} (r : RdT h0 g T n t) : RdT g g T n t := ⟨r.1, FrR_rfl g, r.2.2⟩
theorem CdC_R {h g : MH} {cs : CD} (p : FrR h g) (c : CdC h cs) : CdC g cs := ⟨by rw [Fr_I p.1 (by omega)]; exact c.1, fun i hi => by rw [Fr_I p.1 (by omega)]; exact c.2 i hi⟩
theorem PC_isAt {Q : Int32 → MH → Prop} {hb g : MH} {T : Nat → Nat} {n m i : Nat} {t : TK} {cs : CD} (p : PC hb g T n m t cs) (hi : i < 32) (h1 : 1 ≤ i) (hq : Q (if tkK t = kdS i then nI 1 else nI 0) g) : wX5_isAt 129 i g Q := by
  have e := p.1.2
  have r := p.2.1
  rw [e] at r hq
  exact n_isAt p.1.1 hi h1 r hq
theorem PC_adv {Q : MH → Prop} {hb g : MH} {T : Nat → Nat} {n m : Nat} {t : TK} {cs : CD} (p : PC hb g T n m t cs) (hk : tkK t ≠ 25) (hq : ∀ g2, PC hb g2 T n m (nx T n t) cs → Q g2) : wX5_advance 129 g Q := by
  obtain ⟨p1, p2, p3, p4, p5⟩ := p
  have f := TkOK_f p1
  have r := p2
  unfold RdT at r
  rw [if_neg hk, if_neg hk, if_neg hk] at r
  refine n_advance f.2.1 r (fun g2 r2 => hq g2 ⟨TkOK_N f.2.1, RdT_self r2, FrP_trans p3 (FrP_R r2.2.1), ?_, CdC_R r2.2.1 p5⟩)
  rw [r2.2.1.2 10 (by omega)]
  exact p4
/-- a token refused -/
theorem PC_ref {Q : Int32 → MH → Prop} {hb g : MH} {T : Nat → Nat} {n m x : Nat} {t : TK} {cs : CD} (p : PC hb g T n m t cs) (hx : 0 < x ∧ x < 5) (hc : cs.1 ≤ 900) (hq : ∀ g2, PF hb g2 (flt t x) → Q (nI 0) g2) : wX5_refuse 129 (nI x) g Q := by
  obtain ⟨p1, p2, p3, p4, p5⟩ := p
  unfold flt at hq
  by_cases q : tkK t = 25
  · rw [if_pos q] at hq
    have r := p2
    unfold RdT at r
    rw [if_pos q, if_pos q, if_pos q] at r
    refine n_refuse1 r.1 (by rw [r.2.2.2.2.2.2.1]; decide) (hq g ⟨r.1, p3, ⟨Nat.one_pos, by show 1 < 5; omega, r.2.2.2.2.2.2.1, r.2.2.2.2.2.2.2⟩, cs.1, hc, p5.1⟩)
  · rw [if_neg q] at hq
    have r := p2
    unfold RdT at r
    rw [if_neg q, if_neg q, if_neg q] at r
    refine n_refuse0 r (fun g2 r2 => hq g2 ⟨r2.1, FrP_trans p3 (FrP_R r2.2.1), ⟨hx.1, hx.2, r2.2.2.2.2.2.2.1, r2.2.2.2.2.2.2.2⟩, cs.1, hc, ?_⟩)
    rw [Fr_I r2.2.1.1 (by omega)]
    exact p5.1
theorem FrP_132 {g : MH} {k : Nat} {x : Int32} : FrP g (sI g 132 k x) := ⟨Fr_sI (Or.inr (Or.inr rfl)), fun j _ => by rw [hI_sI, if_neg (by omega)], fun j _ => by rw [hI_sI, if_neg (by omega)]⟩
theorem FrP_131 {g : MH} {x : Int32} : FrP g (sI g 131 1 x) := ⟨Fr_sI (Or.inr (Or.inl rfl)), fun j _ => by rw [hI_sI, if_neg (by omega)], fun j hj => by rw [hI_sI, if_neg (by omega)]⟩
theorem RdT_P {g g2 : MH} {T : Nat → Nat} {n : Nat} {t : TK} (r : RdT g g T n t) (e : hI g2 129 = hI g 129) (e2 : hI g2 130 = hI g 130) (hl : LX g2) : RdT g2 g2 T n t := by
  obtain ⟨r1, r2, r3, r4, r5, r6, r7, r8⟩ := r
  refine ⟨hl, FrR_rfl _, ⟨r3.1, by rw [e]; exact r3.2.1, by rw [e2]; exact r3.2.2⟩, by rw [e]; exact r4, by rw [e]; exact r5, by rw [e]; exact r6, by rw [e]; exact r7, by rw [e]; exact r8⟩
theorem PC_put {Q : MH → Prop} {hb g : MH} {T : Nat → Nat} {n m x : Nat} {t : TK} {cs : CD} (p : PC hb g T n m t cs) (hc : cs.1 < 900) (hq : ∀ g2, PC hb g2 T n m t (cpu x cs) → Q g2) : wX3_put 131 (nI (ccl x)) g Q := by
  obtain ⟨p1, p2, p3, p4, p5⟩ := p
  have hl := p2.1
  refine ⟨S_131 hl, 132, R_131_0 hl, 900, S_132 hl, fun z => ?_, fun _ => ⟨by rw [p5.1]; exact vp_in_nI (by omega) (by omega), fun h7 e7 h8 e8 => hq h8 ?_⟩⟩
  · rw [p5.1] at z
    exact absurd z (nI_ge hc (by omega))
  · rw [p5.1, nI_clamp (by omega)] at e7
    have i1 : hI h7 131 1 = nI cs.1 := by rw [e7, hI_sI, if_neg (by omega)]; exact p5.1
    rw [i1, nI_add] at e8
    have i9 : hI h8 129 = hI g 129 := by rw [e8, hI_sI_row (by omega), e7, hI_sI_row (by omega)]
    have i0 : hI h8 130 = hI g 130 := by rw [e8, hI_sI_row (by omega), e7, hI_sI_row (by omega)]
    have hl8 : LX h8 := by rw [e8, e7]; exact LX_sI (LX_sI hl)
    refine ⟨p1, RdT_P p2 i9 i0 hl8, FrP_trans p3 (by rw [e8, e7]; exact FrP_trans FrP_132 FrP_131), by rw [i9]; exact p4, by rw [e8, hI_sI, if_pos ⟨rfl, rfl⟩]; rfl, fun i hi => ?_⟩
    have hi : i < cs.1 + 1 := hi
    rw [e8, hI_sI, if_neg (by omega), e7, hI_sI]
    show _ = nI (ccl (if i = cs.1 then x else cs.2 i))
    by_cases y : i = cs.1
    · rw [if_pos ⟨rfl, y⟩, if_pos y]
    · rw [if_neg (fun z => y z.2), if_neg y]
      exact p5.2 i (by omega)
theorem PF_put {Q : MH → Prop} {hb g : MH} {e : Nat × Nat} {x : Int32} (p : PF hb g e) (hq : ∀ g2, PF hb g2 e → Q g2) : wX3_put 131 x g Q := by
  obtain ⟨p1, p2, p3, k, hk, ek⟩ := p
  refine ⟨S_131 p1, 132, R_131_0 p1, 900, S_132 p1, fun z => hq g ⟨p1, p2, p3, k, hk, ek⟩, fun z => ?_⟩
  rw [ek] at z
  have lt : k < 900 := Nat.lt_of_not_le (fun y => z (nI_le y (by omega)))
  refine ⟨by rw [ek]; exact vp_in_nI (by omega) (by omega), fun h7 e7 h8 e8 => hq h8 ?_⟩
  have i1 : hI h7 131 1 = nI k := by rw [e7, hI_sI, if_neg (by omega)]; exact ek
  rw [i1, nI_add] at e8
  refine ⟨by rw [e8, e7]; exact LX_sI (LX_sI p1), FrP_trans p2 (by rw [e8, e7]; exact FrP_trans FrP_132 FrP_131), ⟨p3.1, p3.2.1, ?_, ?_⟩, k + 1, by omega, by rw [e8, hI_sI, if_pos ⟨rfl, rfl⟩]⟩
  · rw [e8, hI_sI, if_neg (by omega), e7, hI_sI, if_neg (by omega)]; exact p3.2.2.1
  · rw [e8, hI_sI, if_neg (by omega), e7, hI_sI, if_neg (by omega)]; exact p3.2.2.2
/-- a token passed -/
theorem PC_pass {Q : Int32 → MH → Prop} {hb g : MH} {T : Nat → Nat} {n m i : Nat} {t : TK} {cs : CD} (p : PC hb g T n m t cs) (hi : i < 32) (h1 : 1 ≤ i) (hk : kdS i ≠ 25) (hc : cs.1 ≤ 900) (k1 : tkK t = kdS i → ∀ g2, PC hb g2 T n m (nx T n t) cs → Q (nI 1) g2) (k0 : tkK t ≠ kdS i → ∀ g2, PF hb g2 (flt t 2) → Q (nI 0) g2) : wX5_pass 129 i g Q := by
  have hl := p.2.1.1
  refine ⟨S_129 hl, PC_isAt p hi h1 ?_⟩
  by_cases q : tkK t = kdS i
  · rw [if_pos q]
    exact ⟨fun _ => ⟨S_129 hl, PC_adv p (by rw [q]; exact hk) (k1 q)⟩, fun z => absurd z (by decide)⟩
  · rw [if_neg q]
    exact ⟨fun z => absurd nI_0 z, fun _ => ⟨S_129 hl, PC_ref p (by omega) hc (fun g2 f2 => ⟨Or.inl nI_0, k0 q g2 f2⟩)⟩⟩
theorem PC_goes {Q : Int32 → MH → Prop} {hb g : MH} {T : Nat → Nat} {n m d : Nat} {t : TK} {cs : CD} (p : PC hb g T n m t cs) (hd : d ≤ 6) (hk : tkK t ≠ 25) (hc : cs.1 ≤ 900) (k1 : d ≠ 6 → ∀ g2, PC hb g2 T n m (nx T n t) cs → Q (nI 1) g2) (k0 : d = 6 → ∀ g2, PF hb g2 (flt t 4) → Q (nI 0) g2) : wX5_goWithin 129 (nI d) g Q := by
  have hl := p.2.1.1
  refine ⟨fun z => ⟨S_129 hl, PC_adv p hk (k1 (fun y => ?_))⟩, fun z => ⟨S_129 hl, PC_ref p (by omega) hc (fun g2 f2 => ⟨Or.inl nI_0, k0 ?_ g2 f2⟩)⟩⟩
  · rw [y] at z
    exact absurd z (by decide)
  · by_cases y : d = 6
    · exact y
    · exact absurd (nI_lt (show d < 6 by omega) (by omega)) z
/-- the word at hand as a code -/
theorem PC_word {Q : Int32 → MH → Prop} {hb g : MH} {T : Nat → Nat} {n m : Nat} {t : TK} {cs : CD} (p : PC hb g T n m t cs) (hm : m < 2) (hq : Q (if wdC m (tkK t) = 9999 then -1 else nI (ccl (wdC m (tkK t)))) g) : wX5_wordCode 129 g Q := by
  have hl := p.2.1.1
  have is : ∀ (i k : Nat) {P : Int32 → MH → Prop}, i < 32 → 1 ≤ i → kdS i = k → P (if tkK t = k then nI 1 else nI 0) g → wX5_isAt 129 i g P := fun i k P h1 h2 e hp => PC_isAt p h1 h2 (by rw [e]; exact hp)
  unfold wdC at hq
  refine ⟨S_129 hl, is 3 2 (by omega) (by omega) rfl ?_⟩
  by_cases q1 : tkK t = 2
  · rw [if_pos q1] at hq ⊢
    exact ⟨fun z => absurd z (by decide), fun _ => hq⟩
  · rw [if_neg q1] at hq ⊢
    refine ⟨fun _ => ⟨S_129 hl, is 6 4 (by omega) (by omega) rfl ?_⟩, fun z => absurd nI_0 z⟩
    by_cases q2 : tkK t = 4
    · rw [if_pos q2] at hq ⊢
      exact ⟨fun z => absurd z (by decide), fun _ => hq⟩
    · rw [if_neg q2] at hq ⊢
      refine ⟨fun _ => ⟨S_129 hl, is 7 5 (by omega) (by omega) rfl ?_⟩, fun z => absurd nI_0 z⟩
      by_cases q3 : tkK t = 5
      · rw [if_pos q3] at hq ⊢
        exact ⟨fun z => absurd z (by decide), fun _ => hq⟩
      · rw [if_neg q3] at hq ⊢
        refine ⟨fun _ => ⟨S_129 hl, ?_⟩, fun z => absurd nI_0 z⟩
        rw [p.2.2.2.1]
        rcases (show m = 0 ∨ m = 1 from by omega) with e | e
        · subst e
          refine ⟨fun _ => ⟨S_129 hl, is 20 12 (by omega) (by omega) rfl ?_⟩, fun z => absurd nI_0 z⟩
          by_cases q4 : tkK t = 12
          · rw [if_pos q4] at hq ⊢
            exact ⟨fun z => absurd z (by decide), fun _ => hq⟩
          · rw [if_neg q4] at hq ⊢
            refine ⟨fun _ => ⟨S_129 hl, ?_⟩, fun z => absurd nI_0 z⟩
            rw [p.2.2.2.1]
            refine ⟨fun _ => ⟨S_129 hl, is 22 13 (by omega) (by omega) rfl ?_⟩, fun z => absurd nI_0 z⟩
            by_cases q5 : tkK t = 13
            · rw [if_pos q5] at hq ⊢
              exact hq
            · rw [if_neg q5] at hq ⊢
              have e9 : (if tkK t = 14 then (if (0 : Nat) = 0 then 9999 else 1005) else if tkK t = 15 then (if (0 : Nat) = 0 then 9999 else 1006) else 9999) = 9999 := by
                by_cases a : tkK t = 14
                · rw [if_pos a]; rfl
                · rw [if_neg a]
                  by_cases b : tkK t = 15
                  · rw [if_pos b]; rfl
                  · rw [if_neg b]
              rw [e9] at hq
              exact hq
        · subst e
          refine ⟨fun z => absurd z (by decide), fun _ => ⟨S_129 hl, is 19 14 (by omega) (by omega) rfl ?_⟩⟩
          have e12 : (if tkK t = 12 then (if (1 : Nat) = 0 then 1003 else 9999) else if tkK t = 13 then (if (1 : Nat) = 0 then 1004 else 9999) else if tkK t = 14 then (if (1 : Nat) = 0 then 9999 else 1005) else if tkK t = 15 then (if (1 : Nat) = 0 then 9999 else 1006) else 9999) = if tkK t = 14 then 1005 else if tkK t = 15 then 1006 else 9999 := by
            by_cases a : tkK t = 12
            · rw [if_pos a, if_neg (by omega), if_neg (by omega), if_neg (by omega)]
            · rw [if_neg a]
              by_cases b : tkK t = 13
              · rw [if_pos b, if_neg (by omega), if_neg (by omega), if_neg (by omega)]
              · rw [if_neg b]
                rfl
          rw [e12] at hq
          by_cases q4 : tkK t = 14
          · rw [if_pos q4] at hq ⊢
            exact ⟨fun z => absurd z (by decide), fun _ => hq⟩
          · rw [if_neg q4] at hq ⊢
            refine ⟨fun _ => ⟨S_129 hl, ?_⟩, fun z => absurd nI_0 z⟩
            rw [p.2.2.2.1]
            refine ⟨fun z => absurd z (by decide), fun _ => ⟨S_129 hl, is 21 15 (by omega) (by omega) rfl ?_⟩⟩
            by_cases q5 : tkK t = 15
            · rw [if_pos q5] at hq ⊢
              exact hq
            · rw [if_neg q5] at hq ⊢
              exact hq
