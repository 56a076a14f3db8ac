/-! Part ap: the class reads lines: head, link. -/
/-- the net that is being told, at a -/
def NSh (g : MH) (a : Nat) : Prop := hR g 129 5 = some a ∧ 244 ≤ a ∧ a + 11 ≤ hN g ∧ hS g a = (1, 4) ∧ (hR g a 4 = some (a + 1) ∧ hR g a 5 = some (a + 2) ∧ hR g a 6 = some (a + 3) ∧ hR g a 7 = some (a + 4) ∧ hR g a 8 = some (a + 5) ∧ hR g a 9 = some (a + 6)) ∧ hS g (a + 1) = (2, 10) ∧ hS g (a + 2) = (2, 10) ∧ hS g (a + 3) = (2, 10) ∧ hS g (a + 4) = (2, 10) ∧ hS g (a + 5) = (2, 100) ∧ hS g (a + 6) = (3, 10)
def NI (g : MH) (a : Nat) (v : TN) : Prop := (hI g a 0 = nI (tnK v) ∧ hI g a 1 = nI (tnR v) ∧ hI g a 2 = nI (tnN v) ∧ hI g a 3 = nI (tnL v) ∧ hI g a 10 = 0) ∧ ∀ l, l < tnL v → hI g (a + 1) l = nI (tnF v l) ∧ hI g (a + 2) l = nI (tnT v l) ∧ hI g (a + 3) l = nI (tnO v l) ∧ hI g (a + 4) l = nI (tnW v l)
def LwC (g : MH) (v : TN) : Prop := hI g 131 2 = nI (tnB v 0) ∧ hI g 131 3 = nI (tnE v 0) ∧ hI g 131 4 = nI (tnB v 1) ∧ hI g 131 5 = nI (tnE v 1)
def FrC (a : Nat) (h g : MH) : Prop := Fr (fun b => b = 129 ∨ b = 131 ∨ b = 132 ∨ (a ≤ b ∧ b ≤ a + 4)) h g ∧ hI g 129 0 = hI h 129 0
def CTb (hb g : MH) (a : Nat) (T : Nat → Nat) (n m : Nat) (t : TK) (cs : CD) (v : TN) : Prop := PC g g T n m t cs ∧ FrC a hb g ∧ NSh g a ∧ NI g a v
def CT (hb g : MH) (a : Nat) (T : Nat → Nat) (n m : Nat) (t : TK) (cs : CD) (v : TN) : Prop := CTb hb g a T n m t cs v ∧ LwC g v
def CF (hb g : MH) (a : Nat) (e : Nat × Nat) : Prop := LX g ∧ FrC a hb g ∧ 0 < e.1 ∧ e.1 < 5 ∧ hI g 129 1 = nI e.1 ∧ hI g 129 2 = nI e.2
section CTS
variable {hb g : MH} {a : Nat} {T : Nat → Nat} {n m : Nat} {t : TK} {cs : CD} {v : TN}
theorem CT_LX (p : CT hb g a T n m t cs v) : LX g := p.1.1.2.1.1
theorem CTb_move {g2 : MH} {m2 : Nat} {t2 : TK} {cs2 : CD} (p : CTb hb g a T n m t cs v) (f : Fr (fun b => b = 129 ∨ b = 131 ∨ b = 132) g g2) (f0 : hI g2 129 0 = hI g 129 0) (c : PC g2 g2 T n m2 t2 cs2) : CTb hb g2 a T n m2 t2 cs2 v := by
  obtain ⟨_, p2, p3, p4⟩ := p
  have l := p3.2.1
  refine ⟨c, ⟨Fr_trans p2.1 (Fr_mono (fun b hb => by omega) f), f0.trans p2.2⟩, ?_, ?_⟩
  · unfold NSh
    rw [f.1, f.2.1, f.2.2.2.1]
    exact p3
  · unfold NI
    rw [f.2.2.2.2 a (by omega), f.2.2.2.2 (a + 1) (by omega), f.2.2.2.2 (a + 2) (by omega), f.2.2.2.2 (a + 3) (by omega), f.2.2.2.2 (a + 4) (by omega)]
    exact p4
theorem CT_P {g2 : MH} {t2 : TK} {cs2 : CD} (p : CT hb g a T n m t cs v) (c : PC g g2 T n m t2 cs2) : CT hb g2 a T n m t2 cs2 v := by
  have f := c.2.2.1
  refine ⟨CTb_move p.1 f.1 (f.2.1 0 (by omega)) ⟨c.1, c.2.1, FrP_rfl _, c.2.2.2⟩, ?_⟩
  unfold LwC
  rw [f.2.2 2 (by omega), f.2.2 3 (by omega), f.2.2 4 (by omega), f.2.2 5 (by omega)]
  exact p.2
theorem CT_F {g2 : MH} {e : Nat × Nat} (p : CTb hb g a T n m t cs v) (c : PF g g2 e) : CF hb g2 a e := by
  obtain ⟨c1, f, c3, _⟩ := c
  exact ⟨c1, ⟨Fr_trans p.2.1.1 (Fr_mono (fun b hb => by omega) f.1), (f.2.1 0 (by omega)).trans p.2.1.2⟩, c3.1, c3.2.1, c3.2.2.1, c3.2.2.2⟩
theorem CT_adv {Q : MH → Prop} (p : CT hb g a T n m t cs v) (hk : tkK t ≠ 25) (hq : ∀ g2, CT hb g2 a T n m (nx T n t) cs v → Q g2) : wX5_advance 129 g Q := PC_adv p.1.1 hk (fun g2 c => hq g2 (CT_P p c))
theorem CT_pass {Q : Int32 → MH → Prop} {i k : Nat} (p : CT hb g a T n m t cs v) (hc : cs.1 ≤ 900) (hi : i < 32) (h1 : 1 ≤ i) (ek : kdS i = k) (hk : k ≠ 25) (k1 : tkK t = k → (∀ f, eatL T n k t f = f (nx T n t)) → ∀ g2, CT hb g2 a T n m (nx T n t) cs v → Q (nI 1) g2) (k0 : (∀ f, eatL T n k t f = .inl (flt t 2)) → ∀ g2, CF hb g2 a (flt t 2) → Q (nI 0) g2) : wX5_pass 129 i g Q := by
  subst ek
  refine PC_pass p.1.1 hi h1 hk hc (fun e g2 c => k1 e (fun f => ?_) g2 (CT_P p c)) (fun e g2 c => k0 (fun f => ?_) g2 (CT_F p.1 c))
  · unfold eatL; rw [if_pos e]
  · unfold eatL; rw [if_neg e]
theorem CT_num {Q : Int32 → MH → Prop} {lo hi : Nat} {x : Int32} {bad : Nat → Bool} (p : CT hb g a T n m t cs v) (hc : cs.1 ≤ 900) (hl : lo < 1000) (hh : hi < 1000) (hx : ∀ w, w ≤ hi → (((x >>> (nI w &&& 31)) &&& nI 1) = 0 ↔ bad w = false)) (k1 : tkK t = 23 → lo ≤ tkV t → tkV t ≤ hi → (∀ f, numP T n t lo hi bad f = f (tkV t) (nx T n t)) → ∀ g2, CT hb g2 a T n m (nx T n t) cs v → Q (nI (tkV t)) g2) (k0 : ∀ e, (∀ f, numP T n t lo hi bad f = .inl e) → ∀ g2, CF hb g2 a e → Q (-1) g2) : wX5_readNumber 129 (nI lo) (nI hi) x g Q := by
  have hl1 := CT_LX p
  have f := TkOK_f p.1.1.1
  have e9 : hI g 129 9 = if tkK t = 23 then nI (tkV t) else -1 := p.1.1.2.1.2.2.2.2.2.1
  by_cases q : tkK t = 23
  · rw [if_pos q] at e9
    have three : tkV t < lo ∨ hi < tkV t ∨ bad (tkV t) = true → wX5_readNumber_42 Q 129 g := fun z => by
      refine ⟨S_129 hl1, PC_ref p.1.1 (by omega) hc (fun g2 f2 => k0 _ (fun f => ?_) g2 (CT_F p.1 f2))⟩
      unfold numP
      rw [if_neg (by omega), if_pos z]
    unfold wX5_readNumber
    rw [e9]
    refine ⟨S_129 hl1, fun _ => ⟨fun z => three (Or.inl (Nat.lt_of_not_le (fun y => absurd z (by intro y2; exact absurd (nI_le y (by omega)) (by intro y3; exact absurd y2 (Int32.not_lt.mpr y3)))))), fun z => ⟨fun z2 => three (Or.inr (Or.inl (Nat.lt_of_not_le (fun y => absurd z2 (Int32.not_lt.mpr (nI_le y (by omega))))))), fun z2 => ?_⟩⟩, fun z => absurd (show (0 : Int32) ≤ nI (tkV t) from Int32.not_lt.mp (nI_nn (by omega))) z⟩
    have l1 : lo ≤ tkV t := Nat.le_of_not_lt (fun y => z (nI_lt y (by omega)))
    have l2 : tkV t ≤ hi := Nat.le_of_not_lt (fun y => z2 (nI_lt y (by omega)))
    have x1 := hx (tkV t) l2
    refine ⟨fun y => ?_, fun y => three (Or.inr (Or.inr ?_))⟩
    · refine CT_adv p (by omega) (fun g2 c => k1 q l1 l2 (fun f => ?_) g2 c)
      unfold numP
      have b0 := x1.mp y
      rw [if_neg (by omega), if_neg (fun w => ?_)]
      rcases w with w | w | w
      · omega
      · omega
      · rw [b0] at w; exact absurd w (by decide)
    · cases e : bad (tkV t)
      · exact absurd (x1.mpr e) y
      · rfl
  · rw [if_neg q] at e9
    unfold wX5_readNumber
    rw [e9]
    refine ⟨S_129 hl1, fun z => absurd z (by decide), fun _ => PC_ref p.1.1 (by omega) hc (fun g2 f2 => k0 _ (fun f => ?_) g2 (CT_F p.1 f2))⟩
    unfold numP
    rw [if_pos q]
theorem no_bad : ∀ w, ((nI 0 >>> (nI w &&& 31)) &&& nI 1) = 0 ↔ noB w = false := fun w => ⟨fun _ => rfl, fun _ => by rw [nI_0, Int32.zero_shiftRight, Int32.zero_and]⟩
theorem CT_head {Q : Int32 → MH → Prop} (p : CT hb g a T n m t (0, fun _ => 0) ((1, 0, 0, 0), (fun _ => 0, fun _ => 0, fun _ => 0, fun _ => 0), (0, 0, 0, 0))) (k1 : ∀ t2 cs2 v2 g2, headL T n t = .inr (t2, cs2, v2) → CT hb g2 a T n m t2 cs2 v2 → Q (nI 1) g2) (k0 : ∀ e g2, headL T n t = .inl e → CF hb g2 a e → Q (nI 0) g2) : wX5_readHead 129 g Q := by
  unfold headL at k1 k0
  refine ⟨S_129 (CT_LX p), CT_pass (k := 0) p (by show 0 ≤ 900; omega) (by omega) (by omega) rfl (by omega) (fun _ e g p => ⟨fun z => absurd z (by decide), fun _ => ?_⟩) (fun e g f => ⟨fun _ => k0 _ g (e _) f, fun z => absurd nI_0 z⟩)⟩
  rw [e] at k1 k0
  refine ⟨S_129 (CT_LX p), CT_pass (k := 1) p (by show 0 ≤ 900; omega) (by omega) (by omega) rfl (by omega) (fun _ e g p => ⟨fun _ => ?_, fun z => absurd z (by decide)⟩) (fun e g f => ⟨fun z => absurd nI_0 z, fun _ => k0 _ g (e _) f⟩)⟩
  rw [e] at k1 k0
  refine ⟨S_129 (CT_LX p), CT_num p (by show 0 ≤ 900; omega) (by omega) (by omega) (fun w _ => no_bad w) (fun x1 x2 x3 e g p => ⟨fun z => absurd z (nI_nn (by omega)), fun _ => ?_⟩) (fun e0 e g f => ⟨fun _ => k0 _ g (e _) f, fun z => absurd (show (-1 : Int32) < 0 by decide) z⟩)⟩
  rw [e] at k1 k0
  refine ⟨S_129 (CT_LX p), CT_pass (k := 2) p (by show 0 ≤ 900; omega) (by omega) (by omega) rfl (by omega) (fun _ e g p => ⟨fun _ => ?_, fun z => absurd z (by decide)⟩) (fun e g f => ⟨fun z => absurd nI_0 z, fun _ => k0 _ g (e _) f⟩)⟩
  rw [e] at k1 k0
  refine ⟨S_129 (CT_LX p), CT_num p (by show 0 ≤ 900; omega) (by omega) (by omega) (fun w _ => no_bad w) (fun y1 y2 y3 e g p => ⟨fun z => absurd z (nI_nn (by omega)), fun _ => ?_⟩) (fun e0 e g f => ⟨fun _ => k0 _ g (e _) f, fun z => absurd (show (-1 : Int32) < 0 by decide) z⟩)⟩
  rw [e] at k1 k0
  refine ⟨S_129 (CT_LX p), CT_pass (k := 30) p (by show 0 ≤ 900; omega) (by omega) (by omega) rfl (by omega) (fun _ e g p => ⟨fun _ => ?_, fun z => absurd z (by decide)⟩) (fun e g f => ⟨fun z => absurd nI_0 z, fun _ => k0 _ g (e _) f⟩)⟩
  rw [e] at k1
  obtain ⟨⟨p1, p2, p3, p4⟩, p5⟩ := p
  have la := p3.2.1
  refine ⟨S_129 p1.2.1.1, a, p3.1, p3.2.2.2.1, fun h1 e1 h2 e2 h3 e3 => k1 _ _ _ h3 rfl ?_⟩
  have i9 : ∀ b, b ≠ a → hI h3 b = hI g b := fun b hb => by rw [e3, hI_sI_row hb, e2, hI_sI_row hb, e1, hI_sI_row hb]
  have hl3 : LX h3 := by rw [e3, e2, e1]; exact LX_sI (LX_sI (LX_sI p1.2.1.1))
  have f3 : Fr (fun b => b = a) g h3 := by rw [e3, e2, e1]; exact Fr_trans (Fr_trans (Fr_sI rfl) (Fr_sI rfl)) (Fr_sI rfl)
  refine ⟨⟨⟨p1.1, RdT_P p1.2.1 (i9 129 (by omega)) (i9 130 (by omega)) hl3, FrP_rfl _, by rw [i9 129 (by omega)]; exact p1.2.2.2.1, ?_⟩, ⟨Fr_trans p2.1 (Fr_mono (fun b hb => by omega) f3), by rw [i9 129 (by omega)]; exact p2.2⟩, ?_, ?_⟩, ?_⟩
  · unfold CdC
    rw [i9 131 (by omega), i9 132 (by omega)]
    exact p1.2.2.2.2
  · unfold NSh
    rw [f3.1, f3.2.1, f3.2.2.2.1]
    exact p3
  · refine ⟨⟨?_, ?_, ?_, ?_, ?_⟩, fun l hl => absurd hl (by show ¬ l < 0; omega)⟩
    · rw [e3, hI_sI, if_neg (by omega), e2, hI_sI, if_neg (by omega), e1, hI_sI, if_pos ⟨rfl, rfl⟩]; rfl
    · rw [e3, hI_sI, if_neg (by omega), e2, hI_sI, if_pos ⟨rfl, rfl⟩]; rfl
    · rw [e3, hI_sI, if_pos ⟨rfl, rfl⟩]; rfl
    · rw [e3, hI_sI, if_neg (by omega), e2, hI_sI, if_neg (by omega), e1, hI_sI, if_neg (by omega)]; exact p4.1.2.2.2.1
    · rw [e3, hI_sI, if_neg (by omega), e2, hI_sI, if_neg (by omega), e1, hI_sI, if_neg (by omega)]; exact p4.1.2.2.2.2
  · unfold LwC
    rw [i9 131 (by omega)]
    exact p5
end CTS
