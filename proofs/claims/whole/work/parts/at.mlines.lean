/-! Part at: the reference reads numbers, links, laws, lines. -/
def FrD (h g : MH) : Prop := Fr (fun b => b = 223 ∨ b = 227) h g ∧ ∀ k, ¬ isPf k → k ≠ 15 → hI g 223 k = hI h 223 k
theorem FrD_rfl (h : MH) : FrD h h := ⟨Fr_rfl _ _, fun _ _ _ => rfl⟩
theorem FrD_trans {h g k : MH} (p : FrD h g) (q : FrD g k) : FrD h k := ⟨Fr_trans p.1 q.1, fun j hj h15 => (q.2 j hj h15).trans (p.2 j hj h15)⟩
theorem FrD_Q {h g : MH} (p : FrQ h g) : FrD h g := ⟨p.1, fun k hk _ => p.2.1 k hk⟩
theorem FrD_227 {g : MH} {k : Nat} {x : Int32} : FrD g (sI g 227 k x) := ⟨Fr_sI (Or.inr rfl), fun j _ _ => by rw [hI_sI, if_neg (by omega)]⟩
/-- the row of the net that is being told -/
def MIv (f : Nat → Int32) (v : TN) : Prop := (f 0 = nI (tnN v) ∧ f 1 = nI (tnK v) ∧ f 2 = nI (tnL v) ∧ f 114 = nI (tnR v)) ∧ (∀ m, m < 2 → f (3 + m) = (if tnB v m < tnE v m then nI 1 else 0) ∧ f (5 + m) = nI (tnB v m) ∧ f (7 + m) = nI (tnE v m - tnB v m)) ∧ (∀ l, l < tnL v → f (9 + 2 * l) = nI (tnF v l) ∧ f (9 + 2 * l + 1) = nI (tnT v l) ∧ f (29 + l) = nI (tnO v l) ∧ f (39 + l) = nI (tnW v l)) ∧ ∀ k, 49 ≤ k → k < 1436 → k ≠ 114 → f k = 0
def MT (hb g : MH) (T : Nat → Nat) (n m : Nat) (t : TK) (cs : CD) (v : TN) : Prop := PM g g T n m t cs ∧ FrD hb g ∧ MIv (hI g 227) v
def MD (hb g : MH) (e : Nat × Nat) : Prop := LX g ∧ FrD hb g ∧ 0 < e.1 ∧ e.1 < 5 ∧ hI g 223 11 = nI e.1 ∧ hI g 223 12 = nI e.2
theorem MIv_cong {f g : Nat → Int32} {v : TN} (e : ∀ k, k < 1436 → g k = f k) (h : MIv f v) (hL : tnL v ≤ 10) : MIv g v := by
  obtain ⟨h1, h2, h3, h4⟩ := h
  refine ⟨by rw [e _ (by omega), e _ (by omega), e _ (by omega), e _ (by omega)]; exact h1, fun m hm => ?_, fun l hl => ?_, fun k a b c => (e k b).trans (h4 k a b c)⟩
  · rw [e _ (by omega), e _ (by omega), e _ (by omega)]; exact h2 m hm
  · rw [e _ (by omega), e _ (by omega), e _ (by omega), e _ (by omega)]; exact h3 l hl
section MTS
variable {hb g : MH} {T : Nat → Nat} {n m : Nat} {t : TK} {cs : CD} {v : TN}
theorem MT_LX (p : MT hb g T n m t cs v) : LX g := RmT_LX p.1.2.1
theorem MT_P {g2 : MH} {t2 : TK} {cs2 : CD} (hL : tnL v ≤ 10) (p : MT hb g T n m t cs v) (c : PM g g2 T n m t2 cs2) : MT hb g2 T n m t2 cs2 v := by
  obtain ⟨c1, c2, c3, c4, c5⟩ := c
  exact ⟨⟨c1, c2, FrQ_rfl _, c4, c5⟩, FrD_trans p.2.1 (FrD_Q c3), MIv_cong c3.2.2 p.2.2 hL⟩
theorem MT_F {g2 : MH} {e : Nat × Nat} (p : MT hb g T n m t cs v) (c : MF g g2 e) : MD hb g2 e := ⟨c.1, FrD_trans p.2.1 (FrD_Q c.2.1), c.2.2⟩
theorem MD_11 {e : Nat × Nat} (p : MD hb g e) : hI g 223 11 ≠ 0 := by
  rw [p.2.2.2.2.1]
  exact fun z => by
    have := (nI_eq0 (by have := p.2.2.2.1; omega)).mp z
    have := p.2.2.1
    omega
theorem MT_next {Q : MH → Prop} (hL : tnL v ≤ 10) (p : MT hb g T n m t cs v) (hq : ∀ g2, MT hb g2 T n m (nx T n t) cs v → Q g2) : wX10_next 223 g Q := PM_next p.1 (fun g2 c => by
  refine hq g2 (MT_P hL p ?_)
  exact c)
/-- a token eaten, or a fault -/
theorem MT_eat {Q : MH → Prop} {k : Nat} (hL : tnL v ≤ 10) (p : MT hb g T n m t cs v) (hk : k < 100) (k1 : tkK t = k → (∀ f, eatL T n k t f = f (nx T n t)) → ∀ g2, MT hb g2 T n m (nx T n t) cs v → Q g2) (k0 : (∀ f, eatL T n k t f = .inl (flt t 2)) → ∀ g2, MD hb g2 (flt t 2) → Q g2) : wX10_eats 223 (nI k) g (fun r h => (¬ (r = 0) → Q h) ∧ (r = 0 → hS h 223 = (1, 10) ∧ wX10_fails 223 (nI 2) h Q)) := by
  refine PM_eats p.1 hk (fun e g2 c => ⟨fun _ => k1 e (fun f => ?_) g2 (MT_P hL p c), fun z => absurd z (by decide)⟩) (fun e => ⟨fun z => absurd nI_0 z, fun _ => ⟨S_223 (MT_LX p), PM_fails p.1 (by omega) (fun g2 c => k0 (fun f => ?_) g2 (MT_F p c))⟩⟩)
  · unfold eatL; rw [if_pos e]
  · unfold eatL; rw [if_neg e]
theorem x_takes {Q : Int32 → MH → Prop} {x y : Int32} (hl : LX g) (hf : hI g 223 11 ≠ 0) (hq : ∀ r, Q r g) : wX10_takes 223 x y g Q := ⟨S_223 hl, m_is1 hl hf ⟨fun z => absurd nI_0 z, fun _ => ⟨S_223 hl, m_fails1 hl hf ⟨S_223 hl, fun _ => hq _, fun z => absurd z hf⟩⟩⟩⟩
theorem x_named {Q : Int32 → MH → Prop} {k x y : Int32} (hl : LX g) (hf : hI g 223 11 ≠ 0) (hq : ∀ r, Q r g) : wX10_named 223 k x y g Q := ⟨S_223 hl, x_eats hl hf ⟨fun z => absurd nI_0 z, fun _ => ⟨S_223 hl, m_fails1 hl hf ⟨S_223 hl, x_takes hl hf hq⟩⟩⟩⟩
theorem MT_takes {Q : Int32 → MH → Prop} {lo hi : Nat} (hL : tnL v ≤ 10) (p : MT hb g T n m t cs v) (hl : lo < 1000) (hh : hi < 1000) (k1 : tkK t = 23 → lo ≤ tkV t → tkV t ≤ hi → (∀ f, numP T n t lo hi noB f = f (tkV t) (nx T n t)) → ∀ g2, MT hb g2 T n m (nx T n t) cs v → Q (nI (tkV t)) g2) (k0 : ∀ e r, (∀ bad f, numP T n t lo hi bad f = .inl e) → ∀ g2, MD hb g2 e → Q r g2) : wX10_takes 223 (nI lo) (nI hi) g Q := by
  have hl1 := MT_LX p
  have f := TkOK_f p.1.1
  have k10 : tkK t = 23 → hI g 223 10 = nI (tkV t) := fun z => by
    obtain ⟨_, ⟨nu, wa, r, q⟩, _⟩ := p.1
    rw [← q z]
    exact r.2.2.2.2.2.2.1
  refine ⟨S_223 hl1, PM_is p.1 (by omega) ?_⟩
  have dead : ∀ e, (∀ bad f, numP T n t lo hi bad f = .inl e) → ∀ g2, MD hb g2 e → wX10_takes_37 Q 223 g2 := fun e h g2 d => ⟨S_223 d.1, fun _ => k0 e _ h g2 d, fun z => absurd z (MD_11 d)⟩
  by_cases q : tkK t = 23
  · rw [if_pos q]
    refine ⟨fun _ => ⟨S_223 hl1, ?_⟩, fun z => absurd z (by decide)⟩
    rw [k10 q]
    refine u_within (fun a b => ⟨fun _ => ⟨S_223 hl1, fun z => absurd (PM_11 p.1) z, fun _ => MT_next hL p (fun g2 c => ?_)⟩, fun z => absurd z (by decide)⟩) (fun z => ⟨fun z => absurd nI_0 z, fun _ => ⟨S_223 hl1, PM_fails p.1 (by omega) (fun g2 c => dead (flt t 3) (fun bad f => ?_) g2 (MT_F p c))⟩⟩)
    · rw [Int32.toInt_toInt64, nI_tI (by omega), nI_tI (by omega)] at a b
      rw [k10 q]
      refine k1 q (by omega) (by omega) (fun f => ?_) g2 c
      unfold numP
      rw [if_neg (by omega), if_neg (fun w => ?_)]
      rcases w with w | w | w
      · omega
      · omega
      · exact absurd w (by unfold noB; decide)
    · rw [Int32.toInt_toInt64, Int32.toInt_toInt64, nI_tI (by omega), nI_tI (by omega), nI_tI (by omega)] at z
      unfold numP
      rw [if_neg (by omega), if_pos]
      omega
  · rw [if_neg q]
    refine ⟨fun z => absurd nI_0 z, fun _ => ⟨S_223 hl1, PM_fails p.1 (by omega) (fun g2 c => dead (flt t 2) (fun bad f => ?_) g2 (MT_F p c))⟩⟩
    unfold numP
    rw [if_pos q]
/-- a word and a number -/
theorem MT_named {Q : Int32 → MH → Prop} {k lo hi : Nat} (hL : tnL v ≤ 10) (p : MT hb g T n m t cs v) (hk : k < 100) (hl : lo < 1000) (hh : hi < 1000) (k1 : ∀ x t2, (∀ f, eatL T n k t (fun t => numP T n t lo hi noB f) = f x t2) → lo ≤ x → x ≤ hi → ∀ g2, MT hb g2 T n m t2 cs v → Q (nI x) g2) (k0 : ∀ e r, (∀ f, eatL T n k t (fun t => numP T n t lo hi noB f) = .inl e) → ∀ g2, MD hb g2 e → Q r g2) : wX10_named 223 (nI k) (nI lo) (nI hi) g Q := by
  refine ⟨S_223 (MT_LX p), MT_eat hL p hk (fun _ e g2 c => ?_) (fun e g2 d => ?_)⟩
  · refine ⟨S_223 (MT_LX c), MT_takes hL c hl hh (fun y1 y2 y3 e2 g3 c3 => k1 _ _ (fun f => by rw [e]; exact e2 f) y2 y3 g3 c3) (fun e0 r e2 g3 d3 => k0 e0 r (fun f => by rw [e]; exact e2 noB f) g3 d3)⟩
  · exact ⟨S_223 d.1, x_takes d.1 (MD_11 d) (fun r => k0 _ r (fun f => e _) g2 d)⟩
end MTS
