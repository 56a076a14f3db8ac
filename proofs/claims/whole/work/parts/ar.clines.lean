/-! Part ar: the class reads a law, a line, all lines. -/
theorem bndL_r {t : TK} {cs : CD} {v : TN} {f : TK → CD → TN → LR} : bndL (.inr (t, cs, v)) f = f t cs v := rfl
theorem TnA_add {v : TN} {a b o w : Nat} (h : TnA v) (hL : tnL v ≠ 10) (ha : a ≤ tnK v - 1) (hb : b ≤ tnK v - 1) : TnA (tnAdd v a b o w) := by
  obtain ⟨h1, h2, h3, h4⟩ := h
  refine ⟨h1, h2, by show tnL v + 1 ≤ 10; omega, fun l hl => ?_⟩
  have hl : l < tnL v + 1 := hl
  show (if l = tnL v then a else tnF v l) < tnK v ∧ (if l = tnL v then b else tnT v l) < tnK v
  by_cases q : l = tnL v
  · rw [if_pos q, if_pos q]; omega
  · rw [if_neg q, if_neg q]; exact h4 l (by omega)
theorem kind_cases {T : Nat → Nat} {n : Nat} {t t2 : TK} {cs cs2 : CD} {v v2 : TN} (ht : TkOK T n t) (hk : tkK t ≠ 24) (h : kindL T n t cs v = .inr (t2, cs2, v2)) : (cs2 = cs ∧ tnL v ≠ 10 ∧ ∃ a b o w, a ≤ tnK v - 1 ∧ b ≤ tnK v - 1 ∧ bdJ v a b = false ∧ 1 ≤ o ∧ o ≤ 9 ∧ w ≤ 2 ∧ v2 = tnAdd v a b o w) ∨ (∃ m, m < 2 ∧ v2 = tnLaw v m cs.1 cs2.1 ∧ ∃ u, TkOK T n u ∧ tkA t + 2 ≤ tkA u ∧ pp T n m (8 * n + 8) (lawX m) 0 u cs = .inr (t2, cs2)) := by
  unfold kindL at h
  by_cases q : tkK t = 3
  · rw [if_pos q] at h; exact Or.inl (link_go ht hk h).2
  · rw [if_neg q] at h
    by_cases q2 : tkK t = 6
    · rw [if_pos q2] at h; exact Or.inr ⟨0, by omega, (law_go ht hk h).2⟩
    · rw [if_neg q2] at h
      by_cases q3 : tkK t = 7
      · rw [if_pos q3] at h; exact Or.inr ⟨1, by omega, (law_go ht hk h).2⟩
      · rw [if_neg q3] at h; exact absurd h (by simp)
theorem TnA_kind {T : Nat → Nat} {n : Nat} {t t2 : TK} {cs cs2 : CD} {v v2 : TN} (ht : TkOK T n t) (hk : tkK t ≠ 24) (h : kindL T n t cs v = .inr (t2, cs2, v2)) (hv : TnA v) : TnA v2 := by
  rcases kind_cases ht hk h with ⟨_, q, a, b, o, w, a1, b1, _, _, _, _, e⟩ | ⟨m, _, e, _⟩
  · rw [e]; exact TnA_add hv q a1 b1
  · rw [e]; exact hv
theorem TnA_line {T : Nat → Nat} {n : Nat} {t t2 : TK} {cs cs2 : CD} {v v2 : TN} (ht : TkOK T n t) (hk : tkK t ≠ 24) (h : lineL T n t cs v = .inr (t2, cs2, v2)) (hv : TnA v) : TnA v2 := by
  obtain ⟨_, u, w, h1, e⟩ := line_go ht hk h
  rw [e]
  exact (TnA_kind ht hk h1 hv : TnA w)
section CTW
variable {hb g : MH} {a : Nat} {T : Nat → Nat} {n m : Nat} {t : TK} {cs : CD} {v : TN}
theorem CT_n (p : CT hb g a T n m t cs v) : n ≤ 900 := p.1.1.2.1.2.2.1.1
theorem CT_131 {g2 : MH} {k : Nat} {x : Int32} {v2 : TN} (p : CT hb g a T n m t cs v) (hk : k ≠ 1) (e : g2 = sI g 131 k x) (l : LwC g2 v2) (e1 : v2.1 = v.1) (e2 : v2.2.1 = v.2.1) : CT hb g2 a T n m t cs v2 := by
  obtain ⟨⟨p1, p2, p3, p4⟩, p5⟩ := p
  have i9 : ∀ b, b ≠ 131 → hI g2 b = hI g b := fun b hb => by rw [e, hI_sI_row hb]
  have hl2 : LX g2 := by rw [e]; exact LX_sI p1.2.1.1
  have c : PC g2 g2 T n m t cs := ⟨p1.1, RdT_P p1.2.1 (i9 129 (by omega)) (i9 130 (by omega)) hl2, FrP_rfl _, by rw [i9 129 (by omega)]; exact p1.2.2.2.1, by rw [e, hI_sI, if_neg (by omega)]; exact p1.2.2.2.2.1, fun i hi => by rw [i9 132 (by omega)]; exact p1.2.2.2.2.2 i hi⟩
  have mv := CTb_move ⟨p1, p2, p3, p4⟩ (by rw [e]; exact Fr_sI (Or.inr (Or.inl rfl))) (by rw [i9 129 (by omega)]) c
  refine ⟨⟨mv.1, mv.2.1, mv.2.2.1, ?_⟩, l⟩
  have q := mv.2.2.2
  unfold NI tnK tnR tnN tnL tnF tnT tnO tnW at q ⊢
  rw [e1, e2]
  exact q
theorem CT_may {g2 : MH} {m2 : Nat} (p : CT hb g a T n m t cs v) (e : g2 = sI g 129 10 (nI m2)) : CT hb g2 a T n m2 t cs v := by
  obtain ⟨⟨p1, p2, p3, p4⟩, p5⟩ := p
  have i9 : ∀ b, b ≠ 129 → hI g2 b = hI g b := fun b hb => by rw [e, hI_sI_row hb]
  have i0 : ∀ k, k ≠ 10 → hI g2 129 k = hI g 129 k := fun k hk => by rw [e, hI_sI, if_neg (by omega)]
  have hl2 : LX g2 := by rw [e]; exact LX_sI p1.2.1.1
  have r : RdT g2 g2 T n t := by
    obtain ⟨r1, r2, r3, r4, r5, r6, r7, r8⟩ := p1.2.1
    exact ⟨hl2, FrR_rfl _, ⟨r3.1, by rw [i0 6 (by omega)]; exact r3.2.1, by rw [i9 130 (by omega)]; exact r3.2.2⟩, by rw [i0 7 (by omega)]; exact r4, by rw [i0 8 (by omega)]; exact r5, by rw [i0 9 (by omega)]; exact r6, by rw [i0 1 (by omega)]; exact r7, by rw [i0 2 (by omega)]; exact r8⟩
  have c : PC g2 g2 T n m2 t cs := ⟨p1.1, r, FrP_rfl _, by rw [e, hI_sI, if_pos ⟨rfl, rfl⟩], by rw [i9 131 (by omega)]; exact p1.2.2.2.2.1, fun i hi => by rw [i9 132 (by omega)]; exact p1.2.2.2.2.2 i hi⟩
  refine ⟨CTb_move ⟨p1, p2, p3, p4⟩ (by rw [e]; exact Fr_sI (Or.inl rfl)) (i0 0 (by omega)) c, ?_⟩
  unfold LwC
  rw [i9 131 (by omega)]
  exact p5
theorem n_lawop {Q : MH → Prop} {m2 : Nat} (hm : m2 < 2) (p : CT hb g a T n m t cs v) (hq : ∀ g2, CT hb g2 a T n m t cs (tnLaw v m2 cs.1 (tnE v m2)) → Q g2) : wX3_open 131 (nI m2) g Q := by
  have l5 := p.2
  have e1 := p.1.1.2.2.2.2.1
  rcases (show m2 = 0 ∨ m2 = 1 from by omega) with q | q <;> subst q
  · refine ⟨fun _ => ⟨S_131 (CT_LX p), fun h2 e2 => hq h2 (CT_131 (k := 2) p (by omega) e2 ?_ rfl rfl)⟩, fun z => absurd nI_0 z⟩
    rw [e1] at e2
    refine ⟨?_, ?_, ?_, ?_⟩ <;> rw [e2, hI_sI]
    · rw [if_pos ⟨rfl, rfl⟩]; rfl
    · rw [if_neg (by omega)]; exact l5.2.1
    · rw [if_neg (by omega)]; exact l5.2.2.1
    · rw [if_neg (by omega)]; exact l5.2.2.2
  · refine ⟨fun z => absurd z (by decide), fun _ => ⟨S_131 (CT_LX p), fun h2 e2 => hq h2 (CT_131 (k := 4) p (by omega) e2 ?_ rfl rfl)⟩⟩
    rw [e1] at e2
    refine ⟨?_, ?_, ?_, ?_⟩ <;> rw [e2, hI_sI]
    · rw [if_neg (by omega)]; exact l5.1
    · rw [if_neg (by omega)]; exact l5.2.1
    · rw [if_pos ⟨rfl, rfl⟩]; rfl
    · rw [if_neg (by omega)]; exact l5.2.2.2
theorem n_lawcl {Q : MH → Prop} {m2 b x : Nat} (hm : m2 < 2) (p : CT hb g a T n m t cs (tnLaw v m2 b x)) (hq : ∀ g2, CT hb g2 a T n m t cs (tnLaw v m2 b cs.1) → Q g2) : wX3_close 131 (nI m2) g Q := by
  have l5 := p.2
  have e1 := p.1.1.2.2.2.2.1
  rcases (show m2 = 0 ∨ m2 = 1 from by omega) with q | q <;> subst q
  · refine ⟨fun _ => ⟨S_131 (CT_LX p), fun h2 e2 => hq h2 (CT_131 (k := 3) p (by omega) e2 ?_ rfl rfl)⟩, fun z => absurd nI_0 z⟩
    rw [e1] at e2
    refine ⟨?_, ?_, ?_, ?_⟩ <;> rw [e2, hI_sI]
    · rw [if_neg (by omega)]; exact l5.1
    · rw [if_pos ⟨rfl, rfl⟩]; rfl
    · rw [if_neg (by omega)]; exact l5.2.2.1
    · rw [if_neg (by omega)]; exact l5.2.2.2
  · refine ⟨fun z => absurd z (by decide), fun _ => ⟨S_131 (CT_LX p), fun h2 e2 => hq h2 (CT_131 (k := 5) p (by omega) e2 ?_ rfl rfl)⟩⟩
    rw [e1] at e2
    refine ⟨?_, ?_, ?_, ?_⟩ <;> rw [e2, hI_sI]
    · rw [if_neg (by omega)]; exact l5.1
    · rw [if_neg (by omega)]; exact l5.2.1
    · rw [if_neg (by omega)]; exact l5.2.2.1
    · rw [if_pos ⟨rfl, rfl⟩]; rfl
theorem CT_law {Q : Int32 → MH → Prop} {m2 : Nat} (hm : m2 < 2) (p : CT hb g a T n m t cs v) (hc : cs.1 ≤ tkA t) (h24 : tkK t ≠ 24) (hk : tkK t ≠ 25) (k1 : ∀ t2 cs2 v2 g2, lawL T n m2 t cs v = .inr (t2, cs2, v2) → CT hb g2 a T n m2 t2 cs2 v2 → Q (nI 1) g2) (k0 : ∀ e g2, lawL T n m2 t cs v = .inl e → CF hb g2 a e → Q (nI 0) g2) : wX5_readLaw 129 (nI m2) g Q := by
  have hn := CT_n p
  have f := TkOK_f p.1.1.1
  have fl := f.2.2.2.2.2 h24
  have x1 := nx_ok p.1.1.1 h24
  unfold lawL at k1 k0
  refine ⟨S_129 (CT_LX p), ?_, fun h2 e2 => CT_adv (CT_may p e2) hk (fun g p => ⟨S_129 (CT_LX p), CT_pass (k := 31) p (by omega) (by omega) (by omega) rfl (by omega) (fun k31 e g p => ⟨fun _ => ?_, fun z => absurd z (by decide)⟩) (fun e g f => ⟨fun z => absurd nI_0 z, fun _ => k0 _ g (e _) f⟩)⟩)⟩
  · rcases (show m2 = 0 ∨ m2 = 1 from by omega) with q | q <;> subst q
    · exact Or.inl nI_0
    · exact Or.inr (by decide)
  rw [e] at k1 k0
  have x2 := nx_ok x1.1 (show tkK (nx T n t) ≠ 24 by omega)
  have body : ∀ {P : Int32 → MH → Prop} {g1 : MH}, CT hb g1 a T n m2 (nx T n (nx T n t)) cs (tnLaw v m2 cs.1 (tnE v m2)) → (∀ t2 cs2 g2, pp T n m2 (8 * n + 8) (lawX m2) 0 (nx T n (nx T n t)) cs = .inr (t2, cs2) → CT hb g2 a T n m2 t2 cs2 (tnLaw v m2 cs.1 (tnE v m2)) → P (nI 1) g2) → (∀ e g2, pp T n m2 (8 * n + 8) (lawX m2) 0 (nx T n (nx T n t)) cs = .inl e → CF hb g2 a e → P (nI 0) g2) → Cm (if m2 = 0 then MX5_readSum else MX5_readTruth) 300 0 0 [.ref 129, .int (nI 0)] g1 (pI P) := fun {P g1} p1 q1 q0 => by
    have al := c_all (hb := g1) (T := T) (n := n) (m := m2) hm (8 * n + 8)
    have sk := x2.2.2
    rcases (show m2 = 0 ∨ m2 = 1 from by omega) with q | q <;> subst q
    · exact al.2.2.2.1 0 300 _ cs g1 P (by omega) (by show _ + 3 ≤ _; omega) (by show _ + 9 ≤ _; omega) (by omega) p1.1.1 (fun t2 cs2 g2 e2 c2 => q1 t2 cs2 g2 e2 (CT_P p1 c2)) (fun e g2 e2 c2 => q0 e g2 e2 (CT_F p1.1 c2))
    · exact al.2.2.2.2.2.2.2.2.1 0 300 _ cs g1 P (by omega) (by show _ + 6 ≤ _; omega) (by show _ + 12 ≤ _; omega) (by omega) p1.1.1 (fun t2 cs2 g2 e2 c2 => q1 t2 cs2 g2 e2 (CT_P p1 c2)) (fun e g2 e2 c2 => q0 e g2 e2 (CT_F p1.1 c2))
  have fin : ∀ t2 cs2 g2, pp T n m2 (8 * n + 8) (lawX m2) 0 (nx T n (nx T n t)) cs = .inr (t2, cs2) → CT hb g2 a T n m2 t2 cs2 (tnLaw v m2 cs.1 (tnE v m2)) → wX5_readLaw_53 Q 129 (nI m2) g2 := fun t2 cs2 g2 e2 c2 => by
    refine ⟨S_129 (CT_LX c2), 131, R_129_4 (CT_LX c2), S_131 (CT_LX c2), n_lawcl hm c2 (fun g3 c3 => k1 _ _ _ g3 ?_ c3)⟩
    rw [e2]
  have bad : ∀ e g2, pp T n m2 (8 * n + 8) (lawX m2) 0 (nx T n (nx T n t)) cs = .inl e → CF hb g2 a e → Q (nI 0) g2 := fun e g2 e2 c2 => k0 e g2 (by rw [e2]) c2
  refine ⟨S_129 (CT_LX p), 131, R_129_4 (CT_LX p), S_131 (CT_LX p), n_lawop hm p (fun g1 p1 => ?_)⟩
  rcases (show m2 = 0 ∨ m2 = 1 from by omega) with q | q <;> subst q
  · exact ⟨fun _ => ⟨S_129 (CT_LX p1), body (P := fun r16 h17 => (¬ (r16 = 0) → wX5_readLaw_53 Q 129 (nI 0) h17) ∧ (r16 = 0 → Q (nI 0) h17)) p1 (fun t2 cs2 g2 e2 c2 => ⟨fun _ => fin t2 cs2 g2 e2 c2, fun z => absurd z (by decide)⟩) (fun e g2 e2 c2 => ⟨fun z => absurd nI_0 z, fun _ => bad e g2 e2 c2⟩)⟩, fun z => absurd nI_0 z⟩
  · exact ⟨fun z => absurd z (by decide), fun _ => ⟨S_129 (CT_LX p1), body (P := fun r25 h26 => (r25 = 0 → Q (nI 0) h26) ∧ (¬ (r25 = 0) → wX5_readLaw_53 Q 129 (nI 1) h26)) p1 (fun t2 cs2 g2 e2 c2 => ⟨fun z => absurd z (by decide), fun _ => fin t2 cs2 g2 e2 c2⟩) (fun e g2 e2 c2 => ⟨fun _ => bad e g2 e2 c2, fun z => absurd nI_0 z⟩)⟩⟩
theorem CT_line {Q : Int32 → MH → Prop} (p : CT hb g a T n m t cs v) (hv : TnA v) (hc : cs.1 ≤ tkA t) (h24 : tkK t ≠ 24) (k1 : ∀ m2 t2 cs2 v2 g2, lineL T n t cs v = .inr (t2, cs2, v2) → CT hb g2 a T n m2 t2 cs2 v2 → Q (nI 1) g2) (k0 : ∀ e g2, lineL T n t cs v = .inl e → CF hb g2 a e → Q (nI 0) g2) : wX5_readLine 129 g Q := by
  have hn := CT_n p
  have f := TkOK_f p.1.1.1
  have fl := f.2.2.2.2.2 h24
  have ok := p.1.1.1
  unfold lineL at k1 k0
  have good : ∀ m2 t2 cs2 v2 g2, kindL T n t cs v = .inr (t2, cs2, v2) → CT hb g2 a T n m2 t2 cs2 v2 → wX5_readLine_59 Q 129 (nI 1) g2 := fun m2 t2 cs2 v2 g2 e p2 => by
    have go := kind_go ok h24 e
    have f2 := TkOK_f go.1
    have c2 := go.2.2.2.1
    have c3 : cs2.1 ≤ 900 := by omega
    rw [e, bndL_r] at k1 k0
    refine ⟨fun z => absurd z (by decide), fun _ => ⟨S_129 (CT_LX p2), CT_pass (k := 30) p2 c3 (by omega) (by omega) rfl (by omega) (fun _ e g p => ⟨fun _ => ?_, fun z => absurd z (by decide)⟩) (fun e g f => ⟨fun z => absurd nI_0 z, fun _ => k0 _ g (e _) f⟩)⟩⟩
    have n3 := p.1.2.2.1
    have n4 := p.1.2.2.2
    refine ⟨S_129 (CT_LX p), a, n3.1, n3.2.2.2.1, fun h20 e20 => k1 m2 _ _ _ h20 (e _) (CT_net p ?_ ?_ ?_ rfl)⟩
    · rw [e20]; exact LX_sI (CT_LX p)
    · rw [e20]; exact Fr_sI ⟨Nat.le_refl _, by omega⟩
    · rw [n4.1.2.2.1, nI_add] at e20
      refine ⟨⟨?_, ?_, ?_, ?_, ?_⟩, fun l hl => ?_⟩
      · rw [e20, hI_sI, if_neg (by omega)]; exact n4.1.1
      · rw [e20, hI_sI, if_neg (by omega)]; exact n4.1.2.1
      · rw [e20, hI_sI, if_pos ⟨rfl, rfl⟩]; rfl
      · rw [e20, hI_sI, if_neg (by omega)]; exact n4.1.2.2.2.1
      · rw [e20, hI_sI, if_neg (by omega)]; exact n4.1.2.2.2.2
      · rw [e20, hI_sI, if_neg (by omega), hI_sI, if_neg (by omega), hI_sI, if_neg (by omega), hI_sI, if_neg (by omega)]
        exact n4.2 l hl
  have dead : ∀ e g2, kindL T n t cs v = .inl e → CF hb g2 a e → wX5_readLine_59 Q 129 (nI 0) g2 := fun e g2 e2 f2 => by
    rw [e2] at k0
    exact ⟨fun _ => k0 e g2 rfl f2, fun z => absurd nI_0 z⟩
  clear k1 k0
  unfold kindL at good dead
  have is : ∀ {P : Int32 → MH → Prop} (i k : Nat), i < 32 → 1 ≤ i → kdS i = k → P (if tkK t = k then nI 1 else nI 0) g → wX5_isAt 129 i g P := fun i k h1 h2 e hp => PC_isAt p.1.1 h1 h2 (by rw [e]; exact hp)
  refine ⟨S_129 (CT_LX p), is 5 3 (by omega) (by omega) rfl ?_⟩
  by_cases q : tkK t = 3
  · rw [if_pos q] at good dead ⊢
    exact ⟨fun z => absurd z (by decide), fun _ => ⟨S_129 (CT_LX p), CT_link p hv (by omega) (by omega) (good m) dead⟩⟩
  · rw [if_neg q] at good dead ⊢
    refine ⟨fun _ => ⟨S_129 (CT_LX p), is 8 6 (by omega) (by omega) rfl ?_⟩, fun z => absurd nI_0 z⟩
    by_cases q2 : tkK t = 6
    · rw [if_pos q2] at good dead ⊢
      exact ⟨fun z => absurd z (by decide), fun _ => ⟨S_129 (CT_LX p), CT_law (by omega) p hc h24 (by omega) (good 0) dead⟩⟩
    · rw [if_neg q2] at good dead ⊢
      refine ⟨fun _ => ⟨S_129 (CT_LX p), is 31 7 (by omega) (by omega) rfl ?_⟩, fun z => absurd nI_0 z⟩
      by_cases q3 : tkK t = 7
      · rw [if_pos q3] at good dead ⊢
        exact ⟨fun z => absurd z (by decide), fun _ => ⟨S_129 (CT_LX p), CT_law (by omega) p hc h24 (by omega) (good 1) dead⟩⟩
      · rw [if_neg q3] at dead ⊢
        exact ⟨fun _ => ⟨S_129 (CT_LX p), PC_ref p.1.1 (by omega) (by omega) (fun g2 f2 => dead _ g2 rfl (CT_F p.1 f2))⟩, fun z => absurd nI_0 z⟩
theorem CT_lines {Q : Option Nat → MH → Prop} {b tt : Nat} : ∀ (k i m : Nat) (t : TK) (cs : CD) (v : TN) (g : MH), CT hb g a T n m t cs v → TnA v → cs.1 ≤ tkA t → i ≤ tkA t → n - tkA t < k → (∀ m2 t2 cs2 v2 g2, linesL T n k t cs v = .inr (t2, cs2, v2) → CT hb g2 a T n m2 t2 cs2 v2 → wX5_readNet_87 Q b tt 129 (nI 1) g2) → (∀ e g2, linesL T n k t cs v = .inl e → CF hb g2 a e → wX5_readNet_87 Q b tt 129 (nI 0) g2) → wX5_readNet_54 Q (k + 1) b tt 129 (nI 1) (nI i) g := by
  intro k
  induction k with
  | zero => intro i m t cs v g _ _ _ _ h; omega
  | succ k ih =>
    intro i m t cs v g p hv hc hi hk k1 k0
    have hn := CT_n p
    have ok := p.1.1.1
    have f := TkOK_f ok
    have e7 : hI g 129 7 = nI (tkA t) := p.1.1.2.1.2.2.2.1
    have e6 : hI g 129 6 = nI n := p.1.1.2.1.2.2.1.2.1
    have ia := p.1.1.1.1
    unfold linesL at k1 k0
    unfold wX5_readNet_54
    rw [e6, e7]
    by_cases q : tkK t = 24
    · have k1' := fun z => k1 m t cs v g (by rw [if_pos q]) z
      have an := f.2.2.2.2.1.mp q
      refine ⟨fun _ => k1' p, fun _ => ⟨fun z => absurd z (by decide), fun _ => ⟨S_129 (CT_LX p), fun _ => k1' p, fun z => absurd (nI_le (by omega) (by omega)) z⟩⟩⟩
    · have fl := f.2.2.2.2.2 q
      rw [if_neg q] at k1 k0
      refine ⟨fun z => absurd z (nI_ge (by omega) (by omega)), fun _ => ⟨fun z => absurd z (by decide), fun _ => ⟨S_129 (CT_LX p), fun z => absurd z (nI_ge (by omega) (by omega)), fun _ => CT_line p hv hc q (fun m2 t2 cs2 v2 g2 e p2 => ?_) (fun e g2 e2 f2 => ?_)⟩⟩⟩
      · have go := (line_go ok q e).1
        have l1 := go.2.1
        have l2 := go.2.2.2.1
        rw [e, bndL_r] at k1 k0
        rw [nI_add]
        exact ih (i + 1) m2 t2 cs2 v2 g2 p2 (TnA_line ok q e hv) (by omega) (by omega) (by omega) k1 k0
      · rw [e2] at k0
        have d := k0 e g2 rfl f2
        unfold wX5_readNet_54
        exact ⟨fun _ => d, fun _ => ⟨fun _ => d, fun z => absurd nI_0 z⟩⟩
end CTW
