/-! Part al: the reference's parser: its state, its small steps, and when a fault was found. -/
def FrQ (h g : MH) : Prop := Fr (fun b => b = 223 ∨ b = 227) h g ∧ (∀ k, ¬ isPf k → hI g 223 k = hI h 223 k) ∧ ∀ k, k < 1436 → hI g 227 k = hI h 227 k
theorem FrQ_rfl (h : MH) : FrQ h h := ⟨Fr_rfl _ _, fun _ _ => rfl, fun _ _ => rfl⟩
theorem FrQ_trans {h g k : MH} (p : FrQ h g) (q : FrQ g k) : FrQ h k := ⟨Fr_trans p.1 q.1, fun j hj => (q.2.1 j hj).trans (p.2.1 j hj), fun j hj => (q.2.2 j hj).trans (p.2.2 j hj)⟩
theorem FrQ_X {h g : MH} (p : FrX h g) : FrQ h g := ⟨Fr_mono (fun b z => Or.inl z) p.1, p.2, fun k _ => Fr_I p.1 (by omega) k⟩
def CdM (g : MH) (cs : CD) : Prop := hI g 227 1436 = nI cs.1 ∧ ∀ i, i < cs.1 → hI g 227 (1437 + i) = nI (cs.2 i)
def PM (hb g : MH) (T : Nat → Nat) (n m : Nat) (t : TK) (cs : CD) : Prop := TkOK T n t ∧ RmT g g T n t ∧ FrQ hb g ∧ hI g 223 15 = nI m ∧ CdM g cs
def MF (hb g : MH) (e : Nat × Nat) : Prop := LX g ∧ FrQ hb g ∧ 0 < e.1 ∧ e.1 < 5 ∧ hI g 223 11 = nI e.1 ∧ hI g 223 12 = nI e.2
theorem RmT_LX {h0 g : MH} {T : Nat → Nat} {n : Nat} {t : TK} (r : RmT h0 g T n t) : LX g := by
  obtain ⟨_, _, r, _⟩ := r
  exact r.1
theorem RmT_n {h0 g : MH} {T : Nat → Nat} {n : Nat} {t : TK} (r : RmT h0 g T n t) : n ≤ 900 := by
  obtain ⟨_, _, r, _⟩ := r
  exact r.2.2.1.1
theorem RmT_fr {h0 g : MH} {T : Nat → Nat} {n : Nat} {t : TK} (r : RmT h0 g T n t) : FrX h0 g := by
  obtain ⟨_, _, r, _⟩ := r
  exact r.2.1
theorem RmT_self {h0 g : MH} {T : Nat → Nat} {n : Nat} {t : TK} (r : RmT h0 g T n t) : RmT g g T n t := by
  obtain ⟨nu, wa, r, q⟩ := r
  exact ⟨nu, wa, ⟨r.1, FrX_rfl g, r.2.2⟩, q⟩
theorem CdM_X {h g : MH} {cs : CD} (p : FrX h g) (c : CdM h cs) : CdM g cs := ⟨by rw [Fr_I p.1 (by omega)]; exact c.1, fun i hi => by rw [Fr_I p.1 (by omega)]; exact c.2 i hi⟩
section PMs
variable {hb g : MH} {T : Nat → Nat} {n m : Nat} {t : TK} {cs : CD}
theorem PM_is {Q : Int32 → MH → Prop} {k : Nat} (p : PM hb g T n m t cs) (hk : k < 100) (hq : Q (if tkK t = k then nI 1 else nI 0) g) : wX10_is 223 (nI k) g Q := m_is0 hk (by have := TkOK_f p.1; omega) p.2.1 hq
theorem PM_next {Q : MH → Prop} (p : PM hb g T n m t cs) (hq : ∀ g2, PM hb g2 T n m (nx T n t) cs → Q g2) : wX10_next 223 g Q := by
  obtain ⟨p1, ⟨nu, wa, r, _⟩, p3, p4, p5⟩ := p
  have f := TkOK_f p1
  refine m_next f.2.1 r (fun g2 r2 => hq g2 ⟨TkOK_N f.2.1, RmT_self r2, FrQ_trans p3 (FrQ_X (RmT_fr r2)), ?_, CdM_X (RmT_fr r2) p5⟩)
  rw [(RmT_fr r2).2 15 (by unfold isPf; omega)]
  exact p4
theorem PM_fails {Q : MH → Prop} {x : Nat} (p : PM hb g T n m t cs) (hx : 0 < x ∧ x < 5) (hq : ∀ g2, MF hb g2 (flt t x) → Q g2) : wX10_fails 223 (nI x) g Q := by
  obtain ⟨p1, ⟨nu, wa, r, _⟩, p3, p4, p5⟩ := p
  have f := TkOK_f p1
  refine m_fails0 (by omega) r (fun g2 r2 => hq g2 ⟨r2.1, FrQ_trans p3 (FrQ_X r2.2.1), ?_⟩)
  unfold flt
  have e11 := r2.2.2.2.2.2.2.2.1
  by_cases q : tkK t = 25
  · rw [if_pos q] at e11 ⊢
    exact ⟨Nat.one_pos, by show 1 < 5; omega, e11, r2.2.2.2.2.2.2.2.2⟩
  · rw [if_neg q] at e11 ⊢
    exact ⟨hx.1, hx.2, e11, r2.2.2.2.2.2.2.2.2⟩
theorem FrQ_227 {g : MH} {k : Nat} {x : Int32} (hk : 1436 ≤ k) : FrQ g (sI g 227 k x) := ⟨Fr_sI (Or.inr rfl), fun j _ => by rw [hI_sI, if_neg (by omega)], fun j _ => by rw [hI_sI, if_neg (by omega)]⟩
theorem RmT_P {g g2 : MH} {t : TK} (r : RmT g g T n t) (e : hI g2 223 = hI g 223) (e2 : hI g2 226 = hI g 226) (hl : LX g2) : RmT g2 g2 T n t := by
  obtain ⟨nu, wa, ⟨r1, r2, r3, r4, r5, r6, r7, r8, r9⟩, q⟩ := r
  exact ⟨nu, wa, ⟨hl, FrX_rfl _, ⟨r3.1, by rw [e]; exact r3.2.1, by rw [e2]; exact r3.2.2⟩, by rw [e]; exact r4, by rw [e]; exact r5, by rw [e]; exact r6, by rw [e]; exact r7, by rw [e]; exact r8, by rw [e]; exact r9⟩, q⟩
theorem PM_codes {Q : MH → Prop} {x : Nat} (p : PM hb g T n m t cs) (hc : cs.1 < 900) (hq : ∀ g2, PM hb g2 T n m t (cpu x cs) → Q g2) : wX10_codes 223 (nI x) g Q := by
  obtain ⟨p1, p2, p3, p4, p5⟩ := p
  have hl := RmT_LX p2
  have w0 : hI g 223 11 = 0 := by
    obtain ⟨nu, wa, r, _⟩ := p2
    exact r.2.2.2.2.2.2.2.1
  unfold wX10_codes
  rw [nI_clamp (show 1436 < 2 ^ 31 by omega)]
  refine ⟨S_223 hl, fun _ => ⟨227, R_223_4 hl, 2337, S_227 hl, vp_in_nI (by omega) (by omega), ?_⟩, fun z => absurd w0 z⟩
  rw [p5.1, nI_add, nI_clamp (by omega)]
  refine ⟨vp_in_nI (by omega) (by omega), fun h8 e8 => ⟨vp_in_nI (by omega) (by omega), vp_in_nI (by omega) (by omega), fun h11 e11 => hq h11 ?_⟩⟩
  have i1 : hI h8 227 1436 = nI cs.1 := by rw [e8, hI_sI, if_neg (by omega)]; exact p5.1
  rw [i1, nI_add] at e11
  have i3 : hI h11 223 = hI g 223 := by rw [e11, hI_sI_row (by omega), e8, hI_sI_row (by omega)]
  have i6 : hI h11 226 = hI g 226 := by rw [e11, hI_sI_row (by omega), e8, hI_sI_row (by omega)]
  have hl2 : LX h11 := by rw [e11, e8]; exact LX_sI (LX_sI hl)
  refine ⟨p1, RmT_P p2 i3 i6 hl2, FrQ_trans p3 (by rw [e11, e8]; exact FrQ_trans (FrQ_227 (by omega)) (FrQ_227 (by omega))), by rw [i3]; exact p4, by rw [e11, hI_sI, if_pos ⟨rfl, rfl⟩]; rfl, fun i hi => ?_⟩
  have hi : i < cs.1 + 1 := hi
  rw [e11, hI_sI, if_neg (by omega), e8, hI_sI]
  show _ = nI (if i = cs.1 then x else cs.2 i)
  by_cases y : i = cs.1
  · rw [if_pos ⟨rfl, by omega⟩, if_pos y]
  · rw [if_neg (by omega), if_neg y]
    exact p5.2 i (by omega)
theorem PM_eats {Q : Int32 → MH → Prop} {k : Nat} (p : PM hb g T n m t cs) (hk : k < 100) (k1 : tkK t = k → ∀ g2, PM hb g2 T n m (nx T n t) cs → Q (nI 1) g2) (k0 : tkK t ≠ k → Q (nI 0) g) : wX10_eats 223 (nI k) g Q := by
  have hl := RmT_LX p.2.1
  refine ⟨S_223 hl, PM_is p hk ?_⟩
  by_cases q : tkK t = k
  · rw [if_pos q]
    exact ⟨fun _ => ⟨S_223 hl, PM_next p (k1 q)⟩, fun z => absurd z (by decide)⟩
  · rw [if_neg q]
    exact ⟨fun z => absurd nI_0 z, fun _ => k0 q⟩
theorem PM_11 (p : PM hb g T n m t cs) : hI g 223 11 = 0 := by
  obtain ⟨_, ⟨nu, wa, r, _⟩, _⟩ := p
  exact r.2.2.2.2.2.2.2.1
theorem MF_11 {e : Nat × Nat} (p : MF hb g e) : hI g 223 11 ≠ 0 := by
  rw [p.2.2.2.2.1]
  exact fun z => by
    have := (nI_eq0 (by have := p.2.2.2.1; omega)).mp z
    have := p.2.2.1
    omega
theorem PM_goes {Q : Int32 → MH → Prop} {d : Nat} (p : PM hb g T n m t cs) (hd : d ≤ 6) (k1 : d ≠ 6 → ∀ g2, PM hb g2 T n m (nx T n t) cs → Q (nI 1) g2) (k0 : d = 6 → ∀ g2, MF hb g2 (flt t 4) → Q (nI 0) g2) : wX10_goesIn 223 (nI d) g Q := by
  have hl := RmT_LX p.2.1
  refine ⟨fun z => ⟨S_223 hl, fun y => absurd (PM_11 p) y, fun _ => PM_next p (fun g2 p2 => ⟨S_223 (RmT_LX p2.2.1), ?_⟩)⟩, fun z => ⟨S_223 hl, PM_fails p (by omega) (fun g2 f2 => ⟨S_223 f2.1, fun _ => ⟨S_223 f2.1, ?_⟩, fun y => absurd y (MF_11 f2)⟩)⟩⟩
  · rw [if_pos (PM_11 p2)]
    exact ⟨Or.inr (by decide), k1 (fun y => z (by rw [y])) g2 p2⟩
  · rw [if_neg (MF_11 f2)]
    exact ⟨Or.inl nI_0, k0 ((nI_eq (by omega) (by omega)).mp z) g2 f2⟩
theorem PM_word {Q : Int32 → MH → Prop} {kd : Nat} (hl : LX g) (h15 : hI g 223 15 = nI m) (hm : m < 2) (hk : kd ≤ 41) (hq : Q (if wdC m kd = 9999 then -1 else nI (wdC m kd - 1000)) g) : wX10_wordOf 223 (nI kd) g Q := by
  have v : ∀ j, j < 100 → nI kd = nI j → kd = j := fun j hj z => (nI_eq (by omega) (by omega)).mp z
  have un : (wdC m kd = 9999) → Q (-1) g := fun z => by rw [if_pos z] at hq; exact hq
  have no : ∀ j, j < 100 → wdC m j = 9999 → nI kd = nI j → Q (-1) g := fun j hj e z => un (by rw [v j hj z]; exact e)
  have ye : ∀ j w, j < 100 → wdC m j = w + 1000 → w < 100 → nI kd = nI j → Q (nI w) g := fun j w hj e hw z => by
    rw [v j hj z, e, if_neg (by omega), Nat.add_sub_cancel] at hq
    exact hq
  unfold wX10_wordOf
  rw [h15]
  refine ⟨fun z => un ?_, ye 2 0 (by omega) (by unfold wdC; simp) (by omega), no 3 (by omega) (by unfold wdC; simp), ye 4 1 (by omega) (by unfold wdC; simp) (by omega), ye 5 2 (by omega) (by unfold wdC; simp) (by omega), no 6 (by omega) (by unfold wdC; simp), no 7 (by omega) (by unfold wdC; simp), no 8 (by omega) (by unfold wdC; simp), no 9 (by omega) (by unfold wdC; simp), no 10 (by omega) (by unfold wdC; simp), no 11 (by omega) (by unfold wdC; simp), fun z => ⟨S_223 hl, ?_⟩, fun z => ⟨S_223 hl, ?_⟩, fun z => ⟨S_223 hl, ?_⟩, fun z => ⟨S_223 hl, ?_⟩⟩
  · rw [nI_tI (by omega)] at z
    unfold wdC
    rw [if_neg (by omega), if_neg (by omega), if_neg (by omega), if_neg (by omega), if_neg (by omega), if_neg (by omega), if_neg (by omega)]
  · rcases (show m = 0 ∨ m = 1 from by omega) with e | e <;> subst e
    · rw [if_pos nI_0]; exact ye 12 3 (by omega) (by unfold wdC; simp) (by omega) z
    · rw [if_neg (by decide)]; exact no 12 (by omega) (by unfold wdC; simp) z
  · rcases (show m = 0 ∨ m = 1 from by omega) with e | e <;> subst e
    · rw [if_pos nI_0]; exact ye 13 4 (by omega) (by unfold wdC; simp) (by omega) z
    · rw [if_neg (by decide)]; exact no 13 (by omega) (by unfold wdC; simp) z
  · rcases (show m = 0 ∨ m = 1 from by omega) with e | e <;> subst e
    · rw [if_neg (by decide)]; exact no 14 (by omega) (by unfold wdC; simp) z
    · rw [if_pos rfl]; exact ye 14 5 (by omega) (by unfold wdC; simp) (by omega) z
  · rcases (show m = 0 ∨ m = 1 from by omega) with e | e <;> subst e
    · rw [if_neg (by decide)]; exact no 15 (by omega) (by unfold wdC; simp) z
    · rw [if_pos rfl]; exact ye 15 6 (by omega) (by unfold wdC; simp) (by omega) z
end PMs
/-! when a fault was found: nothing more is done -/
section DEAD
variable {g : MH}
theorem x_eats {Q : Int32 → MH → Prop} {x : Int32} (hl : LX g) (hf : hI g 223 11 ≠ 0) (hq : Q (nI 0) g) : wX10_eats 223 x g Q := ⟨S_223 hl, m_is1 hl hf ⟨fun z => absurd nI_0 z, fun _ => hq⟩⟩
theorem x_codes {Q : MH → Prop} {x : Int32} (hl : LX g) (hf : hI g 223 11 ≠ 0) (hq : Q g) : wX10_codes 223 x g Q := ⟨S_223 hl, fun z => absurd z hf, fun _ => hq⟩
abbrev PV (M : MI) (D : Nat) : Nat → Int32 → MH → (MH → Prop) → Prop := fun y0 y1 h Q => Cm M D 0 0 [.ref y0, .int y1] h (pV Q)
theorem x_atom {Q : MH → Prop} {x : Int32} {D : Nat} (hD : 7 ≤ D) (hl : LX g) (hf : hI g 223 11 ≠ 0) (hq : Q g) : Cm MX10_readAtom D 0 0 [.ref 223, .int x] g (pV Q) := by
  refine gX10_readAtom (PX10_readIf := PV MX10_readIf (D - 1)) (PX10_readSum := PV MX10_readSum (D - 1)) (d2 := D - 1) (by omega) (by omega) (fun _ _ _ _ q => q) (fun _ _ _ _ q => q) 223 x g Q ⟨S_223 hl, m_is1 hl hf ⟨fun _ => ⟨S_223 hl, fun _ => ⟨S_223 hl, m_is1 hl hf ⟨fun _ => ⟨S_223 hl, m_is1 hl hf ⟨fun _ => ⟨S_223 hl, m_fails1 hl hf hq⟩, fun z => absurd nI_0 z⟩⟩, fun z => absurd nI_0 z⟩⟩, fun z => absurd z hf⟩, fun z => absurd nI_0 z⟩⟩
theorem x_term {Q : MH → Prop} {x : Int32} {D : Nat} (hD : 8 ≤ D) (hl : LX g) (hf : hI g 223 11 ≠ 0) (hq : Q g) : Cm MX10_readTerm D 0 0 [.ref 223, .int x] g (pV Q) :=
  gX10_readTerm (PX10_readAtom := PV MX10_readAtom (D - 1)) (d2 := D - 1) (by omega) (by omega) (fun _ _ _ _ q => q) 223 x g Q ⟨S_223 hl, x_atom (by omega) hl hf ⟨1, S_223 hl, x_eats hl hf ⟨fun _ => hq, fun z => absurd nI_0 z⟩⟩⟩
theorem x_sum {Q : MH → Prop} {x : Int32} {D : Nat} (hD : 9 ≤ D) (hl : LX g) (hf : hI g 223 11 ≠ 0) (hq : Q g) : Cm MX10_readSum D 0 0 [.ref 223, .int x] g (pV Q) :=
  gX10_readSum (PX10_readTerm := PV MX10_readTerm (D - 1)) (d2 := D - 1) (by omega) (by omega) (fun _ _ _ _ q => q) 223 x g Q ⟨S_223 hl, x_term (by omega) hl hf ⟨1, S_223 hl, m_is1 hl hf ⟨fun z => absurd nI_0 z, fun _ => ⟨S_223 hl, m_is1 hl hf ⟨fun _ => hq, fun z => absurd nI_0 z⟩⟩⟩⟩⟩
/-- behind a sum that failed, a unit ends -/
theorem x_unit111 {Q : MH → Prop} {x s0 : Int32} {D D2 : Nat} (hD : 9 ≤ D) (hl : LX g) (hf : hI g 223 11 ≠ 0) (hq : Q g) : wX10_readUnit_111 Q (PV MX10_readSum D) (PV MX10_readUnit D2) (PV MX10_readTruth D2) 223 x s0 g :=
  ⟨S_223 hl, m_is1 hl hf ⟨fun z => absurd nI_0 z, fun _ => ⟨S_223 hl, m_is1 hl hf ⟨fun z => absurd nI_0 z, fun _ => ⟨S_223 hl, m_is1 hl hf ⟨fun _ => ⟨S_223 hl, m_fails1 hl hf ⟨S_223 hl, x_sum hD hl hf ⟨S_223 hl, x_codes hl hf hq⟩⟩⟩, fun z => absurd nI_0 z⟩⟩⟩⟩⟩⟩
theorem x_unit {Q : MH → Prop} {x : Int32} {D : Nat} (hD : 10 ≤ D) (hl : LX g) (hf : hI g 223 11 ≠ 0) (hq : Q g) : Cm MX10_readUnit D 0 0 [.ref 223, .int x] g (pV Q) := by
  refine gX10_readUnit (PX10_readSum := PV MX10_readSum (D - 1)) (PX10_readUnit := PV MX10_readUnit (D - 1)) (PX10_readTruth := PV MX10_readTruth (D - 1)) (d2 := D - 1) (by omega) (by omega) (fun _ _ _ _ q => q) (fun _ _ _ _ q => q) (fun _ _ _ _ q => q) 223 x g Q ⟨S_223 hl, m_is1 hl hf ⟨fun _ => ⟨S_223 hl, m_is1 hl hf ⟨fun _ => ⟨S_223 hl, ?_⟩, fun z => absurd nI_0 z⟩⟩, fun z => absurd nI_0 z⟩⟩
  exact x_sum (by omega) hl hf ⟨S_223 hl, m_is1 hl hf ⟨fun _ => ⟨S_223 hl, m_is1 hl hf (x_unit111 (by omega) hl hf hq)⟩, fun z => absurd nI_0 z⟩⟩
theorem x_both {Q : MH → Prop} {x : Int32} {D : Nat} (hD : 11 ≤ D) (hl : LX g) (hf : hI g 223 11 ≠ 0) (hq : Q g) : Cm MX10_readBoth D 0 0 [.ref 223, .int x] g (pV Q) :=
  gX10_readBoth (PX10_readUnit := PV MX10_readUnit (D - 1)) (d2 := D - 1) (by omega) (by omega) (fun _ _ _ _ q => q) 223 x g Q ⟨S_223 hl, x_unit (by omega) hl hf ⟨1, S_223 hl, x_eats hl hf ⟨fun _ => hq, fun z => absurd nI_0 z⟩⟩⟩
theorem x_truth {Q : MH → Prop} {x : Int32} {D : Nat} (hD : 12 ≤ D) (hl : LX g) (hf : hI g 223 11 ≠ 0) (hq : Q g) : Cm MX10_readTruth D 0 0 [.ref 223, .int x] g (pV Q) :=
  gX10_readTruth (PX10_readBoth := PV MX10_readBoth (D - 1)) (d2 := D - 1) (by omega) (by omega) (fun _ _ _ _ q => q) 223 x g Q ⟨S_223 hl, x_both (by omega) hl hf ⟨1, S_223 hl, x_eats hl hf ⟨fun _ => hq, fun z => absurd nI_0 z⟩⟩⟩
end DEAD
