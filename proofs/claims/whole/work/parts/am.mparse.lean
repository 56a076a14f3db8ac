/-! Part am: the reference's parser. -/
section MPARSE
variable (hb : MH) (T : Nat → Nat) (n m : Nat)
/-- what a reading method of the reference does -/
def MLs (M : MI) (k X : Nat) : Prop := ∀ (d D : Nat) (t : TK) (cs : CD) (g : MH) (Q : MH → Prop), d ≤ 6 → 8 * (n - tkA t) + rkX X ≤ k → 10 * (6 - d) + dpX X + 3 ≤ D → cs.1 ≤ tkA t → PM hb g T n m t cs → (∀ t2 cs2 g2, pp T n m k X d t cs = .inr (t2, cs2) → PM hb g2 T n m t2 cs2 → Q g2) → (∀ e g2, pp T n m k X d t cs = .inl e → MF hb g2 e → Q g2) → Cm M D 0 0 [.ref 223, .int (nI d)] g (pV Q)
def MLp (W : (MH → Prop) → Nat → Nat → Nat → Int32 → MH → Prop) (k X Y : Nat) : Prop := ∀ (d D : Nat) (t : TK) (cs : CD) (g : MH) (Q : MH → Prop), d ≤ 6 → 8 * (n - tkA t) + 1 ≤ k → 10 * (6 - d) + dpX Y + 3 ≤ D → cs.1 ≤ tkA t → PM hb g T n m t cs → (∀ t2 cs2 g2, pp T n m k X d t cs = .inr (t2, cs2) → PM hb g2 T n m t2 cs2 → Q g2) → (∀ e g2, pp T n m k X d t cs = .inl e → MF hb g2 e → Q g2) → W Q (D - 1) k 223 (nI d) g
def MIf (k : Nat) : Prop := ∀ (d D : Nat) (t : TK) (cs : CD) (g : MH) (Q : MH → Prop), d ≤ 6 → tkK t = 8 → 8 * (n - tkA (nx T n t)) + 7 ≤ k → 9 ≤ D → 10 * (6 - d) + 6 ≤ D → cs.1 ≤ tkA t → PM hb g T n m t cs → (∀ t2 cs2 g2, d ≠ 6 → pp T n m k 10 (d + 1) (nx T n t) cs = .inr (t2, cs2) → PM hb g2 T n m t2 cs2 → Q g2) → (∀ e g2, d ≠ 6 → pp T n m k 10 (d + 1) (nx T n t) cs = .inl e → MF hb g2 e → Q g2) → (∀ g2, d = 6 → MF hb g2 (flt t 4) → Q g2) → Cm MX10_readIf D 0 0 [.ref 223, .int (nI d)] g (pV Q)
def VTerm : (MH → Prop) → Nat → Nat → Nat → Int32 → MH → Prop := fun Q D => wX10_readTerm_5 Q (PV MX10_readAtom D)
def VSum : (MH → Prop) → Nat → Nat → Nat → Int32 → MH → Prop := fun Q D => wX10_readSum_5 Q (PV MX10_readTerm D)
def VBoth : (MH → Prop) → Nat → Nat → Nat → Int32 → MH → Prop := fun Q D => wX10_readBoth_5 Q (PV MX10_readUnit D)
def VTruth : (MH → Prop) → Nat → Nat → Nat → Int32 → MH → Prop := fun Q D => wX10_readTruth_5 Q (PV MX10_readBoth D)
end MPARSE
section MP2
variable {hb : MH} {T : Nat → Nat} {n m k : Nat}
theorem m_termL (ia : MLs hb T n m MX10_readAtom k 0) (il : MLp hb T n m VTerm k 2 1) : MLp hb T n m VTerm (k + 1) 2 1 := by
  intro d D t cs g Q hd hk hD hc p K1 K0
  have hl := RmT_LX p.2.1
  have f := TkOK_f p.1
  have hn := RmT_n p.2.1
  have edp : dpX 1 = 8 := rfl
  have eds : dpX 0 = 7 := rfl
  have ers : rkX 0 = 1 := rfl
  have e0 : pp T n m (k + 1) 2 d t cs = if tkK t = 34 then bndP (pp T n m k 0 d (nx T n t) cs) (fun t cs => pp T n m k 2 d t (cpu 3002 cs)) else .inr (t, cs) := rfl
  refine ⟨S_223 hl, PM_eats p (by omega) (fun q g1 p1 => ⟨fun z => absurd z (by decide), fun _ => ⟨S_223 (RmT_LX p1.2.1), ?_⟩⟩) (fun q => ⟨fun _ => K1 t cs g (by rw [e0, if_neg q]) p, fun z => absurd nI_0 z⟩)⟩
  have l := f.2.2.2.2.2 (by omega)
  have x := nx_ok p.1 (show tkK t ≠ 24 by omega)
  rw [e0, if_pos q] at K1 K0
  refine ia d (D - 1) (nx T n t) cs g1 _ hd (by omega) (by omega) (by omega) p1 (fun t2 cs2 g2 e2 p2 => ⟨S_223 (RmT_LX p2.2.1), ?_⟩) (fun e g2 e2 f2 => ⟨S_223 f2.1, x_codes f2.1 (MF_11 f2) ?_⟩)
  · have go := pp_go k 0 d (nx T n t) cs t2 cs2 x.1 e2
    rw [e2, bnd_r] at K1 K0
    have f2 := TkOK_f p2.1
    have c2 := go.2.2.2.1
    have c3 := go.2.1
    have c4 : cX0 0 = 1 := rfl
    exact PM_codes p2 (by omega) (fun g3 p3 => il d D t2 (cpu 3002 cs2) g3 Q hd (by omega) hD (by show cs2.1 + 1 ≤ _; omega) p3 K1 K0)
  · rw [e2] at K0
    have k0 := K0 e g2 rfl f2
    cases k with
    | zero => omega
    | succ k => exact ⟨S_223 f2.1, x_eats f2.1 (MF_11 f2) ⟨fun _ => k0, fun z => absurd nI_0 z⟩⟩
theorem m_term (ia : MLs hb T n m MX10_readAtom k 0) (il : MLp hb T n m VTerm k 2 1) : MLs hb T n m MX10_readTerm (k + 1) 1 := by
  intro d D t cs g Q hd hk hD hc p K1 K0
  have hl := RmT_LX p.2.1
  have f := TkOK_f p.1
  have edp : dpX 1 = 8 := rfl
  have eds : dpX 0 = 7 := rfl
  have erm : rkX 1 = 2 := rfl
  have ers : rkX 0 = 1 := rfl
  have e0 : pp T n m (k + 1) 1 d t cs = bndP (pp T n m k 0 d t cs) (pp T n m k 2 d) := rfl
  rw [e0] at K1 K0
  refine gX10_readTerm (PX10_readAtom := PV MX10_readAtom (D - 1)) (d2 := D - 1) (by omega) (by omega) (fun _ _ _ _ q => q) 223 (nI d) g Q ⟨S_223 hl, ?_⟩
  refine ia d (D - 1) t cs g _ hd (by omega) (by omega) hc p (fun t2 cs2 g2 e2 p2 => ⟨k, ?_⟩) (fun e g2 e2 f2 => ⟨k, ?_⟩)
  · have go := pp_go k 0 d t cs t2 cs2 p.1 e2
    rw [e2, bnd_r] at K1 K0
    have f2 := TkOK_f p2.1
    have c2 := go.2.2.2.1
    have c3 := go.2.1
    have c4 : cX0 0 = 1 := rfl
    exact il d D t2 cs2 g2 Q hd (by omega) (by omega) (by omega) p2 K1 K0
  · rw [e2] at K0
    have k0 := K0 e g2 rfl f2
    cases k with
    | zero => omega
    | succ k => exact ⟨S_223 f2.1, x_eats f2.1 (MF_11 f2) ⟨fun _ => k0, fun z => absurd nI_0 z⟩⟩
theorem m_bothL (ia : MLs hb T n m MX10_readUnit k 5) (il : MLp hb T n m VBoth k 7 6) : MLp hb T n m VBoth (k + 1) 7 6 := by
  intro d D t cs g Q hd hk hD hc p K1 K0
  have hl := RmT_LX p.2.1
  have f := TkOK_f p.1
  have hn := RmT_n p.2.1
  have edp : dpX 6 = 11 := rfl
  have eds : dpX 5 = 10 := rfl
  have ers : rkX 5 = 4 := rfl
  have e0 : pp T n m (k + 1) 7 d t cs = if tkK t = 16 then bndP (pp T n m k 5 d (nx T n t) cs) (fun t cs => pp T n m k 7 d t (cpu 3007 cs)) else .inr (t, cs) := rfl
  refine ⟨S_223 hl, PM_eats p (by omega) (fun q g1 p1 => ⟨fun z => absurd z (by decide), fun _ => ⟨S_223 (RmT_LX p1.2.1), ?_⟩⟩) (fun q => ⟨fun _ => K1 t cs g (by rw [e0, if_neg q]) p, fun z => absurd nI_0 z⟩)⟩
  have l := f.2.2.2.2.2 (by omega)
  have x := nx_ok p.1 (show tkK t ≠ 24 by omega)
  rw [e0, if_pos q] at K1 K0
  refine ia d (D - 1) (nx T n t) cs g1 _ hd (by omega) (by omega) (by omega) p1 (fun t2 cs2 g2 e2 p2 => ⟨S_223 (RmT_LX p2.2.1), ?_⟩) (fun e g2 e2 f2 => ⟨S_223 f2.1, x_codes f2.1 (MF_11 f2) ?_⟩)
  · have go := pp_go k 5 d (nx T n t) cs t2 cs2 x.1 e2
    rw [e2, bnd_r] at K1 K0
    have f2 := TkOK_f p2.1
    have c2 := go.2.2.2.1
    have c3 := go.2.1
    have c4 : cX0 5 = 1 := rfl
    exact PM_codes p2 (by omega) (fun g3 p3 => il d D t2 (cpu 3007 cs2) g3 Q hd (by omega) hD (by show cs2.1 + 1 ≤ _; omega) p3 K1 K0)
  · rw [e2] at K0
    have k0 := K0 e g2 rfl f2
    cases k with
    | zero => omega
    | succ k => exact ⟨S_223 f2.1, x_eats f2.1 (MF_11 f2) ⟨fun _ => k0, fun z => absurd nI_0 z⟩⟩
theorem m_both (ia : MLs hb T n m MX10_readUnit k 5) (il : MLp hb T n m VBoth k 7 6) : MLs hb T n m MX10_readBoth (k + 1) 6 := by
  intro d D t cs g Q hd hk hD hc p K1 K0
  have hl := RmT_LX p.2.1
  have f := TkOK_f p.1
  have edp : dpX 6 = 11 := rfl
  have eds : dpX 5 = 10 := rfl
  have erm : rkX 6 = 5 := rfl
  have ers : rkX 5 = 4 := rfl
  have e0 : pp T n m (k + 1) 6 d t cs = bndP (pp T n m k 5 d t cs) (pp T n m k 7 d) := rfl
  rw [e0] at K1 K0
  refine gX10_readBoth (PX10_readUnit := PV MX10_readUnit (D - 1)) (d2 := D - 1) (by omega) (by omega) (fun _ _ _ _ q => q) 223 (nI d) g Q ⟨S_223 hl, ?_⟩
  refine ia d (D - 1) t cs g _ hd (by omega) (by omega) hc p (fun t2 cs2 g2 e2 p2 => ⟨k, ?_⟩) (fun e g2 e2 f2 => ⟨k, ?_⟩)
  · have go := pp_go k 5 d t cs t2 cs2 p.1 e2
    rw [e2, bnd_r] at K1 K0
    have f2 := TkOK_f p2.1
    have c2 := go.2.2.2.1
    have c3 := go.2.1
    have c4 : cX0 5 = 1 := rfl
    exact il d D t2 cs2 g2 Q hd (by omega) (by omega) (by omega) p2 K1 K0
  · rw [e2] at K0
    have k0 := K0 e g2 rfl f2
    cases k with
    | zero => omega
    | succ k => exact ⟨S_223 f2.1, x_eats f2.1 (MF_11 f2) ⟨fun _ => k0, fun z => absurd nI_0 z⟩⟩
theorem m_truthL (ia : MLs hb T n m MX10_readBoth k 6) (il : MLp hb T n m VTruth k 9 8) : MLp hb T n m VTruth (k + 1) 9 8 := by
  intro d D t cs g Q hd hk hD hc p K1 K0
  have hl := RmT_LX p.2.1
  have f := TkOK_f p.1
  have hn := RmT_n p.2.1
  have edp : dpX 8 = 12 := rfl
  have eds : dpX 6 = 11 := rfl
  have ers : rkX 6 = 5 := rfl
  have e0 : pp T n m (k + 1) 9 d t cs = if tkK t = 17 then bndP (pp T n m k 6 d (nx T n t) cs) (fun t cs => pp T n m k 9 d t (cpu 3008 cs)) else .inr (t, cs) := rfl
  refine ⟨S_223 hl, PM_eats p (by omega) (fun q g1 p1 => ⟨fun z => absurd z (by decide), fun _ => ⟨S_223 (RmT_LX p1.2.1), ?_⟩⟩) (fun q => ⟨fun _ => K1 t cs g (by rw [e0, if_neg q]) p, fun z => absurd nI_0 z⟩)⟩
  have l := f.2.2.2.2.2 (by omega)
  have x := nx_ok p.1 (show tkK t ≠ 24 by omega)
  rw [e0, if_pos q] at K1 K0
  refine ia d (D - 1) (nx T n t) cs g1 _ hd (by omega) (by omega) (by omega) p1 (fun t2 cs2 g2 e2 p2 => ⟨S_223 (RmT_LX p2.2.1), ?_⟩) (fun e g2 e2 f2 => ⟨S_223 f2.1, x_codes f2.1 (MF_11 f2) ?_⟩)
  · have go := pp_go k 6 d (nx T n t) cs t2 cs2 x.1 e2
    rw [e2, bnd_r] at K1 K0
    have f2 := TkOK_f p2.1
    have c2 := go.2.2.2.1
    have c3 := go.2.1
    have c4 : cX0 6 = 1 := rfl
    exact PM_codes p2 (by omega) (fun g3 p3 => il d D t2 (cpu 3008 cs2) g3 Q hd (by omega) hD (by show cs2.1 + 1 ≤ _; omega) p3 K1 K0)
  · rw [e2] at K0
    have k0 := K0 e g2 rfl f2
    cases k with
    | zero => omega
    | succ k => exact ⟨S_223 f2.1, x_eats f2.1 (MF_11 f2) ⟨fun _ => k0, fun z => absurd nI_0 z⟩⟩
theorem m_truth (ia : MLs hb T n m MX10_readBoth k 6) (il : MLp hb T n m VTruth k 9 8) : MLs hb T n m MX10_readTruth (k + 1) 8 := by
  intro d D t cs g Q hd hk hD hc p K1 K0
  have hl := RmT_LX p.2.1
  have f := TkOK_f p.1
  have edp : dpX 8 = 12 := rfl
  have eds : dpX 6 = 11 := rfl
  have erm : rkX 8 = 6 := rfl
  have ers : rkX 6 = 5 := rfl
  have e0 : pp T n m (k + 1) 8 d t cs = bndP (pp T n m k 6 d t cs) (pp T n m k 9 d) := rfl
  rw [e0] at K1 K0
  refine gX10_readTruth (PX10_readBoth := PV MX10_readBoth (D - 1)) (d2 := D - 1) (by omega) (by omega) (fun _ _ _ _ q => q) 223 (nI d) g Q ⟨S_223 hl, ?_⟩
  refine ia d (D - 1) t cs g _ hd (by omega) (by omega) hc p (fun t2 cs2 g2 e2 p2 => ⟨k, ?_⟩) (fun e g2 e2 f2 => ⟨k, ?_⟩)
  · have go := pp_go k 6 d t cs t2 cs2 p.1 e2
    rw [e2, bnd_r] at K1 K0
    have f2 := TkOK_f p2.1
    have c2 := go.2.2.2.1
    have c3 := go.2.1
    have c4 : cX0 6 = 1 := rfl
    exact il d D t2 cs2 g2 Q hd (by omega) (by omega) (by omega) p2 K1 K0
  · rw [e2] at K0
    have k0 := K0 e g2 rfl f2
    cases k with
    | zero => omega
    | succ k => exact ⟨S_223 f2.1, x_eats f2.1 (MF_11 f2) ⟨fun _ => k0, fun z => absurd nI_0 z⟩⟩
theorem m_sumL (ia : MLs hb T n m MX10_readTerm k 1) (il : MLp hb T n m VSum k 4 3) : MLp hb T n m VSum (k + 1) 4 3 := by
  intro d D t cs g Q hd hk hD hc p K1 K0
  have hl := RmT_LX p.2.1
  have f := TkOK_f p.1
  have hn := RmT_n p.2.1
  have edp : dpX 3 = 9 := rfl
  have eds : dpX 1 = 8 := rfl
  have ers : rkX 1 = 2 := rfl
  have e0 : pp T n m (k + 1) 4 d t cs = if tkK t = 32 ∨ tkK t = 33 then bndP (pp T n m k 1 d (nx T n t) cs) (fun u cs => pp T n m k 4 d u (cpu (if tkK t = 32 then 3000 else 3001) cs)) else .inr (t, cs) := rfl
  have k9 : hI g 223 9 = nI (tkK t) := by
    obtain ⟨_, ⟨nu, wa, r, _⟩, _⟩ := p
    exact r.2.2.2.2.2.1
  have go : (tkK t = 32 ∨ tkK t = 33) → wX10_readSum_23 Q (PV MX10_readTerm (D - 1)) (wX10_readSum_5 Q (PV MX10_readTerm (D - 1)) k) 223 (nI d) g := fun q => by
    have l := f.2.2.2.2.2 (by omega)
    have x := nx_ok p.1 (show tkK t ≠ 24 by omega)
    rw [e0, if_pos q] at K1 K0
    refine ⟨S_223 hl, ?_⟩
    have ec : (if hI g 223 9 = nI 32 then nI 3000 else nI 3001) = nI (if tkK t = 32 then 3000 else 3001) := by
      rw [k9]
      by_cases y : tkK t = 32
      · rw [if_pos y, if_pos (by rw [y])]
      · rw [if_neg y, if_neg (fun z => y ((nI_eq (by omega) (by omega)).mp z))]
    rw [ec]
    refine ⟨S_223 hl, PM_next p (fun g1 p1 => ⟨S_223 (RmT_LX p1.2.1), ?_⟩)⟩
    refine ia d (D - 1) (nx T n t) cs g1 _ hd (by omega) (by omega) (by omega) p1 (fun t2 cs2 g2 e2 p2 => ⟨S_223 (RmT_LX p2.2.1), ?_⟩) (fun e g2 e2 f2 => ⟨S_223 f2.1, x_codes f2.1 (MF_11 f2) ?_⟩)
    · have go := pp_go k 1 d (nx T n t) cs t2 cs2 x.1 e2
      rw [e2, bnd_r] at K1 K0
      have f2 := TkOK_f p2.1
      have c2 := go.2.2.2.1
      have c3 := go.2.1
      have c4 : cX0 1 = 1 := rfl
      exact PM_codes p2 (by omega) (fun g3 p3 => il d D t2 (cpu _ cs2) g3 Q hd (by omega) hD (by show cs2.1 + 1 ≤ _; omega) p3 K1 K0)
    · rw [e2] at K0
      have k0 := K0 e g2 rfl f2
      cases k with
      | zero => omega
      | succ k => exact ⟨S_223 f2.1, m_is1 f2.1 (MF_11 f2) ⟨fun z => absurd nI_0 z, fun _ => ⟨S_223 f2.1, m_is1 f2.1 (MF_11 f2) ⟨fun _ => k0, fun z => absurd nI_0 z⟩⟩⟩⟩
  refine ⟨S_223 hl, PM_is p (by omega) ?_⟩
  by_cases q : tkK t = 32
  · rw [if_pos q]
    exact ⟨fun _ => go (Or.inl q), fun z => absurd z (by decide)⟩
  · rw [if_neg q]
    refine ⟨fun z => absurd nI_0 z, fun _ => ⟨S_223 hl, PM_is p (by omega) ?_⟩⟩
    by_cases q2 : tkK t = 33
    · rw [if_pos q2]
      exact ⟨fun z => absurd z (by decide), fun _ => go (Or.inr q2)⟩
    · rw [if_neg q2]
      exact ⟨fun _ => K1 t cs g (by rw [e0, if_neg (by omega)]) p, fun z => absurd nI_0 z⟩
theorem m_sum (ia : MLs hb T n m MX10_readTerm k 1) (il : MLp hb T n m VSum k 4 3) : MLs hb T n m MX10_readSum (k + 1) 3 := by
  intro d D t cs g Q hd hk hD hc p K1 K0
  have hl := RmT_LX p.2.1
  have f := TkOK_f p.1
  have edp : dpX 3 = 9 := rfl
  have eds : dpX 1 = 8 := rfl
  have erm : rkX 3 = 3 := rfl
  have ers : rkX 1 = 2 := rfl
  have e0 : pp T n m (k + 1) 3 d t cs = bndP (pp T n m k 1 d t cs) (pp T n m k 4 d) := rfl
  rw [e0] at K1 K0
  refine gX10_readSum (PX10_readTerm := PV MX10_readTerm (D - 1)) (d2 := D - 1) (by omega) (by omega) (fun _ _ _ _ q => q) 223 (nI d) g Q ⟨S_223 hl, ?_⟩
  refine ia d (D - 1) t cs g _ hd (by omega) (by omega) hc p (fun t2 cs2 g2 e2 p2 => ⟨k, ?_⟩) (fun e g2 e2 f2 => ⟨k, ?_⟩)
  · have go := pp_go k 1 d t cs t2 cs2 p.1 e2
    rw [e2, bnd_r] at K1 K0
    have f2 := TkOK_f p2.1
    have c2 := go.2.2.2.1
    have c3 := go.2.1
    have c4 : cX0 1 = 1 := rfl
    exact il d D t2 cs2 g2 Q hd (by omega) (by omega) (by omega) p2 K1 K0
  · rw [e2] at K0
    have k0 := K0 e g2 rfl f2
    cases k with
    | zero => omega
    | succ k => exact ⟨S_223 f2.1, m_is1 f2.1 (MF_11 f2) ⟨fun z => absurd nI_0 z, fun _ => ⟨S_223 f2.1, m_is1 f2.1 (MF_11 f2) ⟨fun _ => k0, fun z => absurd nI_0 z⟩⟩⟩⟩
theorem m_if (i8 : MLs hb T n m MX10_readTruth k 8) (i3 : MLs hb T n m MX10_readSum k 3) : MIf hb T n m (k + 1) := by
  intro d D t cs g Q hd hkd hk hD9 hD hc p K1 K0 K6
  have hl := RmT_LX p.2.1
  have f := TkOK_f p.1
  have hn := RmT_n p.2.1
  have ed8 : dpX 8 = 12 := rfl
  have ed3 : dpX 3 = 9 := rfl
  have er8 : rkX 8 = 6 := rfl
  have er3 : rkX 3 = 3 := rfl
  have cc8 : cX0 8 = 1 := rfl
  have cc3 : cX0 3 = 1 := rfl
  have x := nx_ok p.1 (show tkK t ≠ 24 by omega)
  have eat1 : ∀ {i : Nat} {t : TK} {cs : CD} {F : TK → CD → PR}, tkK t = i → eatP T n i t cs F = F (nx T n t) cs := fun h => by unfold eatP; rw [if_pos h]
  have eat0 : ∀ {i : Nat} {t : TK} {cs : CD} {F : TK → CD → PR}, tkK t ≠ i → eatP T n i t cs F = .inl (flt t 2) := fun h => by unfold eatP; rw [if_neg h]
  refine gX10_readIf (PX10_readSum := PV MX10_readSum (D - 1)) (PX10_readTruth := PV MX10_readTruth (D - 1)) (d2 := D - 1) (by omega) (by omega) (fun _ _ _ _ q => q) (fun _ _ _ _ q => q) 223 (nI d) g Q ⟨S_223 hl, PM_goes p hd (fun d6 g0 p0 => ⟨fun _ => ⟨S_223 (RmT_LX p0.2.1), ?_⟩, fun z => absurd z (by decide)⟩) (fun d6 g0 f0 => ⟨fun z => absurd nI_0 z, fun _ => K6 g0 d6 f0⟩)⟩
  have e0 : pp T n m (k + 1) 10 (d + 1) (nx T n t) cs = sChoice T n (pp T n m k) (d + 1) (nx T n t) cs := rfl
  have K1 := fun t2 cs2 g2 => K1 t2 cs2 g2 d6
  have K0 := fun e g2 => K0 e g2 d6
  rw [e0] at K1 K0
  unfold sChoice at K1 K0
  have D12 : 13 ≤ D := by omega
  have end72 : ∀ g2, LX g2 → hI g2 223 11 ≠ 0 → Q g2 → wX10_readIf_72 Q (PV MX10_readSum (D - 1)) (PV MX10_readTruth (D - 1)) 223 g2 := fun g2 hl2 hf2 q2 => ⟨S_223 hl2, x_codes hl2 hf2 q2⟩
  have end51 : ∀ g2, LX g2 → hI g2 223 11 ≠ 0 → Q g2 → wX10_readIf_51 Q (PV MX10_readSum (D - 1)) (PV MX10_readTruth (D - 1)) 223 (nI d) g2 := fun g2 hl2 hf2 q2 => ⟨S_223 hl2, x_sum (by omega) hl2 hf2 ⟨S_223 hl2, x_eats hl2 hf2 ⟨fun z => absurd nI_0 z, fun _ => ⟨S_223 hl2, m_fails1 hl2 hf2 (end72 g2 hl2 hf2 q2)⟩⟩⟩⟩
  have end30 : ∀ g2, LX g2 → hI g2 223 11 ≠ 0 → Q g2 → wX10_readIf_30 Q (PV MX10_readSum (D - 1)) (PV MX10_readTruth (D - 1)) 223 (nI d) g2 := fun g2 hl2 hf2 q2 => ⟨S_223 hl2, x_sum (by omega) hl2 hf2 ⟨S_223 hl2, x_eats hl2 hf2 ⟨fun z => absurd nI_0 z, fun _ => ⟨S_223 hl2, m_fails1 hl2 hf2 (end51 g2 hl2 hf2 q2)⟩⟩⟩⟩
  rw [nI_add]
  refine i8 (d + 1) (D - 1) (nx T n t) cs g0 _ (by omega) (by omega) (by omega) (by omega) p0 (fun t1 c1 g1 e1 p1 => ⟨S_223 (RmT_LX p1.2.1), ?_⟩) (fun e g1 e1 f1 => ⟨S_223 f1.1, x_eats f1.1 (MF_11 f1) ⟨fun z => absurd nI_0 z, fun _ => ⟨S_223 f1.1, m_fails1 f1.1 (MF_11 f1) (end30 g1 f1.1 (MF_11 f1) (by rw [e1] at K0; exact K0 e g1 rfl f1))⟩⟩⟩)
  have go1 := pp_go k 8 (d + 1) (nx T n t) cs t1 c1 x.1 e1
  have v1 := go1.2.2.2.1
  have w1 := go1.2.1
  have u1 := TkOK_f p1.1
  rw [e1, bnd_r] at K1 K0
  refine PM_eats p1 (by omega) (fun y2 g2 p2 => ⟨fun _ => ⟨S_223 (RmT_LX p2.2.1), ?_⟩, fun z => absurd z (by decide)⟩) (fun y2 => ⟨fun z => absurd nI_0 z, fun _ => ⟨S_223 (RmT_LX p1.2.1), PM_fails p1 (by omega) (fun g2 f2 => end30 g2 f2.1 (MF_11 f2) (K0 _ g2 (eat0 y2) f2))⟩⟩)
  have x1 := nx_ok p1.1 (show tkK t1 ≠ 24 by omega)
  have K1 : ∀ t2 cs2 g2, bndP (pp T n m k 3 (d + 1) (nx T n t1) c1) (fun t cs => eatP T n 10 t cs (fun t cs => bndP (pp T n m k 3 (d + 1) t cs) (fun t cs => eatP T n 11 t cs (fun t cs => .inr (t, cpu 3009 cs))))) = .inr (t2, cs2) → PM hb g2 T n m t2 cs2 → Q g2 := fun t2 cs2 g2 h => K1 t2 cs2 g2 ((eat1 y2).trans h)
  have K0 : ∀ e g2, bndP (pp T n m k 3 (d + 1) (nx T n t1) c1) (fun t cs => eatP T n 10 t cs (fun t cs => bndP (pp T n m k 3 (d + 1) t cs) (fun t cs => eatP T n 11 t cs (fun t cs => .inr (t, cpu 3009 cs))))) = .inl e → MF hb g2 e → Q g2 := fun e g2 h => K0 e g2 ((eat1 y2).trans h)
  rw [nI_add]
  refine i3 (d + 1) (D - 1) (nx T n t1) c1 g2 _ (by omega) (by omega) (by omega) (by omega) p2 (fun t3 c3 g3 e3 p3 => ⟨S_223 (RmT_LX p3.2.1), ?_⟩) (fun e g3 e3 f3 => ⟨S_223 f3.1, x_eats f3.1 (MF_11 f3) ⟨fun z => absurd nI_0 z, fun _ => ⟨S_223 f3.1, m_fails1 f3.1 (MF_11 f3) (end51 g3 f3.1 (MF_11 f3) (by rw [e3] at K0; exact K0 e g3 rfl f3))⟩⟩⟩)
  have go3 := pp_go k 3 (d + 1) (nx T n t1) c1 t3 c3 x1.1 e3
  have v3 := go3.2.2.2.1
  have w3 := go3.2.1
  have u3 := TkOK_f p3.1
  rw [e3, bnd_r] at K1 K0
  refine PM_eats p3 (by omega) (fun y4 g4 p4 => ⟨fun _ => ⟨S_223 (RmT_LX p4.2.1), ?_⟩, fun z => absurd z (by decide)⟩) (fun y4 => ⟨fun z => absurd nI_0 z, fun _ => ⟨S_223 (RmT_LX p3.2.1), PM_fails p3 (by omega) (fun g4 f4 => end51 g4 f4.1 (MF_11 f4) (K0 _ g4 (eat0 y4) f4))⟩⟩)
  have x3 := nx_ok p3.1 (show tkK t3 ≠ 24 by omega)
  have K1 : ∀ t2 cs2 g2, bndP (pp T n m k 3 (d + 1) (nx T n t3) c3) (fun t cs => eatP T n 11 t cs (fun t cs => .inr (t, cpu 3009 cs))) = .inr (t2, cs2) → PM hb g2 T n m t2 cs2 → Q g2 := fun t2 cs2 g2 h => K1 t2 cs2 g2 ((eat1 y4).trans h)
  have K0 : ∀ e g2, bndP (pp T n m k 3 (d + 1) (nx T n t3) c3) (fun t cs => eatP T n 11 t cs (fun t cs => .inr (t, cpu 3009 cs))) = .inl e → MF hb g2 e → Q g2 := fun e g2 h => K0 e g2 ((eat1 y4).trans h)
  rw [nI_add]
  refine i3 (d + 1) (D - 1) (nx T n t3) c3 g4 _ (by omega) (by omega) (by omega) (by omega) p4 (fun t5 c5 g5 e5 p5 => ⟨S_223 (RmT_LX p5.2.1), ?_⟩) (fun e g5 e5 f5 => ⟨S_223 f5.1, x_eats f5.1 (MF_11 f5) ⟨fun z => absurd nI_0 z, fun _ => ⟨S_223 f5.1, m_fails1 f5.1 (MF_11 f5) (end72 g5 f5.1 (MF_11 f5) (by rw [e5] at K0; exact K0 e g5 rfl f5))⟩⟩⟩)
  have go5 := pp_go k 3 (d + 1) (nx T n t3) c3 t5 c5 x3.1 e5
  have v5 := go5.2.2.2.1
  have w5 := go5.2.1
  have u5 := TkOK_f p5.1
  rw [e5, bnd_r] at K1 K0
  refine PM_eats p5 (by omega) (fun y6 g6 p6 => ⟨fun _ => ⟨S_223 (RmT_LX p6.2.1), PM_codes p6 (by omega) (fun g7 p7 => K1 _ _ g7 (eat1 y6) p7)⟩, fun z => absurd z (by decide)⟩) (fun y6 => ⟨fun z => absurd nI_0 z, fun _ => ⟨S_223 (RmT_LX p5.2.1), PM_fails p5 (by omega) (fun g6 f6 => end72 g6 f6.1 (MF_11 f6) (K0 _ g6 (eat0 y6) f6))⟩⟩)
end MP2
