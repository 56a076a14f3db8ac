/-! Part aj: the class's parser. -/
theorem i10 : (if (nI 1 : Int32) = 0 then nI 0 else nI 1) = nI 1 := by decide
theorem i00 : (if (nI 0 : Int32) = 0 then nI 0 else nI 1) = nI 0 := by decide
def rkX (X : Nat) : Nat := if X = 1 then 2 else if X = 3 then 3 else if X = 5 then 4 else if X = 6 then 5 else if X = 8 then 6 else if X = 10 then 7 else 1
def dpX (X : Nat) : Nat := if X = 0 then 7 else if X = 1 then 8 else if X = 3 then 9 else if X = 5 then 10 else if X = 6 then 11 else if X = 8 then 12 else 13
section CPARSE
variable (hb : MH) (T : Nat → Nat) (n m : Nat)
/-- what a reading method of the class does -/
def CLs (M : MI) (k X : Nat) : Prop := ∀ (d D : Nat) (t : TK) (cs : CD) (g : MH) (Q : Int32 → MH → Prop), d ≤ 6 → 8 * (n - tkA t) + rkX X ≤ k → 10 * (6 - d) + dpX X ≤ D → cs.1 ≤ tkA t → PC hb g T n m t cs → (∀ t2 cs2 g2, pp T n m k X d t cs = .inr (t2, cs2) → PC hb g2 T n m t2 cs2 → Q (nI 1) g2) → (∀ e g2, pp T n m k X d t cs = .inl e → PF hb g2 e → Q (nI 0) g2) → Cm M D 0 0 [.ref 129, .int (nI d)] g (pI Q)
/-- what its loop does -/
def LPs (W : (Int32 → MH → Prop) → Nat → Nat → Nat → Int32 → Int32 → Int32 → MH → Prop) (k X Y : Nat) : Prop := ∀ (d D i : Nat) (t : TK) (cs : CD) (g : MH) (Q : Int32 → MH → Prop), d ≤ 6 → 8 * (n - tkA t) + 1 ≤ k → 10 * (6 - d) + dpX Y ≤ D → cs.1 ≤ tkA t → i ≤ tkA t → PC hb g T n m t cs → (∀ t2 cs2 g2, pp T n m k X d t cs = .inr (t2, cs2) → PC hb g2 T n m t2 cs2 → Q (nI 1) g2) → (∀ e g2, pp T n m k X d t cs = .inl e → PF hb g2 e → Q (nI 0) g2) → W Q (D - 1) k 129 (nI d) (nI 1) (nI i) g
abbrev PA (M : MI) (D : Nat) : Nat → Int32 → MH → (Int32 → MH → Prop) → Prop := fun y0 y1 h Q => Cm M D 0 0 [.ref y0, .int y1] h (pI Q)
def WTerm : (Int32 → MH → Prop) → Nat → Nat → Nat → Int32 → Int32 → Int32 → MH → Prop := fun Q D => wX5_readTerm_8 Q (PA MX5_readAtom D)
def WSum : (Int32 → MH → Prop) → Nat → Nat → Nat → Int32 → Int32 → Int32 → MH → Prop := fun Q D => wX5_readSum_8 Q (PA MX5_readTerm D)
def WBoth : (Int32 → MH → Prop) → Nat → Nat → Nat → Int32 → Int32 → Int32 → MH → Prop := fun Q D => wX5_readBoth_8 Q (PA MX5_readUnit D)
def WTruth : (Int32 → MH → Prop) → Nat → Nat → Nat → Int32 → Int32 → Int32 → MH → Prop := fun Q D => wX5_readTruth_8 Q (PA MX5_readBoth D)
end CPARSE
section CP2
variable {hb : MH} {T : Nat → Nat} {n m k : Nat}
theorem c_termL (ia : CLs hb T n m MX5_readAtom k 0) (il : LPs hb T n m WTerm k 2 1) : LPs hb T n m WTerm (k + 1) 2 1 := by
  intro d D i t cs g Q hd hk hD hc hi p K1 K0
  have hl := p.2.1.1
  have f := TkOK_f p.1
  have hn := p.2.1.2.2.1.1
  have edp : dpX 1 = 8 := rfl
  have eds : dpX 0 = 7 := rfl
  have ers : rkX 0 = 1 := rfl
  have e0 : pp T n m (k + 1) 2 d t cs = if tkK t = 34 then bndP (pp T n m k 0 d (nx T n t) cs) (fun t cs => pp T n m k 2 d t (cpu 3002 cs)) else .inr (t, cs) := rfl
  have out : tkK t ≠ 34 → Q (nI 1) g := fun q => K1 t cs g (by rw [e0, if_neg q]) p
  refine ⟨fun z => ⟨Or.inr (by decide), out (fun q => ?_)⟩, fun _ => ⟨fun z => absurd z (by decide), fun _ => ⟨S_129 hl, PC_isAt p (i := 23) (by omega) (by omega) ?_⟩⟩⟩
  · have l := f.2.2.2.2.2 (by omega)
    exact absurd z (nI_ge (by omega) (by omega))
  · rw [show kdS 23 = 34 from rfl]
    by_cases q : tkK t = 34
    · rw [if_pos q]
      have l := f.2.2.2.2.2 (by omega)
      have x := nx_ok p.1 (show tkK t ≠ 24 by omega)
      rw [e0, if_pos q] at K1 K0
      refine ⟨fun z => absurd z (by decide), fun _ => ⟨S_129 hl, PC_adv p (by omega) (fun g1 p1 => ⟨S_129 p1.2.1.1, ?_⟩)⟩⟩
      refine ia d (D - 1) (nx T n t) cs g1 _ hd (by omega) (by omega) (by omega) p1 (fun t2 cs2 g2 e2 p2 => ?_) (fun e g2 e2 f2 => ?_)
      · have go := pp_go k 0 d (nx T n t) cs t2 cs2 x.1 e2
        rw [e2] at K1 K0
        have f2 := TkOK_f p2.1
        have c2 := go.2.2.2.1
        have c3 := go.2.1
        have c4 : cX0 0 = 1 := rfl
        refine ⟨S_129 p2.2.1.1, 131, R_129_4 p2.2.1.1, S_131 p2.2.1.1, ?_⟩
        rw [show (nI 1007) = nI (ccl 3002) from by decide, nI_add]
        refine PC_put p2 (by omega) (fun g3 p3 => ?_)
        exact il d D (i + 1) t2 (cpu 3002 cs2) g3 Q hd (by omega) hD (by show cs2.1 + 1 ≤ _; omega) (by omega) p3 K1 K0
      · rw [e2] at K0
        refine ⟨S_129 f2.1, 131, R_129_4 f2.1, S_131 f2.1, PF_put f2 (fun g3 f3 => ?_)⟩
        have k0 := K0 e g3 rfl f3
        cases k with
        | zero => omega
        | succ k => exact ⟨fun _ => ⟨Or.inl nI_0, k0⟩, fun _ => ⟨fun _ => ⟨Or.inl nI_0, k0⟩, fun z => absurd nI_0 z⟩⟩
    · rw [if_neg q]
      exact ⟨fun _ => ⟨Or.inr (by decide), out q⟩, fun z => absurd nI_0 z⟩
theorem c_term (ia : CLs hb T n m MX5_readAtom k 0) (il : LPs hb T n m WTerm k 2 1) : CLs hb T n m MX5_readTerm (k + 1) 1 := by
  intro d D t cs g Q hd hk hD hc p K1 K0
  have hl := p.2.1.1
  have f := TkOK_f p.1
  have hn := p.2.1.2.2.1.1
  have edp : dpX 1 = 8 := rfl
  have eds : dpX 0 = 7 := rfl
  have erm : rkX 1 = 2 := rfl
  have ers : rkX 0 = 1 := rfl
  have e0 : pp T n m (k + 1) 1 d t cs = bndP (pp T n m k 0 d t cs) (pp T n m k 2 d) := rfl
  rw [e0] at K1 K0
  refine gX5_readTerm (PX5_readAtom := PA MX5_readAtom (D - 1)) (d2 := D - 1) (by omega) (by omega) (fun _ _ _ _ q => q) 129 (nI d) g Q ⟨S_129 hl, ?_⟩
  refine ia d (D - 1) t cs g _ hd (by omega) (by omega) hc p (fun t2 cs2 g2 e2 p2 => ⟨k, ?_⟩) (fun e g2 e2 f2 => ⟨k, ?_⟩)
  · have go := pp_go k 0 d t cs t2 cs2 p.1 e2
    rw [e2] at K1 K0
    have f2 := TkOK_f p2.1
    have c2 := go.2.2.2.1
    have c3 := go.2.1
    have c4 : cX0 0 = 1 := rfl
    exact il d D 0 t2 cs2 g2 Q hd (by omega) (by omega) (by omega) (by omega) p2 K1 K0
  · rw [e2] at K0
    have k0 := K0 e g2 rfl f2
    cases k with
    | zero => omega
    | succ k => exact ⟨fun _ => ⟨Or.inl nI_0, k0⟩, fun _ => ⟨fun _ => ⟨Or.inl nI_0, k0⟩, fun z => absurd nI_0 z⟩⟩
theorem c_bothL (ia : CLs hb T n m MX5_readUnit k 5) (il : LPs hb T n m WBoth k 7 6) : LPs hb T n m WBoth (k + 1) 7 6 := by
  intro d D i t cs g Q hd hk hD hc hi p K1 K0
  have hl := p.2.1.1
  have f := TkOK_f p.1
  have hn := p.2.1.2.2.1.1
  have edp : dpX 6 = 11 := rfl
  have eds : dpX 5 = 10 := rfl
  have ers : rkX 5 = 4 := rfl
  have e0 : pp T n m (k + 1) 7 d t cs = if tkK t = 16 then bndP (pp T n m k 5 d (nx T n t) cs) (fun t cs => pp T n m k 7 d t (cpu 3007 cs)) else .inr (t, cs) := rfl
  have out : tkK t ≠ 16 → Q (nI 1) g := fun q => K1 t cs g (by rw [e0, if_neg q]) p
  refine ⟨fun z => ⟨Or.inr (by decide), out (fun q => ?_)⟩, fun _ => ⟨fun z => absurd z (by decide), fun _ => ⟨S_129 hl, PC_isAt p (i := 29) (by omega) (by omega) ?_⟩⟩⟩
  · have l := f.2.2.2.2.2 (by omega)
    exact absurd z (nI_ge (by omega) (by omega))
  · rw [show kdS 29 = 16 from rfl]
    by_cases q : tkK t = 16
    · rw [if_pos q]
      have l := f.2.2.2.2.2 (by omega)
      have x := nx_ok p.1 (show tkK t ≠ 24 by omega)
      rw [e0, if_pos q] at K1 K0
      refine ⟨fun z => absurd z (by decide), fun _ => ⟨S_129 hl, PC_adv p (by omega) (fun g1 p1 => ⟨S_129 p1.2.1.1, ?_⟩)⟩⟩
      refine ia d (D - 1) (nx T n t) cs g1 _ hd (by omega) (by omega) (by omega) p1 (fun t2 cs2 g2 e2 p2 => ?_) (fun e g2 e2 f2 => ?_)
      · have go := pp_go k 5 d (nx T n t) cs t2 cs2 x.1 e2
        rw [e2] at K1 K0
        have f2 := TkOK_f p2.1
        have c2 := go.2.2.2.1
        have c3 := go.2.1
        have c4 : cX0 5 = 1 := rfl
        refine ⟨S_129 p2.2.1.1, 131, R_129_4 p2.2.1.1, S_131 p2.2.1.1, ?_⟩
        rw [show (nI 1011) = nI (ccl 3007) from by decide, nI_add]
        refine PC_put p2 (by omega) (fun g3 p3 => ?_)
        exact il d D (i + 1) t2 (cpu 3007 cs2) g3 Q hd (by omega) hD (by show cs2.1 + 1 ≤ _; omega) (by omega) p3 K1 K0
      · rw [e2] at K0
        refine ⟨S_129 f2.1, 131, R_129_4 f2.1, S_131 f2.1, PF_put f2 (fun g3 f3 => ?_)⟩
        have k0 := K0 e g3 rfl f3
        cases k with
        | zero => omega
        | succ k => exact ⟨fun _ => ⟨Or.inl nI_0, k0⟩, fun _ => ⟨fun _ => ⟨Or.inl nI_0, k0⟩, fun z => absurd nI_0 z⟩⟩
    · rw [if_neg q]
      exact ⟨fun _ => ⟨Or.inr (by decide), out q⟩, fun z => absurd nI_0 z⟩
theorem c_both (ia : CLs hb T n m MX5_readUnit k 5) (il : LPs hb T n m WBoth k 7 6) : CLs hb T n m MX5_readBoth (k + 1) 6 := by
  intro d D t cs g Q hd hk hD hc p K1 K0
  have hl := p.2.1.1
  have f := TkOK_f p.1
  have hn := p.2.1.2.2.1.1
  have edp : dpX 6 = 11 := rfl
  have eds : dpX 5 = 10 := rfl
  have erm : rkX 6 = 5 := rfl
  have ers : rkX 5 = 4 := rfl
  have e0 : pp T n m (k + 1) 6 d t cs = bndP (pp T n m k 5 d t cs) (pp T n m k 7 d) := rfl
  rw [e0] at K1 K0
  refine gX5_readBoth (PX5_readUnit := PA MX5_readUnit (D - 1)) (d2 := D - 1) (by omega) (by omega) (fun _ _ _ _ q => q) 129 (nI d) g Q ⟨S_129 hl, ?_⟩
  refine ia d (D - 1) t cs g _ hd (by omega) (by omega) hc p (fun t2 cs2 g2 e2 p2 => ⟨k, ?_⟩) (fun e g2 e2 f2 => ⟨k, ?_⟩)
  · have go := pp_go k 5 d t cs t2 cs2 p.1 e2
    rw [e2] at K1 K0
    have f2 := TkOK_f p2.1
    have c2 := go.2.2.2.1
    have c3 := go.2.1
    have c4 : cX0 5 = 1 := rfl
    exact il d D 0 t2 cs2 g2 Q hd (by omega) (by omega) (by omega) (by omega) p2 K1 K0
  · rw [e2] at K0
    have k0 := K0 e g2 rfl f2
    cases k with
    | zero => omega
    | succ k => exact ⟨fun _ => ⟨Or.inl nI_0, k0⟩, fun _ => ⟨fun _ => ⟨Or.inl nI_0, k0⟩, fun z => absurd nI_0 z⟩⟩
theorem c_truthL (ia : CLs hb T n m MX5_readBoth k 6) (il : LPs hb T n m WTruth k 9 8) : LPs hb T n m WTruth (k + 1) 9 8 := by
  intro d D i t cs g Q hd hk hD hc hi p K1 K0
  have hl := p.2.1.1
  have f := TkOK_f p.1
  have hn := p.2.1.2.2.1.1
  have edp : dpX 8 = 12 := rfl
  have eds : dpX 6 = 11 := rfl
  have ers : rkX 6 = 5 := rfl
  have e0 : pp T n m (k + 1) 9 d t cs = if tkK t = 17 then bndP (pp T n m k 6 d (nx T n t) cs) (fun t cs => pp T n m k 9 d t (cpu 3008 cs)) else .inr (t, cs) := rfl
  have out : tkK t ≠ 17 → Q (nI 1) g := fun q => K1 t cs g (by rw [e0, if_neg q]) p
  refine ⟨fun z => ⟨Or.inr (by decide), out (fun q => ?_)⟩, fun _ => ⟨fun z => absurd z (by decide), fun _ => ⟨S_129 hl, PC_isAt p (i := 30) (by omega) (by omega) ?_⟩⟩⟩
  · have l := f.2.2.2.2.2 (by omega)
    exact absurd z (nI_ge (by omega) (by omega))
  · rw [show kdS 30 = 17 from rfl]
    by_cases q : tkK t = 17
    · rw [if_pos q]
      have l := f.2.2.2.2.2 (by omega)
      have x := nx_ok p.1 (show tkK t ≠ 24 by omega)
      rw [e0, if_pos q] at K1 K0
      refine ⟨fun z => absurd z (by decide), fun _ => ⟨S_129 hl, PC_adv p (by omega) (fun g1 p1 => ⟨S_129 p1.2.1.1, ?_⟩)⟩⟩
      refine ia d (D - 1) (nx T n t) cs g1 _ hd (by omega) (by omega) (by omega) p1 (fun t2 cs2 g2 e2 p2 => ?_) (fun e g2 e2 f2 => ?_)
      · have go := pp_go k 6 d (nx T n t) cs t2 cs2 x.1 e2
        rw [e2] at K1 K0
        have f2 := TkOK_f p2.1
        have c2 := go.2.2.2.1
        have c3 := go.2.1
        have c4 : cX0 6 = 1 := rfl
        refine ⟨S_129 p2.2.1.1, 131, R_129_4 p2.2.1.1, S_131 p2.2.1.1, ?_⟩
        rw [show (nI 1012) = nI (ccl 3008) from by decide, nI_add]
        refine PC_put p2 (by omega) (fun g3 p3 => ?_)
        exact il d D (i + 1) t2 (cpu 3008 cs2) g3 Q hd (by omega) hD (by show cs2.1 + 1 ≤ _; omega) (by omega) p3 K1 K0
      · rw [e2] at K0
        refine ⟨S_129 f2.1, 131, R_129_4 f2.1, S_131 f2.1, PF_put f2 (fun g3 f3 => ?_)⟩
        have k0 := K0 e g3 rfl f3
        cases k with
        | zero => omega
        | succ k => exact ⟨fun _ => ⟨Or.inl nI_0, k0⟩, fun _ => ⟨fun _ => ⟨Or.inl nI_0, k0⟩, fun z => absurd nI_0 z⟩⟩
    · rw [if_neg q]
      exact ⟨fun _ => ⟨Or.inr (by decide), out q⟩, fun z => absurd nI_0 z⟩
theorem c_truth (ia : CLs hb T n m MX5_readBoth k 6) (il : LPs hb T n m WTruth k 9 8) : CLs hb T n m MX5_readTruth (k + 1) 8 := by
  intro d D t cs g Q hd hk hD hc p K1 K0
  have hl := p.2.1.1
  have f := TkOK_f p.1
  have hn := p.2.1.2.2.1.1
  have edp : dpX 8 = 12 := rfl
  have eds : dpX 6 = 11 := rfl
  have erm : rkX 8 = 6 := rfl
  have ers : rkX 6 = 5 := rfl
  have e0 : pp T n m (k + 1) 8 d t cs = bndP (pp T n m k 6 d t cs) (pp T n m k 9 d) := rfl
  rw [e0] at K1 K0
  refine gX5_readTruth (PX5_readBoth := PA MX5_readBoth (D - 1)) (d2 := D - 1) (by omega) (by omega) (fun _ _ _ _ q => q) 129 (nI d) g Q ⟨S_129 hl, ?_⟩
  refine ia d (D - 1) t cs g _ hd (by omega) (by omega) hc p (fun t2 cs2 g2 e2 p2 => ⟨k, ?_⟩) (fun e g2 e2 f2 => ⟨k, ?_⟩)
  · have go := pp_go k 6 d t cs t2 cs2 p.1 e2
    rw [e2] at K1 K0
    have f2 := TkOK_f p2.1
    have c2 := go.2.2.2.1
    have c3 := go.2.1
    have c4 : cX0 6 = 1 := rfl
    exact il d D 0 t2 cs2 g2 Q hd (by omega) (by omega) (by omega) (by omega) p2 K1 K0
  · rw [e2] at K0
    have k0 := K0 e g2 rfl f2
    cases k with
    | zero => omega
    | succ k => exact ⟨fun _ => ⟨Or.inl nI_0, k0⟩, fun _ => ⟨fun _ => ⟨Or.inl nI_0, k0⟩, fun z => absurd nI_0 z⟩⟩
end CP2
