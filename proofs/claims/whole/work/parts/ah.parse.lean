/-! Part ah: the laws' parser, pure. -/
def nx (T : Nat → Nat) (n : Nat) (t : TK) : TK := tkN T n (tkB t)
def TkOK (T : Nat → Nat) (n : Nat) (t : TK) : Prop := tkA t ≤ n ∧ t = tkAt T n (tkA t)
theorem TkOK_N {T : Nat → Nat} {n p : Nat} (hp : p ≤ n) : TkOK T n (tkN T n p) := by
  have s := sk_spec (c := isBl) (T := T) hp
  have t := tkAt_ok (T := T) s.2.1
  unfold TkOK tkN
  rw [t.1]
  exact ⟨s.2.1, rfl⟩
theorem TkOK_f {T : Nat → Nat} {n : Nat} {t : TK} (h : TkOK T n t) : tkA t ≤ tkB t ∧ tkB t ≤ n ∧ tkK t ≤ 41 ∧ tkV t < 1000 ∧ (tkK t = 24 ↔ tkA t = n) ∧ (tkK t ≠ 24 → tkA t < tkB t ∧ tkA t < n) := by
  obtain ⟨h1, h2⟩ := h
  have o := tkAt_ok (T := T) h1
  rw [← h2] at o
  refine ⟨o.2.1, o.2.2.1, o.2.2.2.1, o.2.2.2.2.1, o.2.2.2.2.2.1, fun z => ?_⟩
  have : ¬ tkA t = n := fun y => z (o.2.2.2.2.2.1.mpr y)
  have lt : tkA t < n := by omega
  exact ⟨o.2.2.2.2.2.2 lt, lt⟩
theorem nx_ok {T : Nat → Nat} {n : Nat} {t : TK} (h : TkOK T n t) (hk : tkK t ≠ 24) : TkOK T n (nx T n t) ∧ tkA t < tkA (nx T n t) ∧ tkA (nx T n t) ≤ n := by
  have f := TkOK_f h
  have g := tkN_ok (T := T) (show tkB t ≤ n from f.2.1)
  have l := f.2.2.2.2.2 hk
  exact ⟨TkOK_N f.2.1, by show tkA t < tkA (tkN T n (tkB t)); omega, (TkOK_N f.2.1).1⟩
/-- a law's code: how long, and the codes -/
abbrev CD : Type := Nat × (Nat → Nat)
def cpu (c : Nat) (cs : CD) : CD := (cs.1 + 1, fun i => if i = cs.1 then c else cs.2 i)
/-- the code of a word, in costs (m = 0) or in may (m = 1); 9999: none -/
def wdC (m k : Nat) : Nat := if k = 2 then 1000 else if k = 4 then 1001 else if k = 5 then 1002 else if k = 12 then (if m = 0 then 1003 else 9999) else if k = 13 then (if m = 0 then 1004 else 9999) else if k = 14 then (if m = 0 then 9999 else 1005) else if k = 15 then (if m = 0 then 9999 else 1006) else 9999
/-- a fault and its place, or the token behind and the code -/
abbrev PR : Type := (Nat × Nat) ⊕ (TK × CD)
def flt (t : TK) (f : Nat) : Nat × Nat := (if tkK t = 25 then 1 else f, tkA t)
def bndP (p : PR) (f : TK → CD → PR) : PR := match p with
  | .inl e => .inl e
  | .inr r => f r.1 r.2
def eatP (T : Nat → Nat) (n k : Nat) (t : TK) (cs : CD) (f : TK → CD → PR) : PR := if tkK t = k then f (nx T n t) cs else .inl (flt t 2)
section STEPS
variable (T : Nat → Nat) (n m : Nat) (rec : Nat → Nat → TK → CD → PR) (d : Nat) (t : TK) (cs : CD)
def sAtom : PR := if tkK t = 23 then .inr (nx T n t, cpu (tkV t) cs) else if wdC m (tkK t) ≠ 9999 then .inr (nx T n t, cpu (wdC m (tkK t)) cs) else if tkK t = 35 then (if d = 6 then .inl (flt t 4) else bndP (rec 3 (d + 1) (nx T n t) cs) (fun t cs => eatP T n 36 t cs (fun t cs => .inr (t, cs)))) else if tkK t = 8 then (if d = 6 then .inl (flt t 4) else rec 10 (d + 1) (nx T n t) cs) else .inl (flt t 2)
def sTerm : PR := bndP (rec 0 d t cs) (rec 2 d)
def sTermL : PR := if tkK t = 34 then bndP (rec 0 d (nx T n t) cs) (fun t cs => rec 2 d t (cpu 3002 cs)) else .inr (t, cs)
def sSum : PR := bndP (rec 1 d t cs) (rec 4 d)
def sSumL : PR := if tkK t = 32 ∨ tkK t = 33 then bndP (rec 1 d (nx T n t) cs) (fun u cs => rec 4 d u (cpu (if tkK t = 32 then 3000 else 3001) cs)) else .inr (t, cs)
def sUnit : PR := if tkK t = 18 then (if d = 6 then .inl (flt t 4) else bndP (rec 5 (d + 1) (nx T n t) cs) (fun t cs => .inr (t, cpu 3006 cs))) else if tkK t = 37 then (if d = 6 then .inl (flt t 4) else bndP (rec 8 (d + 1) (nx T n t) cs) (fun t cs => eatP T n 38 t cs (fun t cs => .inr (t, cs)))) else bndP (rec 3 d t cs) (fun t cs => if tkK t = 39 ∨ tkK t = 40 ∨ tkK t = 41 then bndP (rec 3 d (nx T n t) cs) (fun u cs => .inr (u, cpu (3003 + (tkK t - 39)) cs)) else .inl (flt t 2))
def sBoth : PR := bndP (rec 5 d t cs) (rec 7 d)
def sBothL : PR := if tkK t = 16 then bndP (rec 5 d (nx T n t) cs) (fun t cs => rec 7 d t (cpu 3007 cs)) else .inr (t, cs)
def sTruth : PR := bndP (rec 6 d t cs) (rec 9 d)
def sTruthL : PR := if tkK t = 17 then bndP (rec 6 d (nx T n t) cs) (fun t cs => rec 9 d t (cpu 3008 cs)) else .inr (t, cs)
def sChoice : PR := bndP (rec 8 d t cs) (fun t cs => eatP T n 9 t cs (fun t cs => bndP (rec 3 d t cs) (fun t cs => eatP T n 10 t cs (fun t cs => bndP (rec 3 d t cs) (fun t cs => eatP T n 11 t cs (fun t cs => .inr (t, cpu 3009 cs)))))))
end STEPS
/-- the parser: what is read (0 atom, 1 term, 2 its rest, 3 sum, 4 its rest, 5 unit, 6 both, 7 its rest, 8 truth, 9 its rest, 10 choice) -/
def pp (T : Nat → Nat) (n m : Nat) : Nat → Nat → Nat → TK → CD → PR
  | 0, _, _, _, _ => .inl (0, 0)
  | k + 1, X, d, t, cs => match X with
    | 0 => sAtom T n m (pp T n m k) d t cs
    | 1 => sTerm (pp T n m k) d t cs
    | 2 => sTermL T n (pp T n m k) d t cs
    | 3 => sSum (pp T n m k) d t cs
    | 4 => sSumL T n (pp T n m k) d t cs
    | 5 => sUnit T n (pp T n m k) d t cs
    | 6 => sBoth (pp T n m k) d t cs
    | 7 => sBothL T n (pp T n m k) d t cs
    | 8 => sTruth (pp T n m k) d t cs
    | 9 => sTruthL T n (pp T n m k) d t cs
    | 10 => sChoice T n (pp T n m k) d t cs
    | _ => .inl (0, 0)
theorem bnd_inr {p : PR} {f : TK → CD → PR} {r : TK × CD} (h : bndP p f = .inr r) : ∃ t cs, p = .inr (t, cs) ∧ f t cs = .inr r := by
  cases p with
  | inl e => exact absurd h (by unfold bndP; simp)
  | inr q => exact ⟨q.1, q.2, rfl, h⟩
theorem eat_inr {T : Nat → Nat} {n k : Nat} {t : TK} {cs : CD} {f : TK → CD → PR} {r : TK × CD} (h : eatP T n k t cs f = .inr r) : tkK t = k ∧ f (nx T n t) cs = .inr r := by
  unfold eatP at h
  by_cases q : tkK t = k
  · rw [if_pos q] at h; exact ⟨q, h⟩
  · rw [if_neg q] at h; exact absurd h (by simp)
/-- rests may be empty -/
def cX0 (X : Nat) : Nat := if X = 2 ∨ X = 4 ∨ X = 7 ∨ X = 9 then 0 else 1
/-- from t, cs on it was read to t2, cs2, c signs at least -/
def GoP (T : Nat → Nat) (n c : Nat) (t : TK) (cs : CD) (t2 : TK) (cs2 : CD) : Prop := TkOK T n t2 ∧ tkA t + c ≤ tkA t2 ∧ cs.1 ≤ cs2.1 ∧ cs2.1 + tkA t ≤ cs.1 + tkA t2 ∧ ∀ i, i < cs.1 → cs2.2 i = cs.2 i
theorem GoP_rfl {T : Nat → Nat} {n : Nat} {t : TK} {cs : CD} (h : TkOK T n t) : GoP T n 0 t cs t cs := ⟨h, by omega, Nat.le_refl _, by omega, fun _ _ => rfl⟩
theorem GoP_trans {T : Nat → Nat} {n c c2 : Nat} {t t2 t3 : TK} {cs cs2 cs3 : CD} (p : GoP T n c t cs t2 cs2) (q : GoP T n c2 t2 cs2 t3 cs3) : GoP T n (c + c2) t cs t3 cs3 := by
  obtain ⟨p1, p2, p3, p4, p5⟩ := p
  obtain ⟨q1, q2, q3, q4, q5⟩ := q
  exact ⟨q1, by omega, by omega, by omega, fun i hi => (q5 i (by omega)).trans (p5 i hi)⟩
theorem GoP_le {T : Nat → Nat} {n c c2 : Nat} {t t2 : TK} {cs cs2 : CD} (h : c2 ≤ c) (p : GoP T n c t cs t2 cs2) : GoP T n c2 t cs t2 cs2 := ⟨p.1, by have := p.2.1; omega, p.2.2⟩
theorem GoP_nx {T : Nat → Nat} {n : Nat} {t : TK} {cs : CD} (h : TkOK T n t) (hk : tkK t ≠ 24) : GoP T n 1 t cs (nx T n t) cs := by
  have g := nx_ok h hk
  exact ⟨g.1, by omega, Nat.le_refl _, by omega, fun _ _ => rfl⟩
theorem GoP_cpu {T : Nat → Nat} {n c x : Nat} {t t2 : TK} {cs cs2 : CD} (p : GoP T n c t cs t2 cs2) (h : cs2.1 + tkA t + 1 ≤ cs.1 + tkA t2) : GoP T n c t cs t2 (cpu x cs2) := by
  obtain ⟨p1, p2, p3, p4, p5⟩ := p
  refine ⟨p1, p2, by show cs.1 ≤ cs2.1 + 1; omega, by show cs2.1 + 1 + tkA t ≤ _; omega, fun i hi => ?_⟩
  show (if i = cs2.1 then x else cs2.2 i) = _
  rw [if_neg (by omega)]
  exact p5 i hi
theorem sum_inr {a b : TK × CD} (h : (Sum.inr a : PR) = .inr b) : a = b := by injection h
theorem pp_go {T : Nat → Nat} {n m : Nat} : ∀ k X d t cs t2 cs2, TkOK T n t → pp T n m k X d t cs = .inr (t2, cs2) → GoP T n (cX0 X) t cs t2 cs2 := by
  intro k
  induction k with
  | zero => intro X d t cs t2 cs2 _ h; exact absurd h (by show ¬ (Sum.inl (0, 0) : PR) = .inr (t2, cs2); simp)
  | succ k ih =>
    intro X d t cs t2 cs2 ht h
    have two : ∀ X1 X2, cX0 X1 = 1 → bndP (pp T n m k X1 d t cs) (pp T n m k X2 d) = .inr (t2, cs2) → GoP T n 1 t cs t2 cs2 := fun X1 X2 e h => by
      obtain ⟨u, c, h1, h2⟩ := bnd_inr h
      have g1 := ih X1 d t cs u c ht h1
      have g2 := ih X2 d u c t2 cs2 g1.1 h2
      rw [e] at g1
      exact GoP_le (by omega) (GoP_trans g1 g2)
    have rest : ∀ X1 X2 (P : Prop) [Decidable P] (x : Nat), cX0 X1 = 1 → (P → tkK t ≠ 24) → (if P then bndP (pp T n m k X1 d (nx T n t) cs) (fun t cs => pp T n m k X2 d t (cpu x cs)) else .inr (t, cs)) = .inr (t2, cs2) → GoP T n 0 t cs t2 cs2 := fun X1 X2 P _ x e hP h => by
      by_cases q : P
      · rw [if_pos q] at h
        obtain ⟨u, c, h1, h2⟩ := bnd_inr h
        have g0 := GoP_nx (cs := cs) ht (hP q)
        have g1 := ih X1 d (nx T n t) cs u c g0.1 h1
        have g01 := GoP_trans g0 g1
        have g2 := ih X2 d u (cpu x c) t2 cs2 g1.1 h2
        refine GoP_le (by omega) (GoP_trans (GoP_cpu (x := x) g01 ?_) g2)
        have := g0.2.1
        have := g1.2.2.2.1
        omega
      · rw [if_neg q] at h
        have e := sum_inr h
        injection e with e1 e2
        rw [← e1, ← e2]
        exact GoP_rfl ht
    match X, h with
    | 0, h =>
      show GoP T n 1 t cs t2 cs2
      have h : sAtom T n m (pp T n m k) d t cs = .inr (t2, cs2) := h
      unfold sAtom at h
      have one : ∀ x, tkK t ≠ 24 → (Sum.inr (nx T n t, cpu x cs) : PR) = .inr (t2, cs2) → GoP T n 1 t cs t2 cs2 := fun x hk h => by
        have e := sum_inr h
        injection e with e1 e2
        have g := GoP_nx (cs := cs) ht hk
        rw [← e1, ← e2]
        exact GoP_cpu g (by have := g.2.1; omega)
      by_cases q1 : tkK t = 23
      · rw [if_pos q1] at h
        exact one _ (by omega) h
      · rw [if_neg q1] at h
        by_cases q2 : wdC m (tkK t) ≠ 9999
        · rw [if_pos q2] at h
          exact one _ (fun z => by rw [z] at q2; exact q2 (by unfold wdC; simp)) h
        · rw [if_neg q2] at h
          by_cases q3 : tkK t = 35
          · rw [if_pos q3] at h
            by_cases q4 : d = 6
            · rw [if_pos q4] at h; exact absurd h (by simp)
            · rw [if_neg q4] at h
              obtain ⟨u, c, h1, h2⟩ := bnd_inr h
              obtain ⟨h3, h4⟩ := eat_inr h2
              have e := sum_inr h4
              injection e with e1 e2
              have g0 := GoP_nx (cs := cs) ht (by omega)
              have g1 := ih 3 (d + 1) (nx T n t) cs u c g0.1 h1
              have g2 := GoP_nx (cs := c) g1.1 (by omega)
              rw [← e1, ← e2]
              exact GoP_le (by omega) (GoP_trans (GoP_trans g0 g1) g2)
          · rw [if_neg q3] at h
            by_cases q4 : tkK t = 8
            · rw [if_pos q4] at h
              by_cases q5 : d = 6
              · rw [if_pos q5] at h; exact absurd h (by simp)
              · rw [if_neg q5] at h
                have g0 := GoP_nx (cs := cs) ht (by omega)
                have g1 := ih 10 (d + 1) (nx T n t) cs t2 cs2 g0.1 h
                exact GoP_le (by omega) (GoP_trans g0 g1)
            · rw [if_neg q4] at h; exact absurd h (by simp)
    | 1, h => exact two 0 2 rfl h
    | 2, h => exact rest 0 2 (tkK t = 34) 3002 rfl (fun z => by omega) h
    | 3, h => exact two 1 4 rfl h
    | 4, h => exact rest 1 4 (tkK t = 32 ∨ tkK t = 33) (if tkK t = 32 then 3000 else 3001) rfl (fun z => by omega) h
    | 5, h =>
      show GoP T n 1 t cs t2 cs2
      have h : sUnit T n (pp T n m k) d t cs = .inr (t2, cs2) := h
      unfold sUnit at h
      by_cases q1 : tkK t = 18
      · rw [if_pos q1] at h
        by_cases q4 : d = 6
        · rw [if_pos q4] at h; exact absurd h (by simp)
        · rw [if_neg q4] at h
          obtain ⟨u, c, h1, h2⟩ := bnd_inr h
          have e := sum_inr h2
          injection e with e1 e2
          have g0 := GoP_nx (cs := cs) ht (by omega)
          have g1 := ih 5 (d + 1) (nx T n t) cs u c g0.1 h1
          rw [← e1, ← e2]
          refine GoP_cpu (GoP_le (by omega) (GoP_trans g0 g1)) ?_
          have := g0.2.1
          have := g1.2.2.2.1
          omega
      · rw [if_neg q1] at h
        by_cases q2 : tkK t = 37
        · rw [if_pos q2] at h
          by_cases q4 : d = 6
          · rw [if_pos q4] at h; exact absurd h (by simp)
          · rw [if_neg q4] at h
            obtain ⟨u, c, h1, h2⟩ := bnd_inr h
            obtain ⟨h3, h4⟩ := eat_inr h2
            have e := sum_inr h4
            injection e with e1 e2
            have g0 := GoP_nx (cs := cs) ht (by omega)
            have g1 := ih 8 (d + 1) (nx T n t) cs u c g0.1 h1
            have g2 := GoP_nx (cs := c) g1.1 (by omega)
            rw [← e1, ← e2]
            exact GoP_le (by omega) (GoP_trans (GoP_trans g0 g1) g2)
        · rw [if_neg q2] at h
          obtain ⟨u, c, h1, h2⟩ := bnd_inr h
          by_cases q3 : tkK u = 39 ∨ tkK u = 40 ∨ tkK u = 41
          · rw [if_pos q3] at h2
            obtain ⟨u2, c2, h3, h4⟩ := bnd_inr h2
            have e := sum_inr h4
            injection e with e1 e2
            have g1 := ih 3 d t cs u c ht h1
            have g0 := GoP_nx (cs := c) g1.1 (by omega)
            have g2 := ih 3 d (nx T n u) c u2 c2 g0.1 h3
            rw [← e1, ← e2]
            refine GoP_cpu (GoP_le ?_ (GoP_trans (GoP_trans g1 g0) g2)) ?_
            · show 1 ≤ 1 + 1 + 1; omega
            · have := g0.2.1
              have := g1.2.2.2.1
              have := g2.2.2.2.1
              omega
          · rw [if_neg q3] at h2; exact absurd h2 (by simp)
    | 6, h => exact two 5 7 rfl h
    | 7, h => exact rest 5 7 (tkK t = 16) 3007 rfl (fun z => by omega) h
    | 8, h => exact two 6 9 rfl h
    | 9, h => exact rest 6 9 (tkK t = 17) 3008 rfl (fun z => by omega) h
    | 10, h =>
      show GoP T n 1 t cs t2 cs2
      have h : sChoice T n (pp T n m k) d t cs = .inr (t2, cs2) := h
      unfold sChoice at h
      obtain ⟨u1, c1, h1, h2⟩ := bnd_inr h
      obtain ⟨h3, h4⟩ := eat_inr h2
      obtain ⟨u2, c2, h5, h6⟩ := bnd_inr h4
      obtain ⟨h7, h8⟩ := eat_inr h6
      obtain ⟨u3, c3, h9, h10⟩ := bnd_inr h8
      obtain ⟨h11, h12⟩ := eat_inr h10
      have e := sum_inr h12
      injection e with e1 e2
      have g1 := ih 8 d t cs u1 c1 ht h1
      have f1 := GoP_nx (cs := c1) g1.1 (by omega)
      have g2 := ih 3 d (nx T n u1) c1 u2 c2 f1.1 h5
      have f2 := GoP_nx (cs := c2) g2.1 (by omega)
      have g3 := ih 3 d (nx T n u2) c2 u3 c3 f2.1 h9
      have f3 := GoP_nx (cs := c3) g3.1 (by omega)
      rw [← e1, ← e2]
      refine GoP_cpu (GoP_le ?_ (GoP_trans (GoP_trans (GoP_trans (GoP_trans (GoP_trans g1 f1) g2) f2) g3) f3)) ?_
      · show 1 ≤ 1 + 1 + 1 + 1 + 1 + 1; omega
      · have := f1.2.1
        have := f2.2.1
        have := g1.2.2.2.1
        have := g2.2.2.2.1
        have := g3.2.2.2.1
        have := f3.2.1
        omega
    | x + 11, h => exact absurd h (by show ¬ (Sum.inl (0, 0) : PR) = .inr (t2, cs2); simp)
