/-! Part ao: the lines of a text, pure; the class's numbers. -/
theorem nI_sur (x : Int32) : ∃ m, x = nI m := ⟨x.toBitVec.toNat, by
  apply Int32.toBitVec_inj.mp
  rw [show (nI x.toBitVec.toNat).toBitVec = BitVec.ofNat 32 x.toBitVec.toNat from rfl, BitVec.ofNat_toNat, BitVec.setWidth_eq]⟩
/-- a told net: (nodes, rate, lines, links), (from, to, long, work), where the law of costs begins and ends in the code, and that of may -/
abbrev TN : Type := (Nat × Nat × Nat × Nat) × ((Nat → Nat) × (Nat → Nat) × (Nat → Nat) × (Nat → Nat)) × (Nat × Nat × Nat × Nat)
def tnK (v : TN) : Nat := v.1.1
def tnR (v : TN) : Nat := v.1.2.1
def tnN (v : TN) : Nat := v.1.2.2.1
def tnL (v : TN) : Nat := v.1.2.2.2
def tnF (v : TN) : Nat → Nat := v.2.1.1
def tnT (v : TN) : Nat → Nat := v.2.1.2.1
def tnO (v : TN) : Nat → Nat := v.2.1.2.2.1
def tnW (v : TN) : Nat → Nat := v.2.1.2.2.2
def tnB (v : TN) (m : Nat) : Nat := if m = 0 then v.2.2.1 else v.2.2.2.2.1
def tnE (v : TN) (m : Nat) : Nat := if m = 0 then v.2.2.2.1 else v.2.2.2.2.2
def upF (f : Nat → Nat) (l x : Nat) : Nat → Nat := fun i => if i = l then x else f i
def tnAdd (v : TN) (a b o w : Nat) : TN := ((tnK v, tnR v, tnN v, tnL v + 1), (upF (tnF v) (tnL v) a, upF (tnT v) (tnL v) b, upF (tnO v) (tnL v) o, upF (tnW v) (tnL v) w), v.2.2)
def tnLaw (v : TN) (m b e : Nat) : TN := (v.1, v.2.1, if m = 0 then (b, e, v.2.2.2.2.1, v.2.2.2.2.2) else (v.2.2.1, v.2.2.2.1, b, e))
def tnUp (v : TN) : TN := ((tnK v, tnR v, tnN v + 1, tnL v), v.2)
/-- whether one of the first l links joins a and b -/
def jnF (f g : Nat → Nat) (a b : Nat) : Nat → Bool
  | 0 => false
  | l + 1 => jnF f g a b l || decide ((f l = a ∧ g l = b) ∨ (f l = b ∧ g l = a))
def bdJ (v : TN) (a b : Nat) : Bool := decide (b = a) || jnF (tnF v) (tnT v) a b (tnL v)
abbrev LR : Type := (Nat × Nat) ⊕ (TK × CD × TN)
section LINES
variable (T : Nat → Nat) (n : Nat)
def numP (t : TK) (lo hi : Nat) (bad : Nat → Bool) (f : Nat → TK → LR) : LR := if tkK t ≠ 23 then .inl (flt t 2) else if tkV t < lo ∨ hi < tkV t ∨ bad (tkV t) = true then .inl (flt t 3) else f (tkV t) (nx T n t)
def eatL (k : Nat) (t : TK) (f : TK → LR) : LR := if tkK t = k then f (nx T n t) else .inl (flt t 2)
def noB (_ : Nat) : Bool := false
def headL (t : TK) : LR := eatL T n 0 t (fun t => eatL T n 1 t (fun t => numP T n t 1 8 noB (fun k t => eatL T n 2 t (fun t => numP T n t 0 9 noB (fun r t => eatL T n 30 t (fun t => .inr (t, (0, fun _ => 0), ((k, r, 1, 0), (fun _ => 0, fun _ => 0, fun _ => 0, fun _ => 0), (0, 0, 0, 0))))))))) 
def linkL (t : TK) (cs : CD) (v : TN) : LR := if tnL v = 10 then .inl (flt t 4) else numP T n (nx T n t) 0 (tnK v - 1) noB (fun a t => numP T n t 0 (tnK v - 1) (bdJ v a) (fun b t => eatL T n 4 t (fun t => numP T n t 1 9 noB (fun o t => eatL T n 5 t (fun t => numP T n t 0 2 noB (fun w t => .inr (t, cs, tnAdd v a b o w)))))))
def lawX (m : Nat) : Nat := if m = 0 then 3 else 8
def lawL (m : Nat) (t : TK) (cs : CD) (v : TN) : LR := eatL T n 31 (nx T n t) (fun t => match pp T n m (8 * n + 8) (lawX m) 0 t cs with
  | .inl e => .inl e
  | .inr r => .inr (r.1, r.2, tnLaw v m cs.1 r.2.1))
def bndL (p : LR) (f : TK → CD → TN → LR) : LR := match p with
  | .inl e => .inl e
  | .inr r => f r.1 r.2.1 r.2.2
def kindL (t : TK) (cs : CD) (v : TN) : LR := if tkK t = 3 then linkL T n t cs v else if tkK t = 6 then lawL T n 0 t cs v else if tkK t = 7 then lawL T n 1 t cs v else .inl (flt t 2)
def lineL (t : TK) (cs : CD) (v : TN) : LR := bndL (kindL T n t cs v) (fun t cs v => eatL T n 30 t (fun t => .inr (t, cs, tnUp v)))
def linesL : Nat → TK → CD → TN → LR
  | 0, _, _, _ => .inl (0, 0)
  | k + 1, t, cs, v => if tkK t = 24 then .inr (t, cs, v) else bndL (lineL T n t cs v) (linesL k)
def netL : LR := bndL (headL T n (tkN T n 0)) (linesL T n (n + 1))
end LINES
section GOL
variable {T : Nat → Nat} {n : Nat}
theorem num_inr {t : TK} {lo hi : Nat} {bad : Nat → Bool} {f : Nat → TK → LR} {r : TK × CD × TN} (h : numP T n t lo hi bad f = .inr r) : tkK t = 23 ∧ lo ≤ tkV t ∧ tkV t ≤ hi ∧ bad (tkV t) = false ∧ f (tkV t) (nx T n t) = .inr r := by
  unfold numP at h
  by_cases q : tkK t ≠ 23
  · rw [if_pos q] at h; exact absurd h (by simp)
  · rw [if_neg q] at h
    by_cases q2 : tkV t < lo ∨ hi < tkV t ∨ bad (tkV t) = true
    · rw [if_pos q2] at h; exact absurd h (by simp)
    · rw [if_neg q2] at h
      refine ⟨by omega, by omega, by omega, ?_, h⟩
      cases e : bad (tkV t)
      · rfl
      · exact absurd (Or.inr (Or.inr e)) q2
theorem eatL_inr {t : TK} {k : Nat} {f : TK → LR} {r : TK × CD × TN} (h : eatL T n k t f = .inr r) : tkK t = k ∧ f (nx T n t) = .inr r := by
  unfold eatL at h
  by_cases q : tkK t = k
  · rw [if_pos q] at h; exact ⟨q, h⟩
  · rw [if_neg q] at h; exact absurd h (by simp)
theorem bndL_inr {p : LR} {f : TK → CD → TN → LR} {r : TK × CD × TN} (h : bndL p f = .inr r) : ∃ t cs v, p = .inr (t, cs, v) ∧ f t cs v = .inr r := by
  cases p with
  | inl e => exact absurd h (by unfold bndL; simp)
  | inr q => exact ⟨q.1, q.2.1, q.2.2, rfl, h⟩
theorem lr_inr {a b : TK × CD × TN} (h : (Sum.inr a : LR) = .inr b) : a = b := by injection h
/-- how far a line reads: GoP, whatever the net -/
theorem link_go {t t2 : TK} {cs cs2 : CD} {v v2 : TN} (ht : TkOK T n t) (hk : tkK t ≠ 24) (h : linkL T n t cs v = .inr (t2, cs2, v2)) : GoP T n 1 t cs t2 cs2 ∧ cs2 = cs ∧ tnL v ≠ 10 ∧ ∃ a b o w, a ≤ tnK v - 1 ∧ b ≤ tnK v - 1 ∧ bdJ v a b = false ∧ 1 ≤ o ∧ o ≤ 9 ∧ w ≤ 2 ∧ v2 = tnAdd v a b o w := by
  unfold linkL at h
  by_cases q : tnL v = 10
  · rw [if_pos q] at h; exact absurd h (by simp)
  · rw [if_neg q] at h
    obtain ⟨a1, a2, a3, _, h⟩ := num_inr h
    obtain ⟨b1, b2, b3, b4, h⟩ := num_inr h
    obtain ⟨c1, h⟩ := eatL_inr h
    obtain ⟨d1, d2, d3, _, h⟩ := num_inr h
    obtain ⟨e1, h⟩ := eatL_inr h
    obtain ⟨f1, f2, f3, _, h⟩ := num_inr h
    have e := lr_inr h
    injection e with ea eb
    injection eb with eb ec
    have g0 := GoP_nx (cs := cs) ht hk
    have g1 := GoP_nx (cs := cs) g0.1 (by omega)
    have g2 := GoP_nx (cs := cs) g1.1 (by omega)
    have g3 := GoP_nx (cs := cs) g2.1 (by omega)
    have g4 := GoP_nx (cs := cs) g3.1 (by omega)
    have g5 := GoP_nx (cs := cs) g4.1 (by omega)
    have g6 := GoP_nx (cs := cs) g5.1 (by omega)
    refine ⟨?_, eb.symm, q, _, _, _, _, a3, b3, b4, d2, d3, f3, ec.symm⟩
    rw [← ea, ← eb]
    exact GoP_le (by omega) (GoP_trans (GoP_trans (GoP_trans (GoP_trans (GoP_trans (GoP_trans g0 g1) g2) g3) g4) g5) g6)
theorem law_go {m : Nat} {t t2 : TK} {cs cs2 : CD} {v v2 : TN} (ht : TkOK T n t) (hk : tkK t ≠ 24) (h : lawL T n m t cs v = .inr (t2, cs2, v2)) : GoP T n 1 t cs t2 cs2 ∧ v2 = tnLaw v m cs.1 cs2.1 ∧ ∃ u, TkOK T n u ∧ tkA t + 2 ≤ tkA u ∧ pp T n m (8 * n + 8) (lawX m) 0 u cs = .inr (t2, cs2) := by
  unfold lawL at h
  obtain ⟨a1, h⟩ := eatL_inr h
  have g0 := GoP_nx (cs := cs) ht hk
  have g1 := GoP_nx (cs := cs) g0.1 (by omega)
  cases e : pp T n m (8 * n + 8) (lawX m) 0 (nx T n (nx T n t)) cs with
  | inl x => rw [e] at h; exact absurd h (by simp)
  | inr r =>
    rw [e] at h
    have e2 := lr_inr h
    injection e2 with ea eb
    injection eb with eb ec
    have er : r = (t2, cs2) := by rw [← ea, ← eb]
    rw [er] at e
    have g2 := pp_go _ _ _ _ _ _ _ g1.1 e
    refine ⟨GoP_le (by omega) (GoP_trans (GoP_trans g0 g1) g2), ?_, _, g1.1, ?_, e⟩
    · rw [← ec, eb]
    · have := g0.2.1
      have := g1.2.1
      omega
theorem kind_go {t t2 : TK} {cs cs2 : CD} {v v2 : TN} (ht : TkOK T n t) (hk : tkK t ≠ 24) (h : kindL T n t cs v = .inr (t2, cs2, v2)) : GoP T n 1 t cs t2 cs2 := by
  unfold kindL at h
  by_cases q : tkK t = 3
  · rw [if_pos q] at h; exact (link_go ht hk h).1
  · rw [if_neg q] at h
    by_cases q2 : tkK t = 6
    · rw [if_pos q2] at h; exact (law_go ht hk h).1
    · rw [if_neg q2] at h
      by_cases q3 : tkK t = 7
      · rw [if_pos q3] at h; exact (law_go ht hk h).1
      · rw [if_neg q3] at h; exact absurd h (by simp)
theorem line_go {t t2 : TK} {cs cs2 : CD} {v v2 : TN} (ht : TkOK T n t) (hk : tkK t ≠ 24) (h : lineL T n t cs v = .inr (t2, cs2, v2)) : GoP T n 1 t cs t2 cs2 ∧ ∃ u w, kindL T n t cs v = .inr (u, cs2, w) ∧ v2 = tnUp w := by
  unfold lineL at h
  obtain ⟨u, c, w, h1, h2⟩ := bndL_inr h
  obtain ⟨h3, h4⟩ := eatL_inr h2
  have e := lr_inr h4
  injection e with ea eb
  injection eb with eb ec
  have g0 := kind_go ht hk h1
  have g1 := GoP_nx (cs := c) g0.1 (by omega)
  rw [eb] at g0 g1 h1
  refine ⟨?_, u, w, h1, ec.symm⟩
  rw [← ea]
  exact GoP_le (by omega) (GoP_trans g0 g1)
theorem head_go {t t2 : TK} {cs2 : CD} {v2 : TN} (ht : TkOK T n t) (h : headL T n t = .inr (t2, cs2, v2)) : TkOK T n t2 ∧ cs2 = (0, fun _ => 0) ∧ 1 ≤ tkA t2 ∧ ∃ k r, 1 ≤ k ∧ k ≤ 8 ∧ r ≤ 9 ∧ v2 = ((k, r, 1, 0), (fun _ => 0, fun _ => 0, fun _ => 0, fun _ => 0), (0, 0, 0, 0)) := by
  unfold headL at h
  obtain ⟨a1, h⟩ := eatL_inr h
  obtain ⟨b1, h⟩ := eatL_inr h
  obtain ⟨c1, c2, c3, _, h⟩ := num_inr h
  obtain ⟨d1, h⟩ := eatL_inr h
  obtain ⟨e1, e2, e3, _, h⟩ := num_inr h
  obtain ⟨f1, h⟩ := eatL_inr h
  have e := lr_inr h
  injection e with ea eb
  injection eb with eb ec
  have g0 := nx_ok ht (by omega)
  have g1 := nx_ok g0.1 (by omega)
  have g2 := nx_ok g1.1 (by omega)
  have g3 := nx_ok g2.1 (by omega)
  have g4 := nx_ok g3.1 (by omega)
  have g5 := nx_ok g4.1 (by omega)
  refine ⟨by rw [← ea]; exact g5.1, eb.symm, by rw [← ea]; omega, _, _, c2, c3, e3, ec.symm⟩
end GOL
