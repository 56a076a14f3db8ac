/-! ===== the class's states: copying one into another ===== -/
def stL : List Nat := [146, 149, 153, 156, 159, 162, 167, 170, 173, 176, 179, 182, 185, 188, 191, 194, 217, 220]
theorem stL_gap : ∀ a ∈ stL, ∀ b ∈ stL, a ≠ b → a + 2 < b ∨ b + 2 < a := by decide
theorem stL_rng : ∀ a ∈ stL, 146 ≤ a ∧ a + 2 < 223 := by decide
theorem st_S {h : MH} {a : Nat} (hl : LX h) (ha : a ∈ stL) : hS h a = (1, 6) ∧ hS h (a + 1) = (2, 40) ∧ hS h (a + 2) = (2, 20) ∧ hR h a 2 = some (a + 1) ∧ hR h a 3 = some (a + 2) := by
  have t1 : ∀ a ∈ stL, (a, 1, 6) ∈ tabS ∧ (a + 1, 2, 40) ∈ tabS ∧ (a + 2, 2, 20) ∈ tabS ∧ (a, 2, a + 1) ∈ tabR ∧ (a, 3, a + 2) ∈ tabR := by decide +kernel
  obtain ⟨p1, p2, p3, p4, p5⟩ := t1 a ha
  exact ⟨hl.2.1 _ p1, hl.2.1 _ p2, hl.2.1 _ p3, hl.2.2 _ p4, hl.2.2 _ p5⟩
/-- the heap after state b is copied into state a -/
def cpS (h : MH) (a b : Nat) : MH := rI (rI (sI (sI h a 0 (hI h b 0)) a 1 (hI h b 1)) (a + 1) (va_cpy (hI h (b + 1)) (hI h (a + 1)) 0 0 40)) (a + 2) (va_cpy (hI h (b + 2)) (hI h (a + 2)) 0 0 20)
theorem LX_cpS {h : MH} {a b : Nat} (hl : LX h) : LX (cpS h a b) := LX_rI (LX_rI (LX_sI (LX_sI hl)))
theorem u_copyFrom {Q : MH → Prop} {h : MH} {a b : Nat} (hl : LX h) (ha : a ∈ stL) (hb : b ∈ stL) (hab : a ≠ b) (hq : Q (cpS h a b)) : wX6_copyFrom a b h Q := by
  have g := stL_gap a ha b hb hab
  unfold wX6_copyFrom
  refine ⟨(st_S hl hb).1, (st_S hl ha).1, fun _ e => ?_⟩
  subst e
  intro _ e
  rw [hI_sI, if_neg (by omega)] at e
  subst e
  have hl2 : LX (sI (sI h a 0 (hI h b 0)) a 1 (hI h b 1)) := LX_sI (LX_sI hl)
  refine ⟨_, (st_S hl2 hb).2.2.2.1, _, (st_S hl2 ha).2.2.2.1, 40, (st_S hl2 hb).2.1, 40, (st_S hl2 ha).2.1, by decide, by decide, by decide, by decide, by decide, fun _ e => ?_⟩
  have r1 : hI (sI (sI h a 0 (hI h b 0)) a 1 (hI h b 1)) (b + 1) = hI h (b + 1) := (hI_sI_row (by omega)).trans (hI_sI_row (by omega))
  have r2 : hI (sI (sI h a 0 (hI h b 0)) a 1 (hI h b 1)) (a + 1) = hI h (a + 1) := (hI_sI_row (by omega)).trans (hI_sI_row (by omega))
  have r3 : hI (sI (sI h a 0 (hI h b 0)) a 1 (hI h b 1)) (b + 2) = hI h (b + 2) := (hI_sI_row (by omega)).trans (hI_sI_row (by omega))
  have r4 : hI (sI (sI h a 0 (hI h b 0)) a 1 (hI h b 1)) (a + 2) = hI h (a + 2) := (hI_sI_row (by omega)).trans (hI_sI_row (by omega))
  rw [r1, r2, show (nI 0).toNatClampNeg = 0 from by decide, show (nI 40).toNatClampNeg = 40 from by decide] at e
  subst e
  have hl3 := LX_rI (a := a + 1) (f := va_cpy (hI h (b + 1)) (hI h (a + 1)) 0 0 40) hl2
  refine ⟨_, (st_S hl3 hb).2.2.2.2, _, (st_S hl3 ha).2.2.2.2, 20, (st_S hl3 hb).2.2.1, 20, (st_S hl3 ha).2.2.1, by decide, by decide, by decide, by decide, by decide, fun _ e => ?_⟩
  have r5 : ∀ c, c ≠ a + 1 → hI (rI (sI (sI h a 0 (hI h b 0)) a 1 (hI h b 1)) (a + 1) (va_cpy (hI h (b + 1)) (hI h (a + 1)) 0 0 40)) c = hI (sI (sI h a 0 (hI h b 0)) a 1 (hI h b 1)) c := fun c hc => by
    funext k
    rw [hI_rI, if_neg hc]
  rw [r5 (b + 2) (by omega), r5 (a + 2) (by omega), r3, r4, show (nI 0).toNatClampNeg = 0 from by decide, show (nI 20).toNatClampNeg = 20 from by decide] at e
  subst e
  exact hq
/-- what a state holds: its rate, what failed, the copies by cycle, the places of the units -/
def StV (h : MH) (a : Nat) (v : Int32 × Int32 × (Nat → Int32) × (Nat → Int32)) : Prop := hI h a 0 = v.1 ∧ hI h a 1 = v.2.1 ∧ (∀ k, k < 40 → hI h (a + 1) k = v.2.2.1 k) ∧ ∀ k, k < 20 → hI h (a + 2) k = v.2.2.2 k
theorem va_cpy0 (f g : Nat → Int32) {n k : Nat} (hk : k < n) : va_cpy f g 0 0 n k = f k := by
  unfold va_cpy
  rw [if_pos (by omega)]
  congr 1
  omega
theorem cpS_I (h : MH) (a b c k : Nat) : hI (cpS h a b) c k = if c = a + 2 then va_cpy (hI h (b + 2)) (hI h (a + 2)) 0 0 20 k else if c = a + 1 then va_cpy (hI h (b + 1)) (hI h (a + 1)) 0 0 40 k else if c = a ∧ k = 1 then hI h b 1 else if c = a ∧ k = 0 then hI h b 0 else hI h c k := by
  unfold cpS
  rw [hI_rI, hI_rI, hI_sI, hI_sI]
theorem cpS_new {h : MH} {a b : Nat} {v : Int32 × Int32 × (Nat → Int32) × (Nat → Int32)} (p : StV h b v) : StV (cpS h a b) a v := by
  obtain ⟨p1, p2, p3, p4⟩ := p
  refine ⟨?_, ?_, fun k hk => ?_, fun k hk => ?_⟩
  · rw [cpS_I, if_neg (by omega), if_neg (by omega), if_neg (by omega), if_pos ⟨rfl, rfl⟩]; exact p1
  · rw [cpS_I, if_neg (by omega), if_neg (by omega), if_pos ⟨rfl, rfl⟩]; exact p2
  · rw [cpS_I, if_neg (by omega), if_pos rfl, va_cpy0 _ _ hk]; exact p3 k hk
  · rw [cpS_I, if_pos rfl, va_cpy0 _ _ hk]; exact p4 k hk
theorem cpS_row {h : MH} {a b c : Nat} (hc : c < a ∨ a + 2 < c) : hI (cpS h a b) c = hI h c := by
  funext k
  rw [cpS_I, if_neg (by omega), if_neg (by omega), if_neg (by omega), if_neg (by omega)]
theorem StV_row {h h2 : MH} {a : Nat} {v : Int32 × Int32 × (Nat → Int32) × (Nat → Int32)} (e1 : hI h2 a = hI h a) (e2 : hI h2 (a + 1) = hI h (a + 1)) (e3 : hI h2 (a + 2) = hI h (a + 2)) (p : StV h a v) : StV h2 a v := by
  unfold StV
  rw [e1, e2, e3]
  exact p
theorem cpS_old {h : MH} {a b c : Nat} {v : Int32 × Int32 × (Nat → Int32) × (Nat → Int32)} (ha : a ∈ stL) (hc : c ∈ stL) (hac : c ≠ a) (p : StV h c v) : StV (cpS h a b) c v := by
  have g := stL_gap c hc a ha hac
  exact StV_row (cpS_row (by omega)) (cpS_row (by omega)) (cpS_row (by omega)) p
