/-! ===== the constructors of the class, to the first object ===== -/
theorem kp_al {g : MH} {a : Nat} {t : Nat × Nat} {q : Nat × Nat} (hl : a < hN g) (k : hS g a = q) : hS (al g t) a = q := by rw [hS_al, if_neg (by omega)]; exact k
def mk1 (h : MH) (x0 : Nat) : MH :=
  let h2 := sL h x0 0 ((0 : Int64))
  let h3 := sL h2 x0 1 ((1 : Int64))
  h3
theorem hN_mk1 (h : MH) (a : Nat) : hN (mk1 h a) = hN h + 0 := rfl
theorem u_X1_init {Q : MH → Prop} {h : MH} {a : Nat} (hs : hS h a = (1, 1)) (ha : a < hN h) (hq : Q (mk1 h a)) : wX1_init a h Q := by
  unfold wX1_init
  repeat' (first
    | (refine ⟨by decide, by decide, fun _ e => ?_⟩; subst e; intro _ e; subst e)
    | (refine ⟨by (repeat (first | exact hs | (refine kp_al (by (try simp only [hN_al, hN_sR, hN_sI, hN_sL]); omega) ?_) | (rw [hS_sR]) | (rw [hS_sI]) | (rw [hS_sL]))), fun _ e => ?_⟩; subst e)
    | (intro _ e; subst e))
  exact hq
def mk3 (h : MH) (x0 : Nat) : MH :=
  let a1 := hN h
  let h2 := al h (2, 900)
  let h6 := sR h2 x0 0 (some a1)
  let a7 := hN h6
  let h8 := al h6 (2, 5)
  let h12 := sR h8 x0 6 (some a7)
  let a13 := hN h12
  let h14 := al h12 (2, 64)
  let h18 := sR h14 x0 7 (some a13)
  h18
theorem hN_mk3 (h : MH) (a : Nat) : hN (mk3 h a) = hN h + 3 := rfl
theorem u_X3_init {Q : MH → Prop} {h : MH} {a : Nat} (hs : hS h a = (1, 3)) (ha : a < hN h) (hq : Q (mk3 h a)) : wX3_init 3 969 a h Q := by
  unfold wX3_init
  repeat' (first
    | (refine ⟨by decide, by decide, fun _ e => ?_⟩; subst e; intro _ e; subst e)
    | (refine ⟨by (repeat (first | exact hs | (refine kp_al (by (try simp only [hN_al, hN_sR, hN_sI, hN_sL]); omega) ?_) | (rw [hS_sR]) | (rw [hS_sI]) | (rw [hS_sL]))), fun _ e => ?_⟩; subst e)
    | (intro _ e; subst e))
  exact hq
def mk4 (h : MH) (x0 : Nat) : MH :=
  let h2 := sI h x0 0 (nI 1)
  let h3 := sI h2 x0 1 (nI 0)
  let h4 := sI h3 x0 2 (nI 0)
  let h5 := sI h4 x0 3 (nI 0)
  let a6 := hN h5
  let h7 := al h5 (2, 10)
  let h11 := sR h7 x0 4 (some a6)
  let a12 := hN h11
  let h13 := al h11 (2, 10)
  let h17 := sR h13 x0 5 (some a12)
  let a18 := hN h17
  let h19 := al h17 (2, 10)
  let h23 := sR h19 x0 6 (some a18)
  let a24 := hN h23
  let h25 := al h23 (2, 10)
  let h29 := sR h25 x0 7 (some a24)
  let a30 := hN h29
  let h31 := al h29 (2, 100)
  let h35 := sR h31 x0 8 (some a30)
  let a36 := hN h35
  let h37 := al h35 (3, 10)
  let h41 := sR h37 x0 9 (some a36)
  let h42 := sI h41 x0 10 (nI 0)
  let a43 := hN h42
  let h44 := al h42 (2, 0)
  let h48 := sR h44 x0 11 (some a43)
  let a49 := hN h48
  let h50 := al h48 (2, 0)
  let h54 := sR h50 x0 12 (some a49)
  let a55 := hN h54
  let h56 := al h54 (2, 0)
  let h60 := sR h56 x0 13 (some a55)
  let a61 := hN h60
  let h62 := al h60 (2, 0)
  let h66 := sR h62 x0 14 (some a61)
  h66
theorem hN_mk4 (h : MH) (a : Nat) : hN (mk4 h a) = hN h + 10 := rfl
theorem u_X4_init {Q : MH → Prop} {h : MH} {a : Nat} (hs : hS h a = (1, 4)) (ha : a < hN h) (hq : Q (mk4 h a)) : wX4_init 10 150 a h Q := by
  unfold wX4_init
  repeat' (first
    | (refine ⟨by decide, by decide, fun _ e => ?_⟩; subst e; intro _ e; subst e)
    | (refine ⟨by (repeat (first | exact hs | (refine kp_al (by (try simp only [hN_al, hN_sR, hN_sI, hN_sL]); omega) ?_) | (rw [hS_sR]) | (rw [hS_sI]) | (rw [hS_sL]))), fun _ e => ?_⟩; subst e)
    | (intro _ e; subst e))
  exact hq
def mk7 (h : MH) (x0 : Nat) : MH :=
  let a1 := hN h
  let h2 := al h (2, 360)
  let h6 := sR h2 x0 0 (some a1)
  h6
theorem hN_mk7 (h : MH) (a : Nat) : hN (mk7 h a) = hN h + 1 := rfl
theorem u_X7_init {Q : MH → Prop} {h : MH} {a : Nat} (hs : hS h a = (1, 7)) (ha : a < hN h) (hq : Q (mk7 h a)) : wX7_init 1 360 a h Q := by
  unfold wX7_init
  repeat' (first
    | (refine ⟨by decide, by decide, fun _ e => ?_⟩; subst e; intro _ e; subst e)
    | (refine ⟨by (repeat (first | exact hs | (refine kp_al (by (try simp only [hN_al, hN_sR, hN_sI, hN_sL]); omega) ?_) | (rw [hS_sR]) | (rw [hS_sI]) | (rw [hS_sL]))), fun _ e => ?_⟩; subst e)
    | (intro _ e; subst e))
  exact hq
def mk0 (h : MH) (x0 : Nat) : MH :=
  let a1 := hN h
  let h2 := al h (2, 40)
  let h6 := sR h2 x0 3 (some a1)
  let a7 := hN h6
  let h8 := al h6 (2, 40)
  let h12 := sR h8 x0 4 (some a7)
  let a13 := hN h12
  let h14 := al h12 (2, 40)
  let h18 := sR h14 x0 5 (some a13)
  let a19 := hN h18
  let h20 := al h18 (3, 0)
  let h24 := sR h20 x0 7 (some a19)
  let h25 := sL h24 x0 8 ((0 : Int64))
  let a26 := hN h25
  let h27 := al h25 (2, 40)
  let h31 := sR h27 x0 9 (some a26)
  h31
theorem hN_mk0 (h : MH) (a : Nat) : hN (mk0 h a) = hN h + 5 := rfl
theorem u_X0_init {Q : MH → Prop} {h : MH} {a : Nat} (hs : hS h a = (1, 0)) (ha : a < hN h) (hq : Q (mk0 h a)) : wX0_init 5 160 a h Q := by
  unfold wX0_init
  repeat' (first
    | (refine ⟨by decide, by decide, fun _ e => ?_⟩; subst e; intro _ e; subst e)
    | (refine ⟨by (repeat (first | exact hs | (refine kp_al (by (try simp only [hN_al, hN_sR, hN_sI, hN_sL]); omega) ?_) | (rw [hS_sR]) | (rw [hS_sI]) | (rw [hS_sL]))), fun _ e => ?_⟩; subst e)
    | (intro _ e; subst e))
  exact hq
/-- behind Reader() -/
def mk5a (h : MH) (x0 : Nat) : MH := al (sR (al (sI (sI (sI h x0 0 (nI 0)) x0 1 (nI 0)) x0 2 (-1)) (4, 900)) x0 3 (some (hN h))) (1, 3)
def mk5 (h : MH) (x0 : Nat) : MH := sR (mk3 (mk5a h x0) (hN h + 1)) x0 4 (some (hN h + 1))
theorem u_X5_init {Q : MH → Prop} {h : MH} {a : Nat} (hs : hS h a = (1, 5)) (ha : a < hN h) (h3 : hS (mk3 (mk5a h a) (hN h + 1)) a = (1, 5)) (hq : Q (mk5 h a)) : wX5_init 5 1877 a h Q := by
  unfold wX5_init
  refine ⟨hs, fun _ e => ?_⟩
  subst e
  intro _ e
  subst e
  intro _ e
  subst e
  refine ⟨by decide, by decide, fun _ e => ?_⟩
  subst e
  intro _ e
  subst e
  refine ⟨?_, fun _ e => ?_⟩
  · rw [hS_al, if_neg (by show a ≠ hN h; omega)]
    exact hs
  subst e
  refine ⟨by decide, by decide, fun _ e => ?_⟩
  subst e
  intro _ e
  subst e
  refine ⟨by decide, by decide, u_X3_init (by rw [hS_al]; exact if_pos rfl) (by rw [hN_al]; exact Nat.lt_succ_self _) ⟨h3, fun _ e => ?_⟩⟩
  subst e
  exact hq
def mk2 (h : MH) (x0 : Nat) : MH := sI (sI (sR (stN (al h (6, 10)) (hN h) 10) x0 0 (some (hN h))) x0 1 (nI 0)) x0 2 (nI 0)
theorem u_X2_init {Q : MH → Prop} {h : MH} {a : Nat} (hs : hS h a = (1, 2)) (ha : a < hN h) (hq : Q (mk2 h a)) : wX2_init 31 650 a h Q := by
  unfold wX2_init
  refine ⟨by decide, by decide, u_newStates (by omega) (by omega) (by omega) ⟨?_, fun _ e => ?_⟩⟩
  · rw [hS_stN (by rw [hN_al]; omega), hS_al, if_neg (by omega)]
    exact hs
  subst e
  intro _ e
  subst e
  intro _ e
  subst e
  exact hq
/-- behind SpareRings(), the first object made: its parts stand at numbers -/
def gg0 : MH := al h00 (1, 9)
def gg1 : MH := sR (mk5 (al gg0 (1, 5)) 129) 128 0 (some 129)
def gg2 : MH := sR (mk4 (al gg1 (1, 4)) (hN gg1)) 128 1 (some (hN gg1))
def gg3 : MH := sR (mk6 (al gg2 (1, 6)) (hN gg2)) 128 2 (some (hN gg2))
def gg4 : MH := sR (mk6 (al gg3 (1, 6)) (hN gg3)) 128 3 (some (hN gg3))
def gg5 : MH := sR (stN (al gg4 (6, 4)) (hN gg4) 4) 128 4 (some (hN gg4))
def gg6 : MH := sR (mk2 (al gg5 (1, 2)) (hN gg5)) 128 5 (some (hN gg5))
def gg7 : MH := sR (mk7 (al gg6 (1, 7)) (hN gg6)) 128 6 (some (hN gg6))
def gg8 : MH := sR (mk0 (al gg7 (1, 0)) (hN gg7)) 128 7 (some (hN gg7))
def gg9 : MH := sR (mk1 (al gg8 (1, 1)) (hN gg8)) 128 8 (some (hN gg8))
def gg10 : MH := sR (trN (al gg9 (7, 4)) (hN gg9) 4) 128 9 (some (hN gg9))
def gg11 : MH := sR (al gg10 (8, 2)) 128 10 (some (hN gg10))
def gg12 : MH := sR (stN (al gg11 (6, 2)) (hN gg11) 2) 128 11 (some (hN gg11))
set_option maxRecDepth 100000 in
theorem u_X9_init {Q : MH → Prop} (hq : Q gg12) : wX9_init 94 3937 128 gg0 Q := by
  unfold wX9_init
  refine ⟨by decide, by decide, fun _ e => ?_⟩
  subst e
  intro _ e
  subst e
  refine ⟨by decide, by decide, u_X5_init (by decide +kernel) (by decide +kernel) (by decide +kernel) ⟨by decide +kernel, fun _ e => ?_⟩⟩
  replace e := e.trans (show _ = gg1 from rfl)
  subst e
  refine ⟨by decide, by decide, fun _ e => ?_⟩
  subst e
  intro _ e
  subst e
  refine ⟨by decide, by decide, u_X4_init (by decide +kernel) (by decide +kernel) ⟨by decide +kernel, fun _ e => ?_⟩⟩
  replace e := e.trans (show _ = gg2 from rfl)
  subst e
  refine ⟨by decide, by decide, fun _ e => ?_⟩
  subst e
  intro _ e
  subst e
  refine ⟨by decide, by decide, u_X6_init (by decide +kernel) (by decide +kernel) ⟨by decide +kernel, fun _ e => ?_⟩⟩
  replace e := e.trans (show _ = gg3 from rfl)
  subst e
  refine ⟨by decide, by decide, fun _ e => ?_⟩
  subst e
  intro _ e
  subst e
  refine ⟨by decide, by decide, u_X6_init (by decide +kernel) (by decide +kernel) ⟨by decide +kernel, fun _ e => ?_⟩⟩
  replace e := e.trans (show _ = gg4 from rfl)
  subst e
  refine ⟨by decide, by decide, u_newStates (by decide) (by decide) (by decide) ⟨by decide +kernel, fun _ e => ?_⟩⟩
  replace e := e.trans (show _ = gg5 from rfl)
  subst e
  refine ⟨by decide, by decide, fun _ e => ?_⟩
  subst e
  intro _ e
  subst e
  refine ⟨by decide, by decide, u_X2_init (by decide +kernel) (by decide +kernel) ⟨by decide +kernel, fun _ e => ?_⟩⟩
  replace e := e.trans (show _ = gg6 from rfl)
  subst e
  refine ⟨by decide, by decide, fun _ e => ?_⟩
  subst e
  intro _ e
  subst e
  refine ⟨by decide, by decide, u_X7_init (by decide +kernel) (by decide +kernel) ⟨by decide +kernel, fun _ e => ?_⟩⟩
  replace e := e.trans (show _ = gg7 from rfl)
  subst e
  refine ⟨by decide, by decide, fun _ e => ?_⟩
  subst e
  intro _ e
  subst e
  refine ⟨by decide, by decide, u_X0_init (by decide +kernel) (by decide +kernel) ⟨by decide +kernel, fun _ e => ?_⟩⟩
  replace e := e.trans (show _ = gg8 from rfl)
  subst e
  refine ⟨by decide, by decide, fun _ e => ?_⟩
  subst e
  intro _ e
  subst e
  refine u_X1_init (by decide +kernel) (by decide +kernel) ⟨by decide +kernel, fun _ e => ?_⟩
  replace e := e.trans (show _ = gg9 from rfl)
  subst e
  refine ⟨by decide, by decide, u_newTrays ⟨by decide +kernel, fun _ e => ?_⟩⟩
  replace e := e.trans (show _ = gg10 from rfl)
  subst e
  refine ⟨by decide, by decide, fun _ e => ?_⟩
  subst e
  intro _ e
  subst e
  refine ⟨by decide +kernel, fun _ e => ?_⟩
  replace e := e.trans (show _ = gg11 from rfl)
  subst e
  refine ⟨by decide, by decide, u_newStates (by decide) (by decide) (by decide) ⟨by decide +kernel, fun _ e => ?_⟩⟩
  replace e := e.trans (show _ = gg12 from rfl)
  subst e
  exact hq
theorem gg12_N : hN gg12 = 223 := by decide +kernel
