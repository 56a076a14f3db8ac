/-! ===== the constructors: what the small heap is behind each ===== -/
theorem rI_self (h : MH) (a : Nat) : rI h a (hI h a) = h := by
  unfold rI hI
  have : (fun b => if b = a then h.2.1 a else h.2.1 b) = h.2.1 := by
    funext b
    by_cases hb : b = a
    · rw [if_pos hb, hb]
    · rw [if_neg hb]
  rw [this]
theorem rI_ext {h h' : MH} {a : Nat} {f g : Nat → Int32} (hh : h'.1 = h.1 ∧ h'.2.2 = h.2.2) (ho : ∀ b, b ≠ a → h'.2.1 b = h.2.1 b) (hf : ∀ k, f k = g k) : rI h' a f = rI h a g := by
  unfold rI
  rw [hh.1, hh.2]
  congr 2
  funext b
  by_cases hb : b = a
  · rw [if_pos hb, if_pos hb]
    exact funext hf
  · rw [if_neg hb, if_neg hb, ho b hb]
theorem rI_sI {h : MH} {a k : Nat} {v : Int32} {f g : Nat → Int32} (hf : ∀ k, f k = g k) : rI (sI h a k v) a f = rI h a g := by
  refine rI_ext ⟨rfl, rfl⟩ (fun b hb => ?_) hf
  funext j
  show (if b = a ∧ j = k then v else _) = _
  rw [if_neg (fun q => hb q.1)]
/-- numbers from i to n - 1 of a row are v -/
def filI (f : Nat → Int32) (i n : Nat) (v : Int32) : Nat → Int32 := fun k => if i ≤ k ∧ k < n then v else f k
theorem filI_end (f : Nat → Int32) (n : Nat) (v : Int32) : filI f n n v = f := by
  funext k
  unfold filI
  rw [if_neg (by omega)]
theorem filI_step {f : Nat → Int32} {i n : Nat} {v : Int32} (h : i < n) (k : Nat) : filI (fun j => if j = i then v else f j) (i + 1) n v k = filI f i n v k := by
  unfold filI
  by_cases h1 : i + 1 ≤ k ∧ k < n
  · rw [if_pos h1, if_pos (by omega)]
  · rw [if_neg h1]
    show (if k = i then v else f k) = _
    by_cases h2 : k = i
    · rw [if_pos h2, if_pos (by omega)]
    · rw [if_neg h2, if_neg (by omega)]
theorem rI_fil {h : MH} {a i n : Nat} {v : Int32} (hi : i < n) : rI (sI h a i v) a (filI (hI (sI h a i v) a) (i + 1) n v) = rI h a (filI (hI h a) i n v) := by
  refine rI_sI (fun k => ?_)
  have e : hI (sI h a i v) a = fun j => if j = i then v else hI h a j := by
    funext j
    rw [hI_sI]
    by_cases hj : j = i
    · rw [if_pos ⟨rfl, hj⟩, if_pos hj]
    · rw [if_neg (fun q => hj q.2), if_neg hj]
  rw [e]
  exact filI_step hi k
theorem u_X6_loop {Q : MH → Prop} {b t a w : Nat} : ∀ (n i : Nat) (h : MH), i + n = 20 → hS h a = (1, 6) → hR h a 3 = some w → hS h w = (2, 20) → Q (rI h w (filI (hI h w) i 20 (-1))) → wX6_init_32 Q (n + 1) b t a (nI i) h := by
  intro n
  induction n with
  | zero =>
    intro i h hi h1 h2 h3 hq
    have hi : i = 20 := by omega
    subst hi
    rw [filI_end, rI_self] at hq
    unfold wX6_init_32
    exact ⟨fun _ => hq, fun c => absurd (nI_le (by omega) (by omega)) c⟩
  | succ n ih =>
    intro i h hi h1 h2 h3 hq
    unfold wX6_init_32
    refine ⟨fun c => absurd c (nI_ge (by omega) (by omega)), fun c => ⟨h1, w, h2, 20, h3, vp_in_nI (by omega) (by omega), fun h' e => ?_⟩⟩
    rw [nI_clamp (by omega)] at e
    subst e
    rw [show nI i + nI 1 = nI (i + 1) from nI_add i 1]
    refine ih (i + 1) _ (by omega) h1 h2 h3 ?_
    rw [rI_fil (by omega)]
    exact hq
/-- behind State() -/
def mk6 (h : MH) (a : Nat) : MH :=
  let h1 := al (sI (sI h a 0 (nI 0)) a 1 (nI 0)) (2, 40)
  let h2 := al (sR h1 a 2 (some (hN h))) (2, 20)
  let h3 := sR h2 a 3 (some (hN h + 1))
  rI h3 (hN h + 1) (filI (hI h3 (hN h + 1)) 0 20 (-1))
theorem u_X6_init {Q : MH → Prop} {h : MH} {a : Nat} (hs : hS h a = (1, 6)) (ha : a < hN h) (hq : Q (mk6 h a)) : wX6_init 2 60 a h Q := by
  unfold wX6_init
  refine ⟨hs, fun _ e => ?_⟩
  subst e
  intro _ e
  subst e
  refine ⟨by decide, by decide, fun _ e => ?_⟩
  subst e
  intro _ e
  subst e
  refine ⟨?_, fun _ e => ?_⟩
  · rw [hS_al, if_neg (by show a ≠ hN h; omega)]
    exact hs
  subst e
  refine ⟨by decide, by decide, fun _ e => ?_⟩
  subst e
  intro _ e
  subst e
  refine ⟨?_, fun _ e => ?_⟩
  · rw [hS_al, if_neg (by show a ≠ hN h + 1; omega), hS_sR, hS_al, if_neg (by show a ≠ hN h; omega)]
    exact hs
  subst e
  refine ⟨21, u_X6_loop 20 0 _ rfl ?_ ?_ ?_ hq⟩
  · rw [hS_sR, hS_al, if_neg (by show a ≠ hN h + 1; omega), hS_sR, hS_al, if_neg (by show a ≠ hN h; omega)]
    exact hs
  · rw [hR_sR, if_pos ⟨rfl, rfl⟩]
    rfl
  · rw [hS_sR, hS_al]
    exact if_pos rfl
/-- behind Tray() -/
def mk8 (h : MH) (a : Nat) : MH := sR (al (sI (sI h a 0 (nI 0)) a 1 (-1)) (3, 40)) a 2 (some (hN h))
theorem u_X8_init {Q : MH → Prop} {h : MH} {a : Nat} (hs : hS h a = (1, 8)) (ha : a < hN h) (hq : Q (mk8 h a)) : wX8_init 1 40 a h Q := by
  unfold wX8_init
  refine ⟨hs, fun _ e => ?_⟩
  subst e
  intro _ e
  subst e
  refine ⟨by decide, by decide, fun _ e => ?_⟩
  subst e
  intro _ e
  subst e
  refine ⟨?_, fun _ e => ?_⟩
  · rw [hS_al, if_neg (by show a ≠ hN h; omega)]
    exact hs
  subst e
  exact hq
theorem hN_mk6 (h : MH) (a : Nat) : hN (mk6 h a) = hN h + 2 := rfl
theorem hS_mk6 {h : MH} {a x : Nat} (hx : x < hN h) : hS (mk6 h a) x = hS h x := by
  show (if x = hN h + 1 then (2, 20) else if x = hN h then (2, 40) else hS h x) = hS h x
  rw [if_neg (by omega), if_neg (by omega)]
theorem hN_mk8 (h : MH) (a : Nat) : hN (mk8 h a) = hN h + 1 := rfl
theorem hS_mk8 {h : MH} {a x : Nat} (hx : x < hN h) : hS (mk8 h a) x = hS h x := by
  show (if x = hN h then (3, 40) else hS h x) = hS h x
  rw [if_neg (by omega)]
/-- states made one by one into an array -/
def stN (h : MH) (arr : Nat) : Nat → MH
  | 0 => h
  | i + 1 => sR (mk6 (al (stN h arr i) (1, 6)) (hN (stN h arr i))) arr i (some (hN (stN h arr i)))
theorem hN_stN (h : MH) (arr : Nat) : ∀ i, hN (stN h arr i) = hN h + 3 * i
  | 0 => rfl
  | i + 1 => by
    show hN (stN h arr i) + 1 + 2 = _
    rw [hN_stN h arr i]
    omega
theorem hS_stN {h : MH} {arr x : Nat} (hx : x < hN h) : ∀ i, hS (stN h arr i) x = hS h x
  | 0 => rfl
  | i + 1 => by
    have h1 := hN_stN h arr i
    show hS (mk6 (al (stN h arr i) (1, 6)) (hN (stN h arr i))) x = _
    rw [hS_mk6 (by rw [hN_al]; omega), hS_al, if_neg (by omega)]
    exact hS_stN hx i
theorem u_newStates_loop {Q : Nat → MH → Prop} {h : MH} {arr n : Nat} (hn : n < 1000) (ha : arr < hN h) (hs : hS h arr = (6, n)) (hq : Q arr (stN h arr n)) : ∀ (k i b t : Nat), i + k = n → 3 * k ≤ b → 64 * k ≤ t → wX9_newStates_7 Q (k + 1) b t (nI n) arr (nI i) (stN h arr i) := by
  intro k
  induction k with
  | zero =>
    intro i b t hi hb ht
    have hi : i = n := by omega
    subst hi
    unfold wX9_newStates_7
    exact ⟨fun _ => hq, fun c => absurd (nI_le (by omega) (by omega)) c⟩
  | succ k ih =>
    intro i b t hi hb ht
    unfold wX9_newStates_7
    have h1 := hN_stN h arr i
    refine ⟨fun c => absurd c (nI_ge (by omega) (by omega)), fun c => ⟨by omega, by omega, fun _ e => ?_⟩⟩
    subst e
    intro _ e
    subst e
    refine ⟨by omega, by omega, u_X6_init ?_ ?_ ?_⟩
    · rw [hS_al, if_pos rfl]
    · rw [hN_al]; omega
    · refine ⟨n, ?_, vp_in_nI (by omega) (by omega), ?_, fun _ e => ?_⟩
      · rw [hS_mk6 (by rw [hN_al]; omega), hS_al, if_neg (by omega), hS_stN ha]
        exact hs
      · rw [hS_mk6 (by rw [hN_al]; omega), hS_al, if_pos rfl]
      · rw [nI_clamp (by omega)] at e
        subst e
        rw [show nI i + nI 1 = nI (i + 1) from nI_add i 1]
        exact ih (i + 1) (b - 3) (t - 64) (by omega) (by omega) (by omega)
theorem u_newStates {Q : Nat → MH → Prop} {h : MH} {n b t : Nat} (hn : n < 1000) (hb : 1 + 3 * n ≤ b) (ht : 65 * n ≤ t) (hq : Q (hN h) (stN (al h (6, n)) (hN h) n)) : wX9_newStates b t (nI n) h Q := by
  unfold wX9_newStates
  rw [nI_clamp (by omega)]
  refine ⟨nI_pos (by omega), by omega, by omega, by omega, fun _ e => ?_⟩
  subst e
  intro _ e
  subst e
  exact ⟨n + 1, u_newStates_loop hn (by rw [hN_al]; omega) (by rw [hS_al, if_pos rfl]) hq n 0 _ _ (by omega) (by omega) (by omega)⟩
def trN (h : MH) (arr : Nat) : Nat → MH
  | 0 => h
  | i + 1 => sR (mk8 (al (trN h arr i) (1, 8)) (hN (trN h arr i))) arr i (some (hN (trN h arr i)))
theorem hN_trN (h : MH) (arr : Nat) : ∀ i, hN (trN h arr i) = hN h + 2 * i
  | 0 => rfl
  | i + 1 => by
    show hN (trN h arr i) + 1 + 1 = _
    rw [hN_trN h arr i]
    omega
theorem hS_trN {h : MH} {arr x : Nat} (hx : x < hN h) : ∀ i, hS (trN h arr i) x = hS h x
  | 0 => rfl
  | i + 1 => by
    have h1 := hN_trN h arr i
    show hS (mk8 (al (trN h arr i) (1, 8)) (hN (trN h arr i))) x = _
    rw [hS_mk8 (by rw [hN_al]; omega), hS_al, if_neg (by omega)]
    exact hS_trN hx i
theorem u_newTrays_loop {Q : Nat → MH → Prop} {h : MH} {arr : Nat} (ha : arr < hN h) (hs : hS h arr = (7, 4)) (hq : Q arr (trN h arr 4)) : ∀ (k i b t : Nat), i + k = 4 → 2 * k ≤ b → 43 * k ≤ t → wX9_newTrays_7 Q (k + 1) b t arr (nI i) (trN h arr i) := by
  intro k
  induction k with
  | zero =>
    intro i b t hi hb ht
    have hi : i = 4 := by omega
    subst hi
    unfold wX9_newTrays_7
    exact ⟨fun _ => hq, fun c => absurd (nI_le (by omega) (by omega)) c⟩
  | succ k ih =>
    intro i b t hi hb ht
    unfold wX9_newTrays_7
    have h1 := hN_trN h arr i
    refine ⟨fun c => absurd c (nI_ge (by omega) (by omega)), fun c => ⟨by omega, by omega, fun _ e => ?_⟩⟩
    subst e
    intro _ e
    subst e
    refine ⟨by omega, by omega, u_X8_init ?_ ?_ ?_⟩
    · rw [hS_al, if_pos rfl]
    · rw [hN_al]; omega
    · refine ⟨4, ?_, vp_in_nI (by omega) (by omega), ?_, fun _ e => ?_⟩
      · rw [hS_mk8 (by rw [hN_al]; omega), hS_al, if_neg (by omega), hS_trN ha]
        exact hs
      · rw [hS_mk8 (by rw [hN_al]; omega), hS_al, if_pos rfl]
      · rw [nI_clamp (by omega)] at e
        subst e
        rw [show nI i + nI 1 = nI (i + 1) from nI_add i 1]
        exact ih (i + 1) (b - 2) (t - 43) (by omega) (by omega) (by omega)
theorem u_newTrays {Q : Nat → MH → Prop} {h : MH} (hq : Q (hN h) (trN (al h (7, 4)) (hN h) 4)) : wX9_newTrays 9 176 h Q := by
  unfold wX9_newTrays
  refine ⟨by decide, by decide, fun _ e => ?_⟩
  subst e
  intro _ e
  subst e
  exact ⟨5, u_newTrays_loop (by rw [hN_al]; omega) (by rw [hS_al, if_pos rfl]) hq 4 0 _ _ (by omega) (by omega) (by omega)⟩
