/-! ===== a state begun anew; an image taken, both sides ===== -/
theorem u_mendAll_loop {Q : MH → Prop} {a : Nat} (ha : a ∈ stL) : ∀ (n i : Nat) (h : MH), LX h → i + n = 20 → Q (rI h (a + 2) (filI (hI h (a + 2)) i 20 (-1))) → wX6_mendAll_7 Q (n + 1) a (nI i) h := by
  intro n
  induction n with
  | zero =>
    intro i h hl hi hq
    have hi : i = 20 := by omega
    subst hi
    rw [filI_end, rI_self] at hq
    unfold wX6_mendAll_7
    exact ⟨fun _ => hq, fun c => absurd (nI_le (by omega) (by omega)) c⟩
  | succ n ih =>
    intro i h hl hi hq
    have st := st_S hl ha
    unfold wX6_mendAll_7
    refine ⟨fun c => absurd c (nI_ge (by omega) (by omega)), fun _ => ⟨st.1, _, st.2.2.2.2, 20, st.2.2.1, vp_in_nI (by omega) (by omega), fun h' e => ?_⟩⟩
    rw [nI_clamp (by omega)] at e
    subst e
    rw [show nI i + nI 1 = nI (i + 1) from nI_add i 1]
    refine ih (i + 1) _ (LX_sI hl) (by omega) ?_
    rw [rI_fil (by omega)]
    exact hq
def mdS (h : MH) (a : Nat) : MH := rI (sI h a 1 (nI 0)) (a + 2) (filI (hI (sI h a 1 (nI 0)) (a + 2)) 0 20 (-1))
theorem LX_mdS {h : MH} {a : Nat} (hl : LX h) : LX (mdS h a) := LX_rI (LX_sI hl)
theorem u_mendAll {Q : MH → Prop} {h : MH} {a : Nat} (hl : LX h) (ha : a ∈ stL) (hq : Q (mdS h a)) : wX6_mendAll a h Q := by
  unfold wX6_mendAll
  refine ⟨(st_S hl ha).1, fun _ e => ?_⟩
  subst e
  exact ⟨21, u_mendAll_loop ha 20 0 _ (LX_sI hl) (by omega) hq⟩
theorem mdS_V {h : MH} {a : Nat} {v : Int32 × Int32 × (Nat → Int32) × (Nat → Int32)} (p : StV h a v) : StV (mdS h a) a (v.1, 0, v.2.2.1, fun _ => -1) := by
  obtain ⟨p1, p2, p3, p4⟩ := p
  unfold mdS
  refine ⟨?_, ?_, fun k hk => ?_, fun k hk => ?_⟩
  · rw [hI_rI, if_neg (by omega), hI_sI, if_neg (by omega)]; exact p1
  · rw [hI_rI, if_neg (by omega), hI_sI, if_pos ⟨rfl, rfl⟩]; exact nI_0
  · rw [hI_rI, if_neg (by omega), hI_sI, if_neg (by omega)]; exact p3 k hk
  · rw [hI_rI, if_pos rfl]; exact if_pos (by omega)
theorem mdS_row {h : MH} {a c : Nat} (hc : c < a ∨ a + 2 < c) : hI (mdS h a) c = hI h c := by
  funext k
  unfold mdS
  rw [hI_rI, if_neg (by omega), hI_sI, if_neg (by omega)]
theorem u_begin6_loop {Q : MH → Prop} {a : Nat} (ha : a ∈ stL) : ∀ (n i : Nat) (h : MH), LX h → i + n = 40 → Q (mdS (rI h (a + 1) (filI (hI h (a + 1)) i 40 0)) a) → wX6_begin_7 Q (n + 1) a (nI i) h := by
  intro n
  induction n with
  | zero =>
    intro i h hl hi hq
    have hi : i = 40 := by omega
    subst hi
    rw [filI_end, rI_self] at hq
    unfold wX6_begin_7
    exact ⟨fun _ => ⟨(st_S hl ha).1, u_mendAll hl ha hq⟩, fun c => absurd (nI_le (by omega) (by omega)) c⟩
  | succ n ih =>
    intro i h hl hi hq
    have st := st_S hl ha
    unfold wX6_begin_7
    refine ⟨fun c => absurd c (nI_ge (by omega) (by omega)), fun _ => ⟨st.1, _, st.2.2.2.1, 40, st.2.1, vp_in_nI (by omega) (by omega), fun h' e => ?_⟩⟩
    rw [nI_clamp (by omega)] at e
    subst e
    rw [show nI i + nI 1 = nI (i + 1) from nI_add i 1]
    refine ih (i + 1) _ (LX_sI hl) (by omega) ?_
    rw [show (nI 0) = 0 from nI_0, rI_fil (by omega)]
    exact hq
def bgS (h : MH) (a : Nat) (r : Int32) : MH := mdS (rI (sI h a 0 r) (a + 1) (filI (hI (sI h a 0 r) (a + 1)) 0 40 0)) a
theorem u_begin6 {Q : MH → Prop} {h : MH} {a : Nat} {r : Int32} (hl : LX h) (ha : a ∈ stL) (hq : Q (bgS h a r)) : wX6_begin a r h Q := by
  unfold wX6_begin
  refine ⟨(st_S hl ha).1, fun _ e => ?_⟩
  subst e
  exact ⟨41, u_begin6_loop ha 40 0 _ (LX_sI hl) (by omega) hq⟩
theorem LX_bgS {h : MH} {a : Nat} {r : Int32} (hl : LX h) : LX (bgS h a r) := LX_mdS (LX_rI (LX_sI hl))
theorem bgS_V (h : MH) (a : Nat) (r : Int32) : StV (bgS h a r) a (r, 0, (fun _ => 0), fun _ => -1) := by
  refine mdS_V (v := (r, hI (rI (sI h a 0 r) (a + 1) (filI (hI (sI h a 0 r) (a + 1)) 0 40 0)) a 1, (fun _ => 0), hI (rI (sI h a 0 r) (a + 1) (filI (hI (sI h a 0 r) (a + 1)) 0 40 0)) (a + 2))) ⟨?_, rfl, fun k hk => ?_, fun _ _ => rfl⟩
  · rw [hI_rI, if_neg (by omega), hI_sI, if_pos ⟨rfl, rfl⟩]
  · rw [hI_rI, if_pos rfl]; exact if_pos (by omega)
theorem bgS_row {h : MH} {a c : Nat} {r : Int32} (hc : c < a ∨ a + 2 < c) : hI (bgS h a r) c = hI h c := by
  refine (mdS_row hc).trans ?_
  funext k
  rw [hI_rI, if_neg (by omega), hI_sI, if_neg (by omega)]
theorem u_isImage {x : Int32} {h : MH} {Q : Int32 → MH → Prop} (k1 : ∀ t, t < 2 → x = nI t → Q (nI 1) h) (k2 : ¬ (0 ≤ x.toInt ∧ x.toInt ≤ 1) → Q (nI 0) h) : wX9_isImage x h Q := by
  unfold wX9_isImage
  rcases nI_cases x 1 (by omega) with ⟨t, ht, e⟩ | c
  · have k := k1 t (by omega) e
    subst e
    rw [if_neg (nI_pos (by omega)), if_neg (nI_ge (by omega) (by omega))]
    exact ⟨Or.inr (by decide), k⟩
  · have k := k2 c
    by_cases c1 : x < 0
    · rw [if_pos c1]; exact ⟨Or.inl (by decide), k⟩
    · rw [if_neg c1]
      have c2 : nI 2 ≤ x := by
        rw [Int32.lt_iff_toInt_lt, i0_toInt] at c1
        rw [Int32.le_iff_toInt_le, nI_toInt (by omega)]
        omega
      rw [if_pos c2]; exact ⟨Or.inl (by decide), k⟩
theorem im_R {h : MH} {t : Nat} (hl : LX h) (ht : t < 2) : hR h 216 t = some (217 + 3 * t) ∧ 217 + 3 * t ∈ stL := by
  have q : t = 0 ∨ t = 1 := by omega
  rcases q with q | q <;> subst q
  · exact ⟨R_216_0 hl, by decide⟩
  · exact ⟨R_216_1 hl, by decide⟩
theorem LX_im {h : MH} {t : Nat} {v : Option Nat} (hl : LX h) (ht : t < 2) : LX (sR h 215 t v) := by
  have q : t = 0 ∨ t = 1 := by omega
  rcases q with q | q <;> subst q
  · exact LX_sR hl tabR_215_0
  · exact LX_sR hl tabR_215_1
/-- image, the class's side -/
theorem u_X9_image {Q : Int32 → MH → Prop} {h : MH} {x : Int32} {a : Nat} (hl : LX h) (ea : hR h 128 1 = some a) (sa : hS h a = (1, 4)) (k1 : ¬ (0 ≤ x.toInt ∧ x.toInt ≤ 1) → Q (-2) h) (k2 : ∀ t, t < 2 → x = nI t → Q (nI 0) (cpS (sR h 215 t (some a)) (217 + 3 * t) 146)) : wX9_image 128 x h Q := by
  unfold wX9_image
  refine u_isImage (fun t ht e => ⟨fun _ => ?_, fun q => absurd q (by decide)⟩) (fun c => ⟨fun q => absurd nI_0 q, fun _ => k1 c⟩)
  have k := k2 t ht e
  subst e
  rw [nI_clamp (by omega)]
  refine ⟨S_128 hl, 215, R_128_10 hl, a, ea, 2, S_215 hl, vp_in_nI (by omega) (by omega), sa, fun _ e => ?_⟩
  subst e
  have hl2 := LX_im (v := some a) hl ht
  have r := im_R hl2 ht
  exact ⟨216, R_128_11 hl2, 2, S_216 hl2, vp_in_nI (by omega) (by omega), _, r.1, 146, R_128_2 hl2, (st_S hl2 r.2).1, u_copyFrom hl2 r.2 (by decide) (by omega) k⟩
/-- row k and the rows behind it up to n, copied from place 0 on to place o on -/
def cpy (f : Nat → Int32) (o i : Nat) : Nat → Int32 := fun k => if o ≤ k ∧ k < o + i then f (k - o) else f k
theorem u_mimg_loop {Q : Int32 → MH → Prop} {g : MH} {t : Nat} (hl : LX g) (ht : t < 2) (hq : Q (nI 0) (sI (rI g 224 (cpy (hI g 224) (2337 * (t + 1)) 2337)) 225 t (nI 1))) : ∀ n i, i + n = 2337 → wX10_image_20 Q (n + 1) 223 (nI t) (nI i) (rI g 224 (cpy (hI g 224) (2337 * (t + 1)) i)) := by
  intro n
  induction n with
  | zero =>
    intro i hi
    have hi : i = 2337 := by omega
    subst hi
    have hl2 := LX_rI (a := 224) (f := cpy (hI g 224) (2337 * (t + 1)) 2337) hl
    unfold wX10_image_20
    rw [nI_clamp (show t < 2 ^ 31 by omega)]
    exact ⟨fun _ => ⟨S_223 hl2, 225, R_223_2 hl2, 2, S_225 hl2, vp_in_nI (by omega) (by omega), fun _ e => by subst e; exact hq⟩, fun c => absurd (nI_le (by omega) (by omega)) c⟩
  | succ n ih =>
    intro i hi
    have hl2 := LX_rI (a := 224) (f := cpy (hI g 224) (2337 * (t + 1)) i) hl
    have e0 : nI 2337 * (nI t + nI 1) + nI i = nI (2337 * (t + 1) + i) := by
      rw [nI_add, show nI 2337 * nI (t + 1) = nI (2337 * (t + 1)) from (Int32.ofNat_mul _ _).symm, nI_add]
    unfold wX10_image_20
    rw [e0, nI_clamp (show i < 2 ^ 31 by omega), nI_clamp (show 2337 * (t + 1) + i < 2 ^ 31 by omega)]
    refine ⟨fun c => absurd c (nI_ge (by omega) (by omega)), fun _ => ⟨S_223 hl2, 224, R_223_1 hl2, 7011, S_224 hl2, vp_in_nI (by omega) (by omega), vp_in_nI (by omega) (by omega), fun _ e => ?_⟩⟩
    have es : sI (rI g 224 (cpy (hI g 224) (2337 * (t + 1)) i)) 224 (2337 * (t + 1) + i) (hI (rI g 224 (cpy (hI g 224) (2337 * (t + 1)) i)) 224 i) = rI g 224 (cpy (hI g 224) (2337 * (t + 1)) (i + 1)) := by
      refine mh_ext (fun _ => rfl) (fun b k => ?_) (fun _ _ => rfl) (fun _ _ => rfl) rfl
      rw [hI_sI, hI_rI, hI_rI, hI_rI, if_pos rfl]
      by_cases c : b = 224
      · rw [if_pos c, if_pos c]
        unfold cpy
        by_cases c2 : k = 2337 * (t + 1) + i
        · rw [if_pos ⟨c, c2⟩, if_neg (by omega), if_pos (by omega), c2, Nat.add_sub_cancel_left]
        · rw [if_neg (fun q => c2 q.2)]
          by_cases c3 : 2337 * (t + 1) ≤ k ∧ k < 2337 * (t + 1) + i
          · rw [if_pos c3, if_pos (by omega)]
          · rw [if_neg c3, if_neg (by omega)]
      · rw [if_neg (fun q => c q.1), if_neg c, if_neg c]
    rw [es] at e
    subst e
    rw [show nI i + nI 1 = nI (i + 1) from nI_add i 1]
    exact ih (i + 1) (by omega)
theorem cpy_0 (f : Nat → Int32) (o : Nat) : cpy f o 0 = f := by
  funext k
  unfold cpy
  rw [if_neg (by omega)]
/-- image, the reference's side -/
theorem u_X10_image {Q : Int32 → MH → Prop} {h : MH} {x : Int32} (hl : LX h) (k1 : ¬ (0 ≤ x.toInt ∧ x.toInt ≤ 1) → Q (-2) (sI h 223 0 (nI 0))) (k2 : ∀ t, t < 2 → x = nI t → Q (nI 0) (sI (rI (sI h 223 0 (nI 0)) 224 (cpy (hI (sI h 223 0 (nI 0)) 224) (2337 * (t + 1)) 2337)) 225 t (nI 1))) : wX10_image 223 x h Q := by
  unfold wX10_image
  refine ⟨S_223 hl, fun _ e => ?_⟩
  subst e
  have l0 : (0 : Int64).toInt = 0 := by decide
  have l1 : (1 : Int64).toInt = 1 := by decide
  refine u_within (fun p1 p2 => ⟨fun _ => ?_, fun q => absurd q (by decide)⟩) (fun c => ⟨fun q => absurd nI_0 q, fun _ => k1 (by omega)⟩)
  rcases nI_cases x 1 (by omega) with ⟨t, ht, e⟩ | c
  · have k := k2 t (by omega) e
    subst e
    have hw := u_mimg_loop (Q := Q) (LX_sI hl) (show t < 2 by omega) k 2337 0 (by omega)
    rw [cpy_0, rI_self] at hw
    exact ⟨2338, hw⟩
  · omega
