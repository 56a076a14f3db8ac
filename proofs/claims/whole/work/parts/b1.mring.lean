/-! Part b1: the reference finds a ring. -/
def laI (D : Nat) : Nat → Int32
  | 0 => -1
  | l + 1 => if bt D l = 1 then nI l else laI D l
theorem laI_ex {D : Nat} : ∀ l, (∃ i, i < l ∧ bt D i = 1) → ∃ j, j < l ∧ bt D j = 1 ∧ laI D l = nI j
  | 0, ⟨i, h, _⟩ => absurd h (by omega)
  | l + 1, ⟨i, h, b⟩ => by
    unfold laI
    by_cases q : bt D l = 1
    · rw [if_pos q]; exact ⟨l, by omega, q, rfl⟩
    · rw [if_neg q]
      have : i ≠ l := fun z => q (z ▸ b)
      obtain ⟨j, a, c, d⟩ := laI_ex l ⟨i, by omega, b⟩
      exact ⟨j, by omega, c, d⟩
section MR
variable {Q : Int32 → MH → Prop} {h : MH} {L : Nat} {f g : Nat → Nat}
theorem m_roundOf (k : Lk f g L) (hl : LX h) (eL : hI h 224 2 = nI L) (ef : ∀ l, l < L → hI h 224 (9 + 2 * l) = nI (f l) ∧ hI h 224 (9 + 2 * l + 1) = nI (g l)) {D : Nat} (hD : D < 2 ^ L) (hq : Q (nI (if cyB f g L D = true then onS f g D L else 0)) h) : wX10_roundOf 223 (nI D) h Q := by
  have hL := k.1
  have hD1 := lt_of_pow hD hL
  have hv := v00_ok k
  have c2 : (nI 2).toNatClampNeg = 2 := by decide
  have inner : ∀ (N : Nat) (KK : Nat → Int32 → Int32 → Int32 → Int32 → MH → Prop) (x j : Nat), x < 2 ^ 8 → KK 223 (nI D) (nI N) (nI (comR (v00 f g L) (cwN D) x)) (nI (j + 1)) h → ∀ n l, l + n = L → wX10_roundOf_115 Q KK (n + 1) 223 (nI D) (nI N) (nI (comL (v00 f g L) (cwN D) x l)) (nI j) (nI l) h := by
    intro N KK x j hx hK n
    induction n with
    | zero =>
      intro l hn
      have hn : l = L := by omega
      subst hn
      unfold wX10_roundOf_115
      rw [c2]
      refine ⟨S_223 hl, 224, R_223_1 hl, 7011, S_224 hl, vp_in_nI (by omega) (by omega), ?_⟩
      rw [eL, nI_add j 1]
      exact ⟨fun _ => hK, fun z => absurd (nI_le (Nat.le_refl _) (by omega)) z⟩
    | succ n ih =>
      intro l hn
      have r := ih (l + 1) (by omega)
      have e := k.2 l (by omega)
      have e8 := ef l (by omega)
      have lx : comL (v00 f g L) (cwN D) x l < 2 ^ 8 := comL_lt hv (w := cwN D) (x := x) hx l (by show l ≤ L; omega)
      have le := enS_lt (f := f) (g := g) (l := l) e.1 e.2.1
      have la : comL (v00 f g L) (cwN D) x l &&& enS f g l ≤ comL (v00 f g L) (cwN D) x l := Nat.and_le_left
      have bl := bt01 D l
      have bw := bt_cw (D := D) (l := l) (by omega)
      have e1 : comL (v00 f g L) (cwN D) x (l + 1) = if bt (cwN D) l = 0 ∧ comL (v00 f g L) (cwN D) x l &&& enS f g l ≠ 0 then comL (v00 f g L) (cwN D) x l ||| enS f g l else comL (v00 f g L) (cwN D) x l := rfl
      rw [e1] at r
      unfold wX10_roundOf_115
      rw [c2]
      refine ⟨S_223 hl, 224, R_223_1 hl, 7011, S_224 hl, vp_in_nI (by omega) (by omega), ?_⟩
      rw [eL, nI_add l 1]
      refine ⟨fun z => absurd z (nI_ge (by omega) (by omega)), fun _ => u_isIn (by omega) (by omega) ?_⟩
      rw [nI_eq0 (by omega)]
      refine ⟨fun z => ?_, fun z => ⟨S_223 hl, u_endsOfN hl (by omega) e8.1 e8.2 e.1 e.2.1 ?_⟩⟩
      · rw [if_neg (by omega)] at r; exact r
      · rw [nI_and (by omega) (by omega), nI_eq0 (by omega)]
        refine ⟨fun z2 => ?_, fun z2 => ⟨S_223 hl, u_endsOfN hl (by omega) e8.1 e8.2 e.1 e.2.1 ?_⟩⟩
        · rw [if_neg (fun y => y.2 z2)] at r; exact r
        · rw [nI_or (by omega) (by omega)]
          rw [if_pos ⟨by omega, z2⟩] at r; exact r
  have rounds : ∀ (N x : Nat), x < 2 ^ 8 → Q (if nI (comN (v00 f g L) (cwN D) x 10) = nI N then nI N else nI 0) h → ∀ n j, j + n = 10 → wX10_roundOf_105 Q (n + 1) 223 (nI D) (nI N) (nI (comN (v00 f g L) (cwN D) x j)) (nI j) h := by
    intro N x hx kq n
    induction n with
    | zero =>
      intro j hn
      have hn : j = 10 := by omega
      subst hn
      exact ⟨fun _ => kq, fun z => absurd (nI_le (Nat.le_refl _) (by omega)) z⟩
    | succ n ih =>
      intro j hn
      exact ⟨fun z => absurd z (nI_ge (by omega) (by omega)), fun _ => ⟨_, inner N _ (comN (v00 f g L) (cwN D) x j) j (comN_lt hv (w := cwN D) (x := x) hx j) (ih (j + 1) (by omega)) L 0 (by omega)⟩⟩
  refine u_bitsOf (by omega) ⟨fun z => ?_, fun z => ?_⟩
  · have b3 : 3 ≤ bcN D 10 := Nat.le_of_not_lt (fun y => absurd z (nI_ge y (by omega)))
    have lp : ∀ n l, l + n = L → (∀ m, dg f g D m l ≤ 2) → wX10_roundOf_20 Q (n + 1) 223 (nI D) (nI (onS f g D l)) (nI (twS f g D l)) (laI D l) (nI l) h := by
      intro n
      induction n with
      | zero =>
        intro l hn h2
        have hn : l = L := by omega
        subst hn
        have lo := onS_lt k (D := D) l (Nat.le_refl _)
        have lt := twS_lt k (D := D) l (Nat.le_refl _)
        unfold wX10_roundOf_20
        rw [c2]
        refine ⟨S_223 hl, 224, R_223_1 hl, 7011, S_224 hl, vp_in_nI (by omega) (by omega), ?_⟩
        rw [eL]
        refine ⟨fun _ => ?_, fun z => absurd (nI_le (Nat.le_refl _) (by omega)) z⟩
        rw [nI_eq (by omega) (by omega)]
        refine ⟨fun y => ?_, fun y => ?_⟩
        · have two : TwoR f g l D := fun m => by
            have a1 := bt_on k (D := D) (n := m) l (Nat.le_refl _)
            have a2 := bt_tw k (D := D) (n := m) l (Nat.le_refl _)
            rw [y] at a1
            have := h2 m
            have := bt01 (twS f g D l) m
            omega
          obtain ⟨l0, _, a0, b0⟩ := bc_ex hD (by omega) hL
          obtain ⟨j, a, b, c⟩ := laI_ex l ⟨l0, a0, b0⟩
          have ej := k.2 j a
          have efj := ef j a
          rw [c]
          refine u_endsOfN hl (by omega) efj.1 efj.2 ej.1 ej.2.1 ⟨11, ?_⟩
          have lj := enS_lt (f := f) (g := g) (l := j) ej.1 ej.2.1
          have lc : comN (v00 f g l) (cwN D) (enS f g j) 10 < 2 ^ 8 := comN_lt hv (w := cwN D) (x := enS f g j) lj 10
          refine rounds _ (enS f g j) lj ?_ 10 0 (by omega)
          have ci := cl_iff k a b
          have cy := cyB_iff k hD
          by_cases q : cyB f g l D = true
          · rw [if_pos q] at hq
            rw [if_pos ((nI_eq (by omega) (by omega)).mpr (ci.mpr (cy.mp q).2.2))]
            exact hq
          · rw [if_neg q] at hq
            rw [if_neg (fun w => q (cy.mpr ⟨b3, two, ci.mp ((nI_eq (by omega) (by omega)).mp w)⟩))]
            exact hq
        · have c0 : ¬ cyB f g l D = true := fun w => by
            have t := ((cyB_iff k hD).mp w).2.1
            apply y
            refine mask_ext (n := 8) lo lt (fun m _ => ?_)
            rw [bt_on k l (Nat.le_refl _), bt_tw k l (Nat.le_refl _)]
            have := t m
            omega
          rw [if_neg c0] at hq
          exact hq
      | succ n ih =>
        intro l hn h2
        have e := k.2 l (by omega)
        have e8 := ef l (by omega)
        have lo := onS_lt k (D := D) l (by omega)
        have lt := twS_lt k (D := D) l (by omega)
        have le := enS_lt (f := f) (g := g) (l := l) e.1 e.2.1
        have la : twS f g D l &&& enS f g l ≤ twS f g D l := Nat.and_le_left
        have lb : onS f g D l &&& enS f g l ≤ onS f g D l := Nat.and_le_left
        have bl := bt01 D l
        have eo : onS f g D (l + 1) = if bt D l = 1 then onS f g D l ||| enS f g l else onS f g D l := rfl
        have et : twS f g D (l + 1) = if bt D l = 1 then twS f g D l ||| (onS f g D l &&& enS f g l) else twS f g D l := rfl
        have es : laI D (l + 1) = if bt D l = 1 then nI l else laI D l := rfl
        have r := ih (l + 1) (by omega)
        rw [eo, et, es] at r
        unfold wX10_roundOf_20
        rw [c2]
        refine ⟨S_223 hl, 224, R_223_1 hl, 7011, S_224 hl, vp_in_nI (by omega) (by omega), ?_⟩
        rw [eL, nI_add l 1]
        refine ⟨fun z => absurd z (nI_ge (by omega) (by omega)), fun _ => u_isIn (by omega) (by omega) ?_⟩
        rw [nI_eq0 (by omega)]
        refine ⟨fun z => ⟨S_223 hl, u_endsOfN hl (by omega) e8.1 e8.2 e.1 e.2.1 ?_⟩, fun z => ?_⟩
        · have b1 : bt D l = 1 := by omega
          rw [if_pos b1, if_pos b1, if_pos b1] at r
          rw [nI_and (by omega) (by omega), nI_eq0 (by omega)]
          refine ⟨fun y => ⟨S_223 hl, u_endsOfN hl (by omega) e8.1 e8.2 e.1 e.2.1 ⟨S_223 hl, u_endsOfN hl (by omega) e8.1 e8.2 e.1 e.2.1 ?_⟩⟩, fun y => ?_⟩
          · rw [nI_and (by omega) (by omega), nI_or (by omega) (by omega), nI_or (by omega) (by omega)]
            refine r (fun m => ?_)
            rw [dg_s e.2.2, b1, Nat.one_mul]
            have hm := h2 m
            have be := bt01 (enS f g l) m
            have bt2 := bt_tw k (D := D) (n := m) l (by omega)
            by_cases q : 2 ≤ dg f g D m l ∧ bt (enS f g l) m = 1
            · exact absurd y ((and_nz lt).mpr ⟨m, bt2.mpr q.1, q.2⟩)
            · omega
          · obtain ⟨m, y1, y2⟩ := (and_nz lt).mp y
            have d3 : 3 ≤ dg f g D m (l + 1) := by
              rw [dg_s e.2.2, b1, y2]
              have := (bt_tw k (D := D) (n := m) l (by omega)).mp y1
              omega
            have mono : ∀ j, dg f g D m (l + 1) ≤ dg f g D m (l + 1 + j) := by
              intro j
              induction j with
              | zero => exact Nat.le_refl _
              | succ j ihj =>
                have : dg f g D m (l + 1 + (j + 1)) = dg f g D m (l + 1 + j) + bt D (l + 1 + j) * (e01 (f (l + 1 + j)) m + e01 (g (l + 1 + j)) m) := rfl
                omega
            have mL := mono (L - (l + 1))
            rw [show l + 1 + (L - (l + 1)) = L from by omega] at mL
            have c0 : ¬ cyB f g L D = true := fun w => by
              have t := ((cyB_iff k hD).mp w).2.1 m
              omega
            rw [if_neg c0] at hq
            exact hq
        · rw [if_neg (by omega), if_neg (by omega), if_neg (by omega)] at r
          refine r (fun m => ?_)
          rw [dg_s e.2.2, z, Nat.zero_mul]
          exact h2 m
    exact ⟨L + 1, lp L 0 (by omega) (fun m => by show 0 ≤ 2; omega)⟩
  · have c0 : ¬ cyB f g L D = true := fun w => z (nI_le ((cyB_iff k hD).mp w).1 (by have := bcN_le D 10; omega))
    rw [if_neg c0] at hq
    exact hq
end MR
