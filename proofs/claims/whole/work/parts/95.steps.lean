/-! ===== image, restore ===== -/
/-- a step's end, the class's heap not by a frame -/
theorem st_close2 {CV : MH → Prop} (ck : ∀ h h1, CvEq h h1 → CV h → CV h1) {h1 h2 : MH} {d2 : DV} (hl : LX h1) (ht : TP h1 ∧ TY h1) (c1 : CP CV h1 d2) (f2 : FrM h1 h2) (m2 : MP h2 d2) (ok : DOK d2) : RLY (RRc CV) h2 := by
  have t := TPY_FrM f2 ht
  exact ⟨LX_Fr f2.1 hl, t.1, t.2, d2, ok, CP_FrM ck f2 c1, m2⟩
def imU (im : Nat → Option (NV × AS)) (t : Nat) (w : NV) (s : AS) : Nat → Option (NV × AS) := fun x => if x = t then some (w, s) else im x
theorem ST_image_c {CV : MH → Prop} (ck : ∀ h h1, CvEq h h1 → CV h → CV h1) : ST_image (RLY (RRc CV)) := by
  intro y1 h hr P kP
  obtain ⟨hl, t1, t2, d, ok, c, m⟩ := hr
  have cl := rd_close (x := nI 0) ck hl t1 t2 ok c m
  obtain ⟨⟨a, ca, cn⟩, cs, ⟨hp, ch⟩, ci, cb, cv⟩ := id c
  have h4 := cn.1.1
  refine u_X9_image hl ca cn.2.1 (fun q => kP _ _ (S_223 hl) (fun P2 k2 => u_X10_image hl (fun _ => k2 _ cl) (fun t ht e => ?_))) (fun t ht e => ?_)
  · subst e
    rw [nI_toInt (by omega)] at q
    omega
  · subst e
    have hlr : LX (sR h 215 t (some a)) := LX_im hl ht
    have hl1 : LX (cpS (sR h 215 t (some a)) (217 + 3 * t) 146) := LX_cpS hlr
    have nI1 : ∀ b, (b < 217 + 3 * t ∨ 217 + 3 * t + 2 < b) → hI (cpS (sR h 215 t (some a)) (217 + 3 * t) 146) b = hI h b := fun b hb => cpS_row (by omega)
    have q1 : CvEq h (cpS (sR h 215 t (some a)) (217 + 3 * t) 146) := ⟨Nat.le_refl _, fun b hb => ⟨rfl, nI1 b (by omega), rfl, hR_sR_row (by omega)⟩⟩
    have c1 : CP CV (cpS (sR h 215 t (some a)) (217 + 3 * t) 146) (dN d, dS d, dH d, imU (dI d) t (dN d) (dS d)) := by
      refine ⟨⟨a, ?_, NetV_keep (CvEq_net q1) cn⟩, StV_row (nI1 _ (by omega)) (nI1 _ (by omega)) (nI1 _ (by omega)) cs, ⟨hp, HiV_row (fun b b1 b2 => nI1 b (by omega)) ch⟩, fun x hx => ?_, fun k hk => ?_, ck _ _ q1 cv⟩
      · show hR (sR h 215 t (some a)) 128 1 = some a
        rw [hR_sR, if_neg (by omega)]
        exact ca
      · show ImC _ x (if x = t then some (dN d, dS d) else dI d x)
        by_cases q : x = t
        · rw [if_pos q, q]
          refine ⟨a, ?_, NetV_keep (CvEq_net q1) cn, cpS_new ?_⟩
          · show hR (sR h 215 t (some a)) 215 t = some a
            rw [hR_sR, if_pos ⟨rfl, rfl⟩]
          · exact cs
        · rw [if_neg q]
          have ih := ci x hx
          cases hd : dI d x with
          | none =>
            rw [hd] at ih
            show hR (sR h 215 t (some a)) 215 x = none
            rw [hR_sR, if_neg (fun z => q z.2)]
            exact ih
          | some w =>
            obtain ⟨w, s⟩ := w
            rw [hd] at ih
            obtain ⟨b, b1, b2, b3⟩ := ih
            refine ⟨b, ?_, NetV_keep (CvEq_net q1) b2, StV_row (nI1 _ (by omega)) (nI1 _ (by omega)) (nI1 _ (by omega)) b3⟩
            show hR (sR h 215 t (some a)) 215 x = some b
            rw [hR_sR, if_neg (fun z => q z.2)]
            exact b1
      · rw [nI1 198 (by omega)]
        exact cb k hk
    have ht1 : TP (cpS (sR h 215 t (some a)) (217 + 3 * t) 146) ∧ TY (cpS (sR h 215 t (some a)) (217 + 3 * t) 146) := ⟨TP_cong (nI1 _ (by omega)) (nI1 _ (by omega)) (nI1 _ (by omega)) (by rw [nI1 _ (by omega)]) (by rw [nI1 _ (by omega)]) (by rw [nI1 _ (by omega)]) t1, TY_cong (fun b b1 b2 => nI1 b (by omega)) (nI1 _ (by omega)) (nI1 _ (by omega)) rfl t2⟩
    have m1 : MP (cpS (sR h 215 t (some a)) (217 + 3 * t) 146) d := MP_cong (by rw [nI1 _ (by omega)]) (nI1 _ (by omega)) (nI1 _ (by omega)) (fun b b1 b2 => nI1 b (by omega)) m
    refine kP _ _ (S_223 hl1) (fun P2 k2 => u_X10_image hl1 (fun q => absurd (by rw [nI_toInt (by omega)]; omega) q) (fun t3 ht3 e3 => k2 _ ?_))
    have et : t = t3 := (nI_eq (by omega) (by omega)).mp e3
    subst et
    obtain ⟨b1, b2, b3, b4, b5, b6, b7⟩ := MP_thrown (x := nI 0) m1
    refine st_close2 ck hl1 ht1 c1 (FrM_trans (FrM_thrown _ (nI 0)) (FrM_trans (FrM_Fr (S := fun b => b = 224) (fun b q => ⟨Or.inr (Or.inl q), by omega⟩) (Fr_rI rfl)) (FrM_sI (Or.inr (Or.inr (Or.inl rfl))) (fun q => absurd q (by omega))))) ?_ ⟨ok.1, ok.2.1, ok.2.2.1, fun x w s e => ?_⟩
    · have row : ∀ k, (k < 2337 * (t + 1) ∨ 2337 * (t + 1) + 2337 ≤ k) → hI (sI (rI (sI (cpS (sR h 215 t (some a)) (217 + 3 * t) 146) 223 0 (nI 0)) 224 (cpy (hI (sI (cpS (sR h 215 t (some a)) (217 + 3 * t) 146) 223 0 (nI 0)) 224) (2337 * (t + 1)) 2337)) 225 t (nI 1)) 224 k = hI (sI (cpS (sR h 215 t (some a)) (217 + 3 * t) 146) 223 0 (nI 0)) 224 k := fun k hk => by
        rw [hI_sI, if_neg (by omega), hI_rI, if_pos rfl]
        unfold cpy
        rw [if_neg (by omega)]
      have row2 : ∀ k, k < 2337 → hI (sI (rI (sI (cpS (sR h 215 t (some a)) (217 + 3 * t) 146) 223 0 (nI 0)) 224 (cpy (hI (sI (cpS (sR h 215 t (some a)) (217 + 3 * t) 146) 223 0 (nI 0)) 224) (2337 * (t + 1)) 2337)) 225 t (nI 1)) 224 (2337 * (t + 1) + k) = hI (sI (cpS (sR h 215 t (some a)) (217 + 3 * t) 146) 223 0 (nI 0)) 224 k := fun k hk => by
        rw [hI_sI, if_neg (by omega), hI_rI, if_pos rfl]
        unfold cpy
        rw [if_pos (by omega), Nat.add_sub_cancel_left]
      have oth : ∀ b, b ≠ 224 → b ≠ 225 → hI (sI (rI (sI (cpS (sR h 215 t (some a)) (217 + 3 * t) 146) 223 0 (nI 0)) 224 (cpy (hI (sI (cpS (sR h 215 t (some a)) (217 + 3 * t) 146) 223 0 (nI 0)) 224) (2337 * (t + 1)) 2337)) 225 t (nI 1)) b = hI (sI (cpS (sR h 215 t (some a)) (217 + 3 * t) 146) 223 0 (nI 0)) b := fun b q1 q2 => by
        funext k
        rw [hI_sI, if_neg (by omega), hI_rI, if_neg q1]
      refine ⟨b1, MNet_cong (fun k hk => row k (by omega)) b1 b2, RgV_row (by rw [oth _ (by omega) (by omega)]) (oth _ (by omega) (by omega)) (oth _ (by omega) (by omega)) (oth _ (by omega) (by omega)) (oth _ (by omega) (by omega)) b3, StM_row (fun k k1 k2 => row k (by omega)) (by show nvC (dN d) ≤ 40; omega) b4, (row _ (by omega)).trans b5, fun i s hs => ?_, fun x hx => ?_⟩
      · have hlt : i < (dH d).length := (List.getElem?_eq_some_iff.mp hs).1
        have hlen := ok.2.2.1
        refine StM_cong (by show nvC (dN d) ≤ 40; omega) (fun k hk => row _ ?_) (b6 i s hs)
        show 176 + 126 * ((dH d).length - 1 - i) + k < _ ∨ _
        omega
      · show ImM _ x (if x = t then some (dN d, dS d) else dI d x)
        by_cases q : x = t
        · rw [if_pos q, q]
          refine ⟨?_, b1, MNet_cong (fun k hk => row2 k (by omega)) b1 b2, StM_cong (by omega) (fun k hk => ?_) b4⟩
          · rw [hI_sI, if_pos ⟨rfl, rfl⟩]
          · rw [Nat.add_assoc, row2 _ (by omega)]
        · rw [if_neg q]
          have ih := b7 x hx
          have e225 : hI (sI (rI (sI (cpS (sR h 215 t (some a)) (217 + 3 * t) 146) 223 0 (nI 0)) 224 (cpy (hI (sI (cpS (sR h 215 t (some a)) (217 + 3 * t) 146) 223 0 (nI 0)) 224) (2337 * (t + 1)) 2337)) 225 t (nI 1)) 225 x = hI (sI (cpS (sR h 215 t (some a)) (217 + 3 * t) 146) 223 0 (nI 0)) 225 x := by
            rw [hI_sI, if_neg (fun z => q z.2), hI_rI, if_neg (by omega)]
          cases hd : dI d x with
          | none =>
            rw [hd] at ih
            exact e225.trans ih
          | some w =>
            obtain ⟨w, s⟩ := w
            rw [hd] at ih
            refine ⟨e225.trans ih.1, ih.2.1, MNet_cong (fun k hk => row _ (by omega)) ih.2.1 ih.2.2.1, ?_⟩
            have nvw : nvC w ≤ 40 := by
              have := ci x hx
              rw [hd] at this
              obtain ⟨b, _, nb, _⟩ := this
              have := nb.1.1
              omega
            exact StM_cong nvw (fun k hk => row _ (by omega)) ih.2.2.2
    · have e2 : (if x = t then some (dN d, dS d) else dI d x) = some (w, s) := e
      by_cases q : x = t
      · rw [if_pos q] at e2
        injection e2 with e2
        injection e2 with e3 e4
        rw [← e3, ← e4]
        exact ok.1
      · rw [if_neg q] at e2
        exact ok.2.2.2 x w s e2
theorem rest32 {Q : Int32 → MH → Prop} {h : MH} {t : Nat} (hl : LX h) (ht : t < 2) (hq : ∀ g, Fr (fun b => b = 224) h g → (∀ k, 2337 ≤ k → hI g 224 k = hI h 224 k) → (∀ k, k < 2337 → k ≠ 175 → hI g 224 k = hI h 224 (2337 * (t + 1) + k)) → hI g 224 175 = nI 0 → wX10_laysRings 223 g (fun h19 => Q (nI 0) h19)) : ∃ m, wX10_restore_32 Q m 223 (nI t) (nI 0) h := by
  have lp : ∀ n i g, i + n = 2337 → Fr (fun b => b = 224) h g → (∀ k, i ≤ k → hI g 224 k = hI h 224 k) → (∀ k, k < i → hI g 224 k = hI h 224 (2337 * (t + 1) + k)) → wX10_restore_32 Q (n + 1) 223 (nI t) (nI i) g := by
    intro n
    induction n with
    | zero =>
      intro i g hi f p1 p2
      have hi : i = 2337 := by omega
      subst hi
      have hlg := LX_Fr f hl
      unfold wX10_restore_32
      refine ⟨fun _ => ⟨S_223 hlg, 224, R_223_1 hlg, 7011, S_224 hlg, vp_in_nI (by omega) (by omega), fun _ e => ?_⟩, fun z => absurd (nI_le (by omega) (by omega)) z⟩
      rw [nI_clamp (by omega)] at e
      subst e
      refine hq _ (Fr_trans f (Fr_sI rfl)) (fun k hk => ?_) (fun k hk k1 => ?_) ?_
      · rw [hI_sI, if_neg (by omega)]; exact p1 k hk
      · rw [hI_sI, if_neg (by omega)]; exact p2 k hk
      · rw [hI_sI, if_pos ⟨rfl, rfl⟩]
    | succ n ih =>
      intro i g hi f p1 p2
      have hlg := LX_Fr f hl
      unfold wX10_restore_32
      simp only [nI_add, nI_mul]
      refine ⟨fun z => absurd z (nI_ge (by omega) (by omega)), fun _ => ⟨S_223 hlg, 224, R_223_1 hlg, 7011, S_224 hlg, vp_in_nI (by omega) (by omega), vp_in_nI (by omega) (by omega), fun _ e => ?_⟩⟩
      rw [nI_clamp (show i < 2 ^ 31 by omega), nI_clamp (show 2337 * (t + 1) + i < 2 ^ 31 by omega), p1 _ (by omega)] at e
      subst e
      refine ih (i + 1) _ (by omega) (Fr_trans f (Fr_sI rfl)) (fun k hk => ?_) (fun k hk => ?_)
      · rw [hI_sI, if_neg (by omega)]; exact p1 k (by omega)
      · rw [hI_sI]
        by_cases q : k = i
        · rw [if_pos ⟨rfl, q⟩, q]
        · rw [if_neg (fun z => q z.2)]; exact p2 k (by omega)
  exact ⟨2338, lp 2337 0 h (by omega) (Fr_rfl _ _) (fun _ _ => rfl) (fun k hk => absurd hk (by omega))⟩
theorem ST_restore_c {CV : MH → Prop} (ck : ∀ h h1, CvEq h h1 → CV h → CV h1) : ST_restore (RLY (RRc CV)) := by
  intro y1 h hr P kP
  obtain ⟨hl, t1, t2, d, ok, c, m⟩ := hr
  have cl := rd_close (x := nI 0) ck hl t1 t2 ok c m
  obtain ⟨⟨a, ca, cn⟩, cs, ⟨hp, ch⟩, ci, cb, cv⟩ := id c
  have h4 := cn.1.1
  have m2 := MP_thrown (x := nI 0) m
  have hl2 : LX (sI h 223 0 (nI 0)) := LX_sI hl
  have l0 : (0 : Int64).toInt = 0 := by decide
  have l1 : (1 : Int64).toInt = 1 := by decide
  unfold wX9_restore
  refine u_isImage (fun t ht e => ⟨fun _ => ⟨S_128 hl, 215, R_128_10 hl, 2, S_215 hl, ?_⟩, fun z => absurd z (by decide)⟩) (fun q => ⟨fun z => absurd nI_0 z, fun _ => kP _ _ (S_223 hl) (fun P2 k2 => ⟨S_223 hl, fun _ e => ?_⟩)⟩)
  · subst e
    refine ⟨vp_in_nI (by omega) (by omega), ?_⟩
    rw [nI_clamp (by omega)]
    have it := ci t ht
    have mt := m2.2.2.2.2.2.2 t ht
    cases hd : dI d t with
    | none =>
      rw [hd] at it mt
      refine ⟨fun b eb => ?_, fun _ => kP _ _ (S_223 hl) (fun P2 k2 => ⟨S_223 hl, fun _ e => ?_⟩)⟩
      · rw [show hR h 215 t = none from it] at eb
        exact absurd eb (by simp)
      · subst e
        refine u_within (fun p1 p2 => ⟨fun _ => ⟨S_223 hl2, 225, R_223_2 hl2, 2, S_225 hl2, vp_in_nI (by omega) (by omega), ?_⟩, fun z => absurd z (by decide)⟩) (fun k => absurd (by rw [nI_toInt (by omega)]; omega) k)
        rw [nI_clamp (by omega), show hI (sI h 223 0 (nI 0)) 225 t = 0 from mt]
        exact ⟨fun z => absurd rfl z, fun _ => k2 _ cl⟩
    | some w =>
      obtain ⟨w, s⟩ := w
      rw [hd] at it mt
      obtain ⟨b, b1, b2, b3⟩ := it
      have oks := ok.2.2.2 t w s hd
      have w4 := b2.1.1
      refine ⟨fun x ex _ e => ?_, fun z => by rw [b1] at z; exact absurd z (by simp)⟩
      rw [b1] at ex
      injection ex with ex
      subst ex
      subst e
      have hlr : LX (sR h 128 1 (some b)) := LX_sR hl tabR_128_1
      have ir := im_R hlr ht
      refine ⟨146, R_128_2 hlr, 216, R_128_11 hlr, 2, S_216 hlr, vp_in_nI (by omega) (by omega), 217 + 3 * t, ir.1, S_146 hlr, u_copyFrom hlr (by decide) ir.2 (by omega) ?_⟩
      have hlc : LX (cpS (sR h 128 1 (some b)) 146 (217 + 3 * t)) := LX_cpS hlr
      refine ⟨S_128 hlc, 165, R_128_5 hlc, S_165 hlc, u_forget hlc ?_⟩
      have hl1 : LX (sI (cpS (sR h 128 1 (some b)) 146 (217 + 3 * t)) 165 2 (nI 0)) := LX_sI hlc
      have nI1 : ∀ x, x ≠ 165 → x ≠ 146 → x ≠ 147 → x ≠ 148 → hI (sI (cpS (sR h 128 1 (some b)) 146 (217 + 3 * t)) 165 2 (nI 0)) x = hI h x := fun x q1 q2 q3 q4 => (hI_sI_row q1).trans (cpS_row (by omega))
      have q1 : CvEq h (sI (cpS (sR h 128 1 (some b)) 146 (217 + 3 * t)) 165 2 (nI 0)) := ⟨Nat.le_refl _, fun x hx => ⟨rfl, nI1 x (by omega) (by omega) (by omega) (by omega), rfl, hR_sR_row (by omega)⟩⟩
      have c1 : CP CV (sI (cpS (sR h 128 1 (some b)) 146 (217 + 3 * t)) 165 2 (nI 0)) (w, s, [], dI d) := by
        refine ⟨⟨b, ?_, NetV_keep (CvEq_net q1) b2⟩, ?_, ⟨hp, ?_⟩, fun x hx => ImC_cong hx (CvEq_net q1) ?_ (fun y y1 y2 => nI1 y (by omega) (by omega) (by omega) (by omega)) (ci x hx), fun k hk => ?_, ck _ _ q1 cv⟩
        · show hR (sR h 128 1 (some b)) 128 1 = some b
          rw [hR_sR, if_pos ⟨rfl, rfl⟩]
        · exact StV_row (hI_sI_row (by omega)) (hI_sI_row (by omega)) (hI_sI_row (by omega)) (cpS_new b3)
        · exact forget_V (HiV_row (fun y y1 y2 => cpS_row (by omega)) ch)
        · show hR (sR h 128 1 (some b)) 215 x = hR h 215 x
          rw [hR_sR, if_neg (by omega)]
        · rw [nI1 198 (by omega) (by omega) (by omega) (by omega)]
          exact cb k hk
      have ht1 : TP (sI (cpS (sR h 128 1 (some b)) 146 (217 + 3 * t)) 165 2 (nI 0)) ∧ TY (sI (cpS (sR h 128 1 (some b)) 146 (217 + 3 * t)) 165 2 (nI 0)) := by
        refine ⟨TP_cong ?_ ?_ ?_ ?_ ?_ ?_ t1, TY_cong (fun y y1 y2 => nI1 y (by omega) (by omega) (by omega) (by omega)) ?_ ?_ rfl t2⟩
        · exact nI1 _ (by omega) (by omega) (by omega) (by omega)
        · exact nI1 _ (by omega) (by omega) (by omega) (by omega)
        · exact nI1 _ (by omega) (by omega) (by omega) (by omega)
        · rw [nI1 _ (by omega) (by omega) (by omega) (by omega)]
        · rw [nI1 _ (by omega) (by omega) (by omega) (by omega)]
        · rw [nI1 _ (by omega) (by omega) (by omega) (by omega)]
        · exact nI1 _ (by omega) (by omega) (by omega) (by omega)
        · exact nI1 _ (by omega) (by omega) (by omega) (by omega)
      have m1 : MP (sI (cpS (sR h 128 1 (some b)) 146 (217 + 3 * t)) 165 2 (nI 0)) d := MP_cong (by rw [nI1 _ (by omega) (by omega) (by omega) (by omega)]) (nI1 _ (by omega) (by omega) (by omega) (by omega)) (nI1 _ (by omega) (by omega) (by omega) (by omega)) (fun y y1 y2 => nI1 y (by omega) (by omega) (by omega) (by omega)) m
      refine kP _ _ (S_223 hl1) (fun P2 k2 => ⟨S_223 hl1, fun g0 e => ?_⟩)
      have m3 : MP g0 d := by rw [e]; exact MP_thrown m1
      have f0 : FrM (sI (cpS (sR h 128 1 (some b)) 146 (217 + 3 * t)) 165 2 (nI 0)) g0 := by rw [e]; exact FrM_thrown _ _
      have hl0 : LX g0 := LX_Fr f0.1 hl1
      obtain ⟨z1, z2, z3, z4, z5, z6, z7⟩ := m3
      have zt := z7 t ht
      rw [hd] at zt
      refine u_within (fun p1 p2 => ⟨fun _ => ⟨S_223 hl0, 225, R_223_2 hl0, 2, S_225 hl0, vp_in_nI (by omega) (by omega), ?_⟩, fun z => absurd z (by decide)⟩) (fun k => absurd (by rw [nI_toInt (by omega)]; omega) k)
      rw [nI_clamp (by omega), zt.1]
      refine ⟨fun _ => rest32 hl0 ht (fun g f p1 p2 p3 => ?_), fun z => absurd z (by decide)⟩
      have hlg := LX_Fr f hl0
      have pn : MNet (hI g 224) w := MNet_cong (fun k hk => p2 k (by omega) (by omega)) zt.2.1 zt.2.2.1
      have psg : StM w s (fun k => hI g 224 (49 + k)) := StM_cong (by omega) (fun k hk => by rw [p2 _ (by omega) (by omega), Nat.add_assoc]) zt.2.2.2
      refine laysR (r := asR s) hlg pn oks.1 psg.2.2.1 (fun g2 f2 rg2 => k2 _ ?_)
      have row2 : ∀ k, hI g2 224 k = hI g 224 k := fun k => Fr_I f2.1 (by omega) k
      refine st_close2 ck hl1 ht1 c1 (FrM_trans f0 (FrM_trans (FrM_Fr (fun x q => ⟨Or.inr (Or.inl q), by omega⟩) f) (FrM_FrL f2))) ⟨zt.2.1, MNet_cong (fun k hk => row2 k) zt.2.1 pn, rg2, StM_FrL f2 psg, (row2 _).trans p3, fun i w2 hw => absurd hw (by simp [dH]), fun x hx => ImM_row ?_ (fun k hk => (row2 k).trans (p1 k hk)) (z7 x hx)⟩ ⟨oks, fun w2 hw => absurd hw (by simp [dH]), Nat.zero_le _, ok.2.2.2⟩
      rw [f2.1.2.2.2.2 225 (by omega), f.2.2.2.2 225 (by omega)]
  · subst e
    refine u_within (fun p1 p2 => absurd ⟨by omega, by omega⟩ q) (fun _ => ⟨fun z => absurd nI_0 z, fun _ => k2 _ cl⟩)
