/-! ===== rates: what is refused; the step ===== -/
def goodC (nums : Nat → Int64) (R m : Nat) : Prop := ∀ i, i < m → 0 ≤ (nums i).toInt ∧ (nums i).toInt < 1000 * R
theorem told_good {nums : Nat → Int64} {R m : Nat} (hR : R ≤ 64) (h : goodC nums R m) : toldC nums (fun i => (nums i).toInt.toNat) R m := fun i hi => by
  have q := h i hi
  refine ⟨?_, by show (nums i).toInt.toNat < 1000 * R; omega⟩
  show nums i = lN (nums i).toInt.toNat
  apply Int64.toInt_inj.mp
  rw [lN_tI (by omega)]
  omega
theorem n_refused {Q : Int32 → MH → Prop} {h : MH} {v : NV} {s : AS} {a : Nat} {y : Int32} (hl : LX h) (ty : TY h) (ca : hR h 128 1 = some a) (p : NetV h a v) (ok : AsOK v s) (ps : StV h 146 (encS s)) (k2 : ¬ (0 ≤ y.toInt ∧ y.toInt ≤ 3) → Q (-2) h) (k6 : ∀ t, t < 4 → y = nI t → hI h 241 t = -1 → Q (-6) h) (k0 : ∀ t m, t < 4 → y = nI t → m ≤ 40 → hI h 241 t ≠ -1 → hI h (207 + 2 * t) 1 = nI m → hI h 242 t = nI m → (∀ k, k < m → hL h (208 + 2 * t) k = hL h 243 (40 * t + k)) → ((m < 1 ∨ 8 < m) → Q (-4) h) ∧ (1 ≤ m → m ≤ 8 → (¬ goodC (fun k => hL h 243 (40 * t + k)) (bcN (nvMy v (asR s)) (nvC v)) m → Q (-3) h) ∧ (goodC (fun k => hL h 243 (40 * t + k)) (bcN (nvMy v (asR s)) (nvC v)) m → Q (nI 0) h))) : wX9_refusedPrices 128 y h Q := by
  have h4 := p.1.1
  have bC := bcN_le (nvMy v (asR s)) (nvC v)
  unfold wX9_refusedPrices
  refine u_isTray (fun t ht e => ⟨fun _ => ?_, fun z => absurd z (by decide)⟩) (fun q => ⟨fun z => absurd nI_0 z, fun _ => k2 q⟩)
  have j6 := k6 t (by omega) e
  have j0 := fun m => k0 t m (by omega) e
  subst e
  have tg := tr_S (t := t) hl (by omega)
  refine ⟨S_128 hl, 206, R_128_9 hl, 4, S_206 hl, vp_in_nI (by omega) (by omega), 207 + 2 * t, by rw [nI_clamp (by omega)]; exact tg.2.2.1, tg.1, ?_⟩
  have tyt := ty t (by omega)
  refine n_missing hl (by omega) (fun e => ⟨fun z => absurd z (by decide), fun _ => j6 ?_⟩) (fun m' hm' em' => ⟨fun _ => ⟨tg.1, ?_⟩, fun z => absurd nI_0 z⟩) (TY_cls ty (by omega))
  · rcases tyt with q | ⟨s', m', q⟩
    · exact q.2
    · rw [q.2.2.2.1] at e; exact absurd e (nI_m1 (by omega))
  obtain ⟨s0, m0, q1, q2, q3, q4, q5, q6, q7⟩ : ∃ s m : Nat, s < 4 ∧ m ≤ 40 ∧ hI h (207 + 2 * t) 0 = nI s ∧ hI h (207 + 2 * t) 1 = nI m ∧ hI h 241 t = nI s ∧ hI h 242 t = nI m ∧ ∀ k, k < m → hL h (208 + 2 * t) k = hL h 243 (40 * t + k) := by
    rcases tyt with q | q
    · rw [q.1] at em'; exact absurd em'.symm (nI_m1 (by omega))
    · exact q
  have k := j0 m0 q2 (by rw [q5]; exact nI_m1 (by omega)) q4 q6 q7
  rw [q4]
  have lt1 : (nI m0 < nI 1) ↔ m0 < 1 := by rw [Int32.lt_iff_toInt_lt, nI_toInt (by omega), nI_toInt (by omega)]; omega
  have le8 : (nI m0 ≤ nI 8) ↔ m0 ≤ 8 := by rw [Int32.le_iff_toInt_le, nI_toInt (by omega), nI_toInt (by omega)]; omega
  rw [lt1, le8]
  refine ⟨fun z => k.1 (Or.inl z), fun z => ⟨fun z2 => ⟨S_128 hl, a, ca, 146, R_128_2 hl, S_146 hl, p.2.1, ?_⟩, fun z2 => k.1 (Or.inr (by omega))⟩⟩
  have kk := k.2 (by omega) z2
  rw [show hI h 146 0 = nI (asR s) from ps.1]
  refine n_ringCount p ok.1 ⟨m0 + 1, ?_⟩
  have eb : (nI (bcN (nvMy v (asR s)) (nvC v))).toInt64 * (1000 : Int64) = lN (bcN (nvMy v (asR s)) (nvC v) * 1000) := by
    rw [nI_lN (by omega), show (1000 : Int64) = lN 1000 from rfl, lN_mul]
  rw [eb]
  have tb : (lN (bcN (nvMy v (asR s)) (nvC v) * 1000)).toInt = ((bcN (nvMy v (asR s)) (nvC v) * 1000 : Nat) : Int) := lN_tI (by omega)
  have l0 : (0 : Int64).toInt = 0 := by decide
  have lp : ∀ n i, i + n = m0 → goodC (fun k => hL h 243 (40 * t + k)) (bcN (nvMy v (asR s)) (nvC v)) i → wX9_refusedPrices_70 Q (n + 1) (207 + 2 * t) (lN (bcN (nvMy v (asR s)) (nvC v) * 1000)) (nI i) h := by
    intro n
    induction n with
    | zero =>
      intro i hi gd
      have hi : i = m0 := by omega
      subst hi
      unfold wX9_refusedPrices_70
      rw [q4]
      exact ⟨tg.1, fun _ => kk.2 gd, fun z => absurd (nI_le (Nat.le_refl _) (by omega)) z⟩
    | succ n ih =>
      intro i hi gd
      unfold wX9_refusedPrices_70
      rw [q4, nI_add]
      refine ⟨tg.1, fun z => absurd z (nI_ge (by omega) (by omega)), fun _ => ⟨208 + 2 * t, tg.2.2.2, 40, tg.2.1, vp_in_nI (by omega) (by omega), ?_⟩⟩
      rw [nI_clamp (by omega), q7 i (by omega), lgc_lt, lgc_lt, tb, l0]
      refine ⟨fun z3 => kk.1 (fun y => ?_), fun z3 => ⟨vp_in_nI (by omega) (by omega), fun z4 => ih (i + 1) (by omega) (fun x hx => ?_), fun z4 => kk.1 (fun y => ?_)⟩⟩
      · have : 0 ≤ (hL h 243 (40 * t + i)).toInt := (y i (by omega)).1
        omega
      · by_cases e : x = i
        · rw [e]
          show 0 ≤ (hL h 243 (40 * t + i)).toInt ∧ (hL h 243 (40 * t + i)).toInt < _
          omega
        · exact gd x (by omega)
      · have : (hL h 243 (40 * t + i)).toInt < 1000 * (bcN (nvMy v (asR s)) (nvC v) : Int) := (y i (by omega)).2
        omega
  exact lp m0 0 (by omega) (fun x hx => absurd hx (by omega))
theorem m_refused {Q : Int32 → MH → Prop} {h : MH} {v : NV} {s : AS} {t m : Nat} (hl : LX h) (hv : NvOK v) (pr : RgV h v (asR s)) (ht : t < 4) (e1 : hI h 241 t ≠ -1) (e2 : hI h 242 t = nI m) (hm : m ≤ 40) (k4 : (m < 1 ∨ 8 < m) → Q (-4) h) (k3 : 1 ≤ m → m ≤ 8 → ¬ goodC (fun k => hL h 243 (40 * t + k)) (bcN (nvMy v (asR s)) (nvC v)) m → Q (-3) h) (k0 : 1 ≤ m → m ≤ 8 → goodC (fun k => hL h 243 (40 * t + k)) (bcN (nvMy v (asR s)) (nvC v)) m → Q (nI 0) h) : wX10_noPriced 223 (nI t) h Q := by
  have h4 := hv.1
  have bC := bcN_le (nvMy v (asR s)) (nvC v)
  have l0 : (0 : Int64).toInt = 0 := by decide
  have l1 : (1 : Int64).toInt = 1 := by decide
  have l8 : (8 : Int64).toInt = 8 := by decide
  refine ⟨S_223 hl, m_noTray hl (fun q => absurd (by rw [nI_toInt (by omega)]; omega) q) (fun t' ht' e' q => ?_) (fun t' ht' e' q => ⟨fun _ => ⟨S_223 hl, 242, R_223_35 hl, 4, S_242 hl, vp_in_nI (by omega) (by omega), ?_⟩, fun z => absurd nI_0 z⟩)⟩
  · rw [← (nI_eq (by omega) (by omega)).mp e'] at q
    exact absurd q e1
  · rw [nI_clamp (by omega), e2]
    refine u_within (fun p1 p2 => ⟨fun _ => ⟨m + 1, ?_⟩, fun z => absurd z (by decide)⟩) (fun q => ⟨fun z => absurd nI_0 z, fun _ => k4 ?_⟩)
    · rw [nI_toInt (by omega)] at p1 p2
      have j3 := k3 (by omega) (by omega)
      have j0 := k0 (by omega) (by omega)
      have eb : ((1000 : Int64) * (nI (bcN (nvMy v (asR s)) (nvC v))).toInt64 - (1 : Int64)).toInt = (1000 * bcN (nvMy v (asR s)) (nvC v) : Int) - 1 := by
        rw [nI_lN (by omega), show (1000 : Int64) = lN 1000 from rfl, lN_mul, Int64.toInt_sub, lN_tI (by omega), l1, Int.bmod_eq_of_le (by omega) (by omega)]
        omega
      have lp : ∀ n i, i + n = m → goodC (fun k => hL h 243 (40 * t + k)) (bcN (nvMy v (asR s)) (nvC v)) i → wX10_noPriced_34 Q (n + 1) 223 (nI t) (nI i) h := by
        intro n
        induction n with
        | zero =>
          intro i hi gd
          have hi : i = m := by omega
          subst hi
          unfold wX10_noPriced_34
          rw [nI_clamp (by omega)]
          refine ⟨S_223 hl, 242, R_223_35 hl, 4, S_242 hl, vp_in_nI (by omega) (by omega), ?_⟩
          rw [e2]
          exact ⟨fun _ => j0 gd, fun z => absurd (nI_le (Nat.le_refl _) (by omega)) z⟩
        | succ n ih =>
          intro i hi gd
          unfold wX10_noPriced_34
          rw [nI_clamp (show t < 2 ^ 31 by omega)]
          refine ⟨S_223 hl, 242, R_223_35 hl, 4, S_242 hl, vp_in_nI (by omega) (by omega), ?_⟩
          rw [e2]
          simp only [nI_mul, nI_add]
          refine ⟨fun z => absurd z (nI_ge (by omega) (by omega)), fun _ => ⟨243, R_223_36 hl, 160, S_243 hl, vp_in_nI (by omega) (by omega), ?_⟩⟩
          rw [nI_clamp (by omega), pr.1]
          refine u_withinL (fun r1 r2 => ⟨fun _ => ih (i + 1) (by omega) (fun x hx => ?_), fun z => absurd z (by decide)⟩) (fun q => ⟨fun z => absurd nI_0 z, fun _ => j3 (fun y => q ?_)⟩)
          · rw [eb] at r2
            rw [l0] at r1
            by_cases e : x = i
            · rw [e]
              show 0 ≤ (hL h 243 (40 * t + i)).toInt ∧ (hL h 243 (40 * t + i)).toInt < _
              omega
            · exact gd x (by omega)
          · have := y i (by omega)
            have a1 : 0 ≤ (hL h 243 (40 * t + i)).toInt := this.1
            have a2 : (hL h 243 (40 * t + i)).toInt < 1000 * (bcN (nvMy v (asR s)) (nvC v) : Int) := this.2
            rw [eb, l0]
            omega
      exact lp m 0 (by omega) (fun x hx => absurd hx (by omega))
    · rw [nI_toInt (by omega)] at q
      omega
theorem ST_rates_c {CV : MH → Prop} (ck : ∀ h h1, CvEq h h1 → CV h → CV h1) : ST_rates (RLY (RRc CV)) := by
  intro y1 h hr P kP
  obtain ⟨hl, t1, t2, d, ok, c, m⟩ := hr
  have cl := rd_close (x := nI 0) ck hl t1 t2 ok c m
  obtain ⟨⟨a, ca, cn⟩, cs, _⟩ := id c
  have h4 := cn.1.1
  have bC := bcN_le (nvMy (dN d) (asR (dS d))) (nvC (dN d))
  have m2 := MP_thrown (x := nI 0) m
  have hl2 : LX (sI h 223 0 (nI 0)) := LX_sI hl
  have row : ∀ b, b ≠ 223 → hI (sI h 223 0 (nI 0)) b = hI h b := fun b hb => hI_sI_row hb
  refine ⟨S_128 hl, n_refused hl t2 ca cn ok.1 cs (fun q => ⟨fun z => absurd z (by decide), fun _ => kP _ _ (S_223 hl) (fun P2 k2 => ⟨S_223 hl, fun _ e => ?_⟩)⟩) (fun t ht e e1 => ⟨fun z => absurd z (by decide), fun _ => kP _ _ (S_223 hl) (fun P2 k2 => ⟨S_223 hl, fun _ e2 => ?_⟩)⟩) (fun t mm ht e hm e1 e2 e3 e4 => ?_)⟩
  · subst e
    refine ⟨S_223 hl2, m_noTray hl2 (fun _ => ⟨fun z => absurd z (by decide), fun _ => ⟨fun z => absurd z (by decide), fun _ => k2 _ cl⟩⟩) (fun t ht e _ => ?_) (fun t ht e _ => ?_)⟩
    · rw [e, nI_toInt (by omega)] at q; omega
    · rw [e, nI_toInt (by omega)] at q; omega
  · subst e2
    subst e
    refine ⟨S_223 hl2, m_noTray hl2 (fun q => absurd (by rw [nI_toInt (by omega)]; omega) q) (fun t' ht' e' _ => ⟨fun z => absurd z (by decide), fun _ => ⟨fun z => absurd z (by decide), fun _ => k2 _ cl⟩⟩) (fun t' ht' e' q => absurd ?_ q)⟩
    rw [← (nI_eq (by omega) (by omega)).mp e', row 241 (by omega)]
    exact e1
  · subst e
    have tg := tr_S (t := t) hl ht
    refine ⟨fun z => ⟨fun y => absurd y (by decide), fun _ => kP _ _ (S_223 hl) (fun P2 k2 => ⟨S_223 hl, fun _ e => ?_⟩)⟩, fun z1 z2 => ⟨fun ng => ⟨fun y => absurd y (by decide), fun _ => kP _ _ (S_223 hl) (fun P2 k2 => ⟨S_223 hl, fun _ e => ?_⟩)⟩, fun gd => ⟨fun _ => ⟨S_128 hl, 206, R_128_9 hl, 4, S_206 hl, vp_in_nI (by omega) (by omega), 207 + 2 * t, by rw [nI_clamp (by omega)]; exact tg.2.2.1, n_pricedRates (nums := fun k => hL h 243 (40 * t + k)) hl ca cn ok.1 cs ht hm e2 e4 (told_good (by omega) gd) (kP _ _ (S_223 hl) (fun P2 k2 => ⟨S_223 hl, fun _ e => ?_⟩))⟩, fun y => absurd nI_0 y⟩⟩⟩
    · subst e
      exact m_refused (s := dS d) hl2 cn.1 m2.2.2.1 ht (by rw [row 241 (by omega)]; exact e1) (by rw [row 242 (by omega)]; exact e3) hm (fun _ => ⟨fun y => absurd y (by decide), fun _ => k2 _ cl⟩) (fun y1 y2 => absurd z (by omega)) (fun y1 y2 => absurd z (by omega))
    · subst e
      exact m_refused (s := dS d) hl2 cn.1 m2.2.2.1 ht (by rw [row 241 (by omega)]; exact e1) (by rw [row 242 (by omega)]; exact e3) hm (fun y => absurd y (by omega)) (fun _ _ _ => ⟨fun y => absurd y (by decide), fun _ => k2 _ cl⟩) (fun _ _ gd => absurd gd ng)
    · subst e
      refine m_refused (s := dS d) hl2 cn.1 m2.2.2.1 ht (by rw [row 241 (by omega)]; exact e1) (by rw [row 242 (by omega)]; exact e3) hm (fun y => absurd y (by omega)) (fun _ _ ng => absurd gd ng) (fun _ _ _ => ⟨fun _ => ⟨S_223 hl2, m_ratesOf (nums := fun k => hL h 243 (40 * t + k)) hl2 cn.1 m2 ht hm (by rw [row 242 (by omega)]; exact e3) (fun k hk => rfl) (told_good (by omega) gd) (fun g f mg => k2 _ (st_close ck hl ⟨t1, t2⟩ (Fr_rfl _ _) c (FrM_trans (FrM_thrown h (nI 0)) f) mg ok))⟩, fun y => absurd nI_0 y⟩)
