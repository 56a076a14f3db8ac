/-! ===== the reference's rate ===== -/
theorem mask_ext {a b n : Nat} (ha : a < 2 ^ n) (hb : b < 2 ^ n) (e : ∀ c, c < n → (bt a c = 1 ↔ bt b c = 1)) : a = b := by
  apply Nat.eq_of_testBit_eq
  intro i
  by_cases q : i < n
  · have h := e i q
    rw [bt_tb, bt_tb] at h
    cases h1 : a.testBit i <;> cases h2 : b.testBit i
    · rfl
    · exact absurd (h.mpr h2) (by rw [h1]; decide)
    · exact absurd (h.mp h1) (by rw [h2]; decide)
    · rfl
  · rw [Nat.testBit_lt_two_pow (Nat.lt_of_lt_of_le ha (Nat.pow_le_pow_right (by omega) (by omega))), Nat.testBit_lt_two_pow (Nat.lt_of_lt_of_le hb (Nat.pow_le_pow_right (by omega) (by omega)))]
theorem rings_sub {v : NV} {h g : MH} {r q : Nat} (hv : NvOK v) (p1 : RgV h v r) (p2 : RgV g v q) (en : bcN (nvMy v r) (nvC v) = bcN (nvMy v q) (nvC v)) (e : ∀ k, k < bcN (nvMy v q) (nvC v) → hI h 230 k = hI g 230 k) : ∀ c, c < nvC v → bt (nvMy v r) c = 1 → bt (nvMy v q) c = 1 := by
  intro c hc hb
  have hlt := bcN_lt hc hb
  obtain ⟨d, d1, d2, d3⟩ := ring_ex (m := nvMy v q) (n := nvC v) (r := bcN (nvMy v r) c) (by omega)
  have e1 := (p1.2 c hc hb).1
  have e2 := (p2.2 d d1 d2).1
  rw [d3] at e2
  have e3 := e (bcN (nvMy v r) c) (by omega)
  rw [e1, e2] at e3
  rw [on_inj hv hc d1 e3]
  exact d2
theorem rings_same {v : NV} {h g : MH} {r q : Nat} (hv : NvOK v) (hr : r < 10) (hq : q < 10) (p1 : RgV h v r) (p2 : RgV g v q) (en : bcN (nvMy v r) (nvC v) = bcN (nvMy v q) (nvC v)) (e : ∀ k, k < bcN (nvMy v q) (nvC v) → hI h 230 k = hI g 230 k) : nvMy v r = nvMy v q :=
  mask_ext (hv.2.2.2.2.2.2 r hr) (hv.2.2.2.2.2.2 q hq) (fun c hc => ⟨rings_sub hv p1 p2 en e c hc, rings_sub hv p2 p1 en.symm (fun k hk => (e k (by omega)).symm) c hc⟩)
theorem rate7 {Q : MH → Prop} {h : MH} {x1 x2 : Int32} {R : Nat} (hl : LX h) (hR40 : R ≤ 40) (eR : hI h 223 23 = nI R) (hq : ∀ g, Fr (fun b => b = 234) h g → (∀ k, k < R → hI g 234 k = hI h 230 k) → ∃ a3, hR g 223 1 = some a3 ∧ ∃ n6, hS g a3 = (2, n6) ∧ vp_in (nI 114) n6 ∧ ∀ h8, h8 = sI g a3 (nI 114).toNatClampNeg (x1) → wX10_laysRings 223 h8 (fun h10 => hS h10 223 = (1, 10) ∧ ∀ v13, v13 = (if hI h10 223 23 = x2 then nI 1 else nI 0) → ∃ m39, wX10_goesRate_62 Q m39 223 v13 (nI 0) h10)) : ∃ m, wX10_goesRate_7 Q m 223 x1 x2 (nI 0) h := by
  have lp : ∀ n i g, i + n = R → Fr (fun b => b = 234) h g → (∀ k, k < i → hI g 234 k = hI h 230 k) → wX10_goesRate_7 Q (n + 1) 223 x1 x2 (nI i) g := by
    intro n
    induction n with
    | zero =>
      intro i g hi f p
      have hi : i = R := by omega
      subst hi
      unfold wX10_goesRate_7
      rw [Fr_I f (by omega), eR]
      exact ⟨S_223 (LX_Fr f hl), fun _ => hq g f p, fun z => absurd (nI_le (Nat.le_refl _) (by omega)) z⟩
    | succ n ih =>
      intro i g hi f p
      have hlg := LX_Fr f hl
      unfold wX10_goesRate_7
      rw [Fr_I f (by omega), eR, nI_add, nI_clamp (show i < 2 ^ 31 by omega)]
      refine ⟨S_223 hlg, fun z => absurd z (nI_ge (by omega) (by omega)), fun _ => ⟨234, R_223_22 hlg, 230, R_223_18 hlg, 64, S_230 hlg, vp_in_nI (by omega) (by omega), 64, S_234 hlg, vp_in_nI (by omega) (by omega), fun _ e => ?_⟩⟩
      subst e
      refine ih (i + 1) _ (by omega) (Fr_trans f (Fr_sI rfl)) (fun k hk => ?_)
      rw [hI_sI]
      by_cases q : k = i
      · rw [if_pos ⟨rfl, q⟩, q, Fr_I f (by omega)]
      · rw [if_neg (fun z => q z.2)]
        exact p k (by omega)
  exact ⟨R + 1, lp R 0 h (by omega) (Fr_rfl _ _) (fun k hk => absurd hk (by omega))⟩
theorem rate62 {Q : MH → Prop} {g : MH} {R : Nat} (hl : LX g) (hR40 : R ≤ 40) (eR : hI g 223 23 = nI R) (k1 : (∀ k, k < R → hI g 230 k = hI g 234 k) → Q g) (k0 : ¬ (∀ k, k < R → hI g 230 k = hI g 234 k) → wX10_goesRate_104 Q 223 (nI 0) g) : ∀ n i, i + n = R → (∀ k, k < i → hI g 230 k = hI g 234 k) → wX10_goesRate_62 Q (n + 1) 223 (nI 1) (nI i) g := by
  intro n
  induction n with
  | zero =>
    intro i hi p
    have hi : i = R := by omega
    subst hi
    unfold wX10_goesRate_62
    rw [eR]
    exact ⟨S_223 hl, fun _ => ⟨fun z => absurd z (by decide), fun _ => k1 p⟩, fun z => absurd (nI_le (Nat.le_refl _) (by omega)) z⟩
  | succ n ih =>
    intro i hi p
    unfold wX10_goesRate_62
    rw [eR, nI_add, nI_clamp (by omega)]
    refine ⟨S_223 hl, fun z => absurd z (nI_ge (by omega) (by omega)), fun _ => ⟨fun z => absurd z (by decide), fun _ => ⟨230, R_223_18 hl, 64, S_230 hl, vp_in_nI (by omega) (by omega), 234, R_223_22 hl, 64, S_234 hl, vp_in_nI (by omega) (by omega), fun _ e => ?_⟩⟩⟩
    by_cases q : hI g 230 i = hI g 234 i
    · rw [if_pos q] at e
      subst e
      refine ih (i + 1) (by omega) (fun k hk => ?_)
      by_cases q2 : k = i
      · rw [q2]; exact q
      · exact p k (by omega)
    · rw [if_neg q] at e
      subst e
      have kk := k0 (fun y => q (y i (by omega)))
      cases n with
      | zero =>
        unfold wX10_goesRate_62
        rw [eR]
        exact ⟨S_223 hl, fun _ => kk, fun z => ⟨fun _ => kk, fun y => absurd nI_0 y⟩⟩
      | succ n =>
        unfold wX10_goesRate_62
        rw [eR]
        exact ⟨S_223 hl, fun _ => kk, fun z => ⟨fun _ => kk, fun y => absurd nI_0 y⟩⟩
theorem rate104 {Q : MH → Prop} {h : MH} {v : NV} {r : Nat} (hl : LX h) (hv : NvOK v) (er : hI h 224 114 = nI r) (hq : ∀ g, Fr (fun b => b = 224) h g → (∀ k, (k < 49 ∨ 175 ≤ k) → hI g 224 k = hI h 224 k) → StM v (bgA r) (fun k => hI g 224 (49 + k)) → Q g) : wX10_goesRate_104 Q 223 (nI 0) h := by
  have h4 := hv.1
  have lp : ∀ n i g, i + n = 64 → Fr (fun b => b = 224) h g → (∀ k, (k < 49 ∨ 113 ≤ k) → hI g 224 k = hI h 224 k) → (∀ k, k < i → hI g 224 (49 + k) = 0) → wX10_goesRate_112 Q (n + 1) 223 (nI i) g := by
    intro n
    induction n with
    | zero =>
      intro i g hi f p1 p2
      have hi : i = 64 := by omega
      subst hi
      have hlg := LX_Fr f hl
      unfold wX10_goesRate_112
      refine ⟨fun _ => ⟨S_223 hlg, u_isFresh hlg (hq _ (Fr_trans f (Fr_trans (Fr_sI rfl) (Fr_rI rfl))) (fun k hk => ?_) ⟨fun c hc hb => ?_, ?_, ?_, fun u j hu hj => ?_⟩)⟩, fun z => absurd (nI_le (by omega) (by omega)) z⟩
      · rw [hI_rI, if_pos rfl]
        show frH _ 0 k = _
        unfold frH
        rw [if_neg (by omega), hI_sI, if_neg (by omega)]
        exact p1 k (by omega)
      · have := bcN_le (asM v (bgA r)) c
        show hI (rI _ 224 _) 224 (49 + bcN (asM v (bgA r)) c) = nI 0
        rw [hI_rI, if_pos rfl]
        unfold frH
        rw [if_neg (by omega), hI_sI, if_neg (by omega), p2 _ (by omega)]
        exact nI_0.symm
      · show hI (rI _ 224 _) 224 113 = nI 0
        rw [hI_rI, if_pos rfl]
        unfold frH
        rw [if_neg (by omega), hI_sI, if_pos ⟨rfl, rfl⟩]
      · show hI (rI _ 224 _) 224 114 = nI r
        rw [hI_rI, if_pos rfl]
        unfold frH
        rw [if_neg (by omega), hI_sI, if_neg (by omega), p1 _ (by omega)]
        exact er
      · show hI (rI _ 224 _) 224 (49 + (66 + 3 * u + j)) = 0
        rw [hI_rI, if_pos rfl]
        unfold frH
        rw [if_pos (by omega)]
    | succ n ih =>
      intro i g hi f p1 p2
      have hlg := LX_Fr f hl
      unfold wX10_goesRate_112
      simp only [nI_add]
      refine ⟨fun z => absurd z (nI_ge (by omega) (by omega)), fun _ => ⟨S_223 hlg, 224, R_223_1 hlg, 7011, S_224 hlg, vp_in_nI (by omega) (by omega), fun _ e => ?_⟩⟩
      rw [nI_clamp (by omega)] at e
      subst e
      refine ih (i + 1) _ (by omega) (Fr_trans f (Fr_sI rfl)) (fun k hk => ?_) (fun k hk => ?_)
      · rw [hI_sI, if_neg (by omega)]
        exact p1 k hk
      · rw [hI_sI]
        by_cases q : k = i
        · rw [if_pos ⟨rfl, by omega⟩]
          exact nI_0
        · rw [if_neg (by omega)]
          exact p2 k (by omega)
  exact ⟨fun _ => ⟨65, lp 64 0 h (by omega) (Fr_rfl _ _) (fun _ _ => rfl) (fun k hk => absurd hk (by omega))⟩, fun z => absurd nI_0 z⟩
theorem m_goesRate {Q : MH → Prop} {h : MH} {v : NV} {s : AS} {r : Nat} (hl : LX h) (hv : NvOK v) (pn : MNet (hI h 224) v) (pr : RgV h v (asR s)) (ok : AsOK v s) (ps : StM v s (fun k => hI h 224 (49 + k))) (hr : r < 10) (hq : ∀ g, MDe v h (dRate v s r) g → Q g) : wX10_goesRate 223 (nI r) h Q := by
  have h4 := hv.1
  have bR := bcN_le (nvMy v (asR s)) (nvC v)
  have bR2 := bcN_le (nvMy v r) (nvC v)
  unfold wX10_goesRate
  refine ⟨S_223 hl, rate7 hl (by omega) pr.1 (fun g f p => ⟨224, R_223_1 (LX_Fr f hl), 7011, S_224 (LX_Fr f hl), vp_in_nI (by omega) (by omega), fun _ e => ?_⟩)⟩
  rw [nI_clamp (by omega)] at e
  subst e
  have hlg := LX_Fr f hl
  have hl8 : LX (sI g 224 114 (nI r)) := LX_sI hlg
  have row : ∀ k, k ≠ 114 → hI (sI g 224 114 (nI r)) 224 k = hI h 224 k := fun k hk => by
    rw [hI_sI, if_neg (by omega), Fr_I f (by omega)]
  have pn8 : MNet (hI (sI g 224 114 (nI r)) 224) v := MNet_cong (fun k hk => row k (by omega)) (by omega) pn
  have f8 : Fr SE h (sI g 224 114 (nI r)) := Fr_trans (Fr_mono (fun b q => by unfold SE; omega) f) (Fr_sI (Or.inr (Or.inl rfl)))
  have r8 : hI (sI g 224 114 (nI r)) 224 114 = nI r := by rw [hI_sI, if_pos ⟨rfl, rfl⟩]
  refine laysR (r := r) hl8 pn8 hr r8 (fun g2 f2 rg2 => ⟨S_223 (LX_Fr f2.1 hl8), fun x e => ?_⟩)
  have hl2 := LX_Fr f2.1 hl8
  have fe : Fr SE h g2 := Fr_trans f8 (Fr_mono (fun b q => by unfold SE; omega) f2.1)
  have row2 : ∀ k, hI g2 224 k = hI (sI g 224 114 (nI r)) 224 k := fun k => Fr_I f2.1 (by omega) k
  have f23 : ∀ k, k ≠ 23 → hI g2 223 k = hI h 223 k := fun k hk => (f2.2 k hk).trans (by rw [hI_sI, if_neg (by omega), Fr_I f (by omega)])
  have were : ∀ k, k < bcN (nvMy v (asR s)) (nvC v) → hI g2 234 k = hI h 230 k := fun k hk => by
    rw [Fr_I f2.1 (by omega), hI_sI, if_neg (by omega)]
    exact p k hk
  have reset : nvMy v r ≠ nvMy v (asR s) → wX10_goesRate_104 Q 223 (nI 0) g2 := fun hne => rate104 (r := r) hl2 hv ((row2 114).trans r8) (fun g3 f3 q1 q2 => hq g3 (by
    unfold dRate
    rw [if_neg hne]
    refine ⟨Fr_trans fe (Fr_mono (fun b q => Or.inr (Or.inl q)) f3), fun k hk => (Fr_I f3 (by omega) k).trans (f23 k hk), fun k hk => (q1 k hk).trans ((row2 k).trans (row k (by omega))), q2, ?_⟩
    exact RgV_row (Fr_I f3 (by omega) _) (f3.2.2.2.2 _ (by omega)) (f3.2.2.2.2 _ (by omega)) (f3.2.2.2.2 _ (by omega)) (f3.2.2.2.2 _ (by omega)) rg2))
  rw [rg2.1, pr.1] at e
  by_cases q : bcN (nvMy v r) (nvC v) = bcN (nvMy v (asR s)) (nvC v)
  · rw [if_pos (congrArg nI q)] at e
    subst e
    refine ⟨_, rate62 hl2 (by omega) rg2.1 (fun y => hq g2 ?_) (fun y => reset (fun z => y (fun k hk => ?_))) (bcN (nvMy v r) (nvC v)) 0 (by omega) (fun k hk => absurd hk (by omega))⟩
    · have em : nvMy v r = nvMy v (asR s) := rings_same hv hr ok.1 rg2 pr q (fun k hk => by
        rw [y k (by omega), were k hk])
      unfold dRate
      rw [if_pos em]
      have em2 : asM v (r, asF s, asC s, asW s) = asM v s := em
      refine ⟨fe, f23, fun k hk => (row2 k).trans (row k (by omega)), ⟨fun c hc hb => ?_, ?_, ?_, fun u j hu hj => ?_⟩, rg2⟩
      · rw [em2] at hb ⊢
        have := bcN_le (asM v s) c
        exact ((row2 _).trans (row _ (by omega))).trans (ps.1 c hc hb)
      · exact ((row2 _).trans (row 113 (by omega))).trans ps.2.1
      · exact (row2 114).trans r8
      · rw [em2]
        exact ((row2 _).trans (row _ (by omega))).trans (ps.2.2.2 u j hu hj)
    · rw [were k (by omega)]
      obtain ⟨c, c1, c2, c3⟩ := ring_ex (m := nvMy v r) (n := nvC v) hk
      have e1 := (rg2.2 c c1 c2).1
      have c2' := c2
      rw [z] at c2'
      have e2 := (pr.2 c c1 c2').1
      rw [c3] at e1
      rw [← z, c3] at e2
      rw [e1, e2]
  · rw [if_neg (fun z => q ((nI_eq (by omega) (by omega)).mp z))] at e
    subst e
    have kk := reset (fun z => q (by rw [z]))
    refine ⟨1, ?_⟩
    unfold wX10_goesRate_62
    exact ⟨S_223 hl2, fun _ => kk, fun z => ⟨fun _ => kk, fun y => absurd nI_0 y⟩⟩
