/-! ===== lookAt; bare ===== -/
theorem n_lookAt {lp : NV → Nat → Nat → Nat} {A : Nat} {Q : MH → Prop} {h : MH} {v : NV} {a r : Nat} (hl : LX h) (cv : CVA lp A h) (hA : A < 2 ^ 40) (p : NetV h a v) (hr : r < 10) (hq : ∀ g, LkF h g → CVA lp (A + 1) g → hR g 199 0 = some a → hI g 199 1 = nI r → CvR g v r → Q g) : wX0_lookAt 199 a (nI r) h Q := by
  have h4 := p.1.1
  have bR := bcN_le (nvMy v r) (nvC v)
  have na := p.2.2.1
  obtain ⟨age, w, c1, c2, c3, c4, c5⟩ := id cv
  have fresh : wX0_lookAt_17 Q 199 a (nI r) h := by
    refine ⟨S_199 hl, fun h5 e5 h6 e6 => ?_⟩
    have hl6 : LX h6 := by rw [e6, e5]; exact LX_sI (LX_sR hl tabR_199_0)
    have k6 : LkF h h6 := by
      refine ⟨by rw [e6, e5]; rfl, by rw [e6, e5]; rfl, fun b k z => by rw [e6, e5]; show hR (sR h 199 0 (some a)) b k = _; rw [hR_sR, if_neg z], fun b k z => by rw [e6, e5]; rfl, fun b z => by rw [e6, hI_sI_row (by omega), e5]; rfl⟩
    have a6 : hR h6 199 0 = some a := by rw [e6, e5]; show hR (sR h 199 0 (some a)) 199 0 = _; rw [hR_sR, if_pos ⟨rfl, rfl⟩]
    have i6 : hI h6 199 1 = nI r := by rw [e6, hI_sI, if_pos ⟨rfl, rfl⟩]
    have p6 : NetV h6 a v := NetV_keep (NetEq_LkF k6) p
    refine ⟨a, a6, p6.2.1, ?_⟩
    rw [i6]
    refine n_ringCount p6 hr ⟨S_199 hl6, fun h13 e13 h14 e14 h15 e15 => ⟨bcN (nvMy v r) (nvC v) - bcN (nvMy v r) 0 + 1, ?_⟩⟩
    have emin : (if nI (bcN (nvMy v r) (nvC v)) < nI 40 then nI (bcN (nvMy v r) (nvC v)) else nI 40) = nI (bcN (nvMy v r) (nvC v)) := by
      by_cases q : bcN (nvMy v r) (nvC v) < 40
      · rw [if_pos (nI_lt q (by omega))]
      · rw [if_neg (nI_nlt (by omega) (by omega)), show bcN (nvMy v r) (nvC v) = 40 from by omega]
    rw [emin] at e13
    have l14 : hL h14 199 8 = lN age := by
      rw [e14, e13, e6, e5]
      exact c2
    rw [l14, lN_1] at e15
    have k15 : LkF h h15 := by
      refine ⟨by rw [e15, e14, e13]; exact k6.1, by rw [e15, e14, e13]; exact k6.2.1, fun b k z => by rw [e15, e14, e13]; exact k6.2.2.1 b k z, fun b k z => ?_, fun b z => ?_⟩
      · rw [e15, hL_sL, if_neg z, e14, e13]
        exact k6.2.2.2.1 b k z
      · rw [e15]
        show hI h14 b = _
        rw [e14, hI_sI_row (by omega), e13, hI_sI_row (by omega)]
        exact k6.2.2.2.2 b z
    have hl15 := LX_LkF k15 hl
    have p15 : NetV h15 a v := NetV_keep (NetEq_LkF k15) p
    have a15 : hR h15 199 0 = some a := by rw [e15, e14, e13]; exact a6
    have i1 : hI h15 199 1 = nI r := by
      rw [e15]
      show hI h14 199 1 = _
      rw [e14, hI_sI, if_neg (by omega), e13, hI_sI, if_neg (by omega)]
      exact i6
    have i2 : hI h15 199 2 = nI (bcN (nvMy v r) (nvC v)) := by
      rw [e15]
      show hI h14 199 2 = _
      rw [e14, hI_sI, if_neg (by omega), e13, hI_sI, if_pos ⟨rfl, rfl⟩]
    have i6' : hI h15 199 6 = nI (wuN v r 0) := by
      rw [e15]
      show hI h14 199 6 = _
      rw [e14, hI_sI, if_pos ⟨rfl, rfl⟩]
      rfl
    have l15 : hL h15 199 8 = lN (age + 1) := by rw [e15, hL_sL, if_pos ⟨rfl, rfl⟩]
    refine look64 hl15 p15 hr a15 i1 i2 (fun g f r1 cr => ?_) (nvC v) 0 h15 (by omega) (Fr_rfl _ _) i1 i2 i6' (fun k hk => absurd hk (by omega))
    have kg : LkF h g := ⟨f.1.trans k15.1, f.2.1.trans k15.2.1, fun b k z => by rw [f.2.2.2.1]; exact k15.2.2.1 b k z, fun b k z => by rw [f.2.2.1]; exact k15.2.2.2.1 b k z, fun b z => (f.2.2.2.2 b (by omega)).trans (k15.2.2.2.2 b z)⟩
    have ag : hR g 199 0 = some a := by rw [f.2.2.2.1]; exact a15
    refine hq g kg ?_ ag r1 cr
    refine ⟨age + 1, w, by omega, by rw [f.2.2.1]; exact l15, by rw [kg.2.2.1 199 7 (by omega)]; exact c3, ?_, Or.inr ⟨a, v, r, ag, NetV_keep (NetEq_LkF kg) p, hr, r1, cr, fun y => ?_⟩⟩
    · rcases c4 with z | z
      · exact Or.inl z
      · refine Or.inr ⟨z.1, by rw [kg.1]; exact z.2.1, by rw [kg.2.1]; exact z.2.2.1, fun k hk => ?_⟩
        rw [kg.2.2.2.1 w k (by omega)]
        have := z.2.2.2 k hk
        omega
    · rcases c4 with z | z
      · exact absurd z y
      · intro k hk m hm e
        exfalso
        rw [kg.2.2.2.1 w k (by omega)] at e
        have := z.2.2.2 k hk
        omega
  refine ⟨S_199 hl, fun x ex => ?_, fun x ex => ?_, fun _ => fresh, fun ea => ⟨fun _ => fresh, fun er => ?_⟩⟩
  · rcases c5 with z | ⟨a', v', r', z1, z2, _⟩
    · rw [z.1] at ex; exact absurd ex (by simp)
    · rw [z1] at ex
      injection ex with ex
      have := z2.2.2.1
      unfold NA at this
      omega
  · injection ex with ex
    unfold NA at na
    omega
  · rcases c5 with z | ⟨a', v', r', z1, z2, z3, z4, z5, z6⟩
    · rw [z.1] at ea; exact absurd ea (by simp)
    · rw [z1] at ea
      injection ea with ea
      subst ea
      have e2 : r' = r := (nI_eq (by omega) (by omega)).mp (z4.symm.trans er)
      subst e2
      exact hq h (LkF_rfl h) (CVA_up cv) z1 z4 (CvR_fun z3 z2 p z5)
/-- behind lookAt all else stands as it stood -/
theorem lk_at {lp : NV → Nat → Nat → Nat} {A B : Nat} {h g : MH} {d : DV} (hl : LX h) (t1 : TP h) (t2 : TY h) (c : CP (CVA lp A) h d) (m : MP h d) (f : LkF h g) (cv : CVA lp B g) : LX g ∧ (TP g ∧ TY g) ∧ CP (CVA lp B) g d ∧ MP g d := by
  have ni : ∀ b, (b < 199 ∨ 202 < b) → hI g b = hI h b := f.2.2.2.2
  have q := NetEq_LkF f
  refine ⟨LX_LkF f hl, ⟨TP_cong (ni _ (by omega)) (ni _ (by omega)) (ni _ (by omega)) (by rw [ni _ (by omega)]) (by rw [ni _ (by omega)]) (by rw [ni _ (by omega)]) t1, ?_⟩, ?_, MP_cong (by rw [ni _ (by omega)]) (ni _ (by omega)) (ni _ (by omega)) (fun b b1 b2 => ni b (by omega)) m⟩
  · intro t ht
    have y := t2 t ht
    unfold TY1 at *
    rw [ni (207 + 2 * t) (by omega), ni 241 (by omega), ni 242 (by omega)]
    rcases y with y | ⟨s, m0, y1, y2, y3, y4, y5, y6, y7⟩
    · exact Or.inl y
    · refine Or.inr ⟨s, m0, y1, y2, y3, y4, y5, y6, fun k hk => ?_⟩
      rw [f.2.2.2.1 _ _ (by omega), f.2.2.2.1 _ _ (by omega)]
      exact y7 k hk
  · obtain ⟨⟨a, ca, cn⟩, cs, ⟨p, ch⟩, ci, cb, _⟩ := c
    refine ⟨⟨a, by rw [f.2.2.1 _ _ (by omega)]; exact ca, NetV_keep q cn⟩, StV_row (ni _ (by omega)) (ni _ (by omega)) (ni _ (by omega)) cs, ⟨p, HiV_row (fun b b1 b2 => ni b (by omega)) ch⟩, fun t ht => ImC_cong ht q (f.2.2.1 _ _ (by omega)) (fun b b1 b2 => ni b (by omega)) (ci t ht), fun k hk => ?_, cv⟩
    rw [ni 198 (by omega)]
    exact cb k hk
/-- the step statement of a call that may grow the covers' age: from R to R2 -/
def ST2_bare (R R2 : MH → Prop) : Prop := ∀ (h : MH), R h → ∀ P : Int32 → MH → Prop, (∀ (r : Int32) (h1 : MH), hS h1 223 = (1, 10) → (∀ P2 : Int32 → MH → Prop, (∀ h2 : MH, R2 h2 → P2 r h2) → wX10_bare 223 h1 P2) → P r h1) → wX9_bare 128 h P
def dfN (a b : Nat) : Nat := a ^^^ (a &&& b)
theorem dfN_lt {a b n : Nat} (h : a < 2 ^ n) : dfN a b < 2 ^ n := Nat.xor_lt_two_pow h (Nat.lt_of_le_of_lt Nat.and_le_left h)
theorem dfN_df (a b c : Nat) : dfN (dfN a b) c = dfN a (b ||| c) := by
  apply Nat.eq_of_testBit_eq
  intro i
  unfold dfN
  rw [Nat.testBit_xor, Nat.testBit_and, Nat.testBit_xor, Nat.testBit_and, Nat.testBit_xor, Nat.testBit_and, Nat.testBit_or]
  cases a.testBit i <;> cases b.testBit i <;> cases c.testBit i <;> rfl
theorem dfN_0 (a : Nat) : dfN a 0 = a := by
  unfold dfN
  rw [Nat.and_zero, Nat.xor_zero]
theorem ST2_bare_c {lp : NV → Nat → Nat → Nat} {A : Nat} (hA : A < 2 ^ 40) : ST2_bare (RLY (RRc (CVA lp A))) (RLY (RRc (CVA lp (A + 1)))) := by
  intro h hr P kP
  obtain ⟨hl, t1, t2, d, ok, c, m⟩ := hr
  obtain ⟨⟨a, ca, cn⟩, cs, _, _, _, cv⟩ := id c
  have h4 := cn.1.1
  have pL0 : 0 < 2 ^ nvL (dN d) := Nat.two_pow_pos _
  have pL : 2 ^ nvL (dN d) ≤ 1024 := by
    have : (2 : Nat) ^ nvL (dN d) ≤ 2 ^ 10 := Nat.pow_le_pow_right (by omega) (by omega)
    omega
  refine ⟨S_128 hl, 199, R_128_7 hl, a, ca, 146, R_128_2 hl, S_146 hl, S_199 hl, S_199 hl, ?_⟩
  rw [show hI h 146 0 = nI (asR (dS d)) from cs.1]
  refine n_lookAt hl cv hA cn ok.1.1 (fun g f cg ag ig cr => ?_)
  obtain ⟨hlg, tg, cpg, mg⟩ := lk_at hl t1 t2 c m f cg
  have cng : NetV g a (dN d) := NetV_keep (NetEq_LkF f) cn
  have wl := lt_of_pow (wuN_lt cn.1 (asR (dS d)) (nvC (dN d)) (Nat.le_refl _)) (by omega)
  refine ⟨S_199 hlg, a, ag, cng.2.1, ?_⟩
  rw [cng.2.2.2.2.2.1, cr.2.1, nI_shl _ (by omega), nI_subN (by omega), nI_andn (by omega) (by omega)]
  refine kP _ _ (S_223 hlg) (fun P2 k2 => ⟨S_223 hlg, fun g2 e2 => ?_⟩)
  have m2 : MP g2 d := by rw [e2]; exact MP_thrown mg
  have f2 : FrM g g2 := by rw [e2]; exact FrM_thrown _ _
  have hl2 := LX_Fr f2.1 hlg
  have fin := k2 _ (st_close2 (CVA_keep lp (A + 1)) hlg tg cpg f2 m2 ok)
  have hC := bcN_le (nvMy (dN d) (asR (dS d))) (nvC (dN d))
  have lpp : ∀ n k, k + n = nvC (dN d) → wX10_bare_18 P2 (bcN (nvMy (dN d) (asR (dS d))) (nvC (dN d)) - bcN (nvMy (dN d) (asR (dS d))) k + 1) 223 (nI (dfN (2 ^ nvL (dN d) - 1) (wuN (dN d) (asR (dS d)) k))) (nI (bcN (nvMy (dN d) (asR (dS d))) k)) g2 := by
    intro n
    induction n with
    | zero =>
      intro k hn
      have hn : k = nvC (dN d) := by omega
      subst hn
      rw [Nat.sub_self]
      unfold wX10_bare_18
      rw [m2.2.2.1.1]
      exact ⟨S_223 hl2, fun _ => fin, fun z => absurd (nI_le (Nat.le_refl _) (by omega)) z⟩
    | succ n ih =>
      intro k hn
      have g1 := ih (k + 1) (by omega)
      have eb : bcN (nvMy (dN d) (asR (dS d))) (k + 1) = bcN (nvMy (dN d) (asR (dS d))) k + bt (nvMy (dN d) (asR (dS d))) k := rfl
      have ew : wuN (dN d) (asR (dS d)) (k + 1) = if bt (nvMy (dN d) (asR (dS d))) k = 1 then wuN (dN d) (asR (dS d)) k ||| (nvOn (dN d) k ||| nvCh (dN d) k) else wuN (dN d) (asR (dS d)) k := rfl
      rcases bt01 (nvMy (dN d) (asR (dS d))) k with b | b
      · rw [eb, b, ew, if_neg (by omega)] at g1
        exact g1
      · have hlt := bcN_lt (show k < nvC (dN d) by omega) b
        have h3 := cn.1.2.2.1 k (by omega)
        have o1 := lt_of_pow h3.2.1 (by omega)
        have o2 := lt_of_pow h3.2.2.2 (by omega)
        have oo : nvOn (dN d) k ||| nvCh (dN d) k < 1024 := Nat.or_lt_two_pow (n := 10) o1 o2
        have dl : dfN (2 ^ nvL (dN d) - 1) (wuN (dN d) (asR (dS d)) k) < 2 ^ 10 := dfN_lt (by omega)
        rw [eb, b, ew, if_pos b, ← dfN_df] at g1
        rw [show bcN (nvMy (dN d) (asR (dS d))) (nvC (dN d)) - bcN (nvMy (dN d) (asR (dS d))) k + 1 = (bcN (nvMy (dN d) (asR (dS d))) (nvC (dN d)) - (bcN (nvMy (dN d) (asR (dS d))) k + 1) + 1) + 1 from by omega]
        unfold wX10_bare_18
        rw [m2.2.2.1.1, nI_add, nI_clamp (by omega)]
        refine ⟨S_223 hl2, fun z => absurd z (nI_ge hlt (by omega)), fun _ => ⟨230, R_223_18 hl2, 64, S_230 hl2, vp_in_nI (by omega) (by omega), 231, R_223_19 hl2, 64, S_231 hl2, vp_in_nI (by omega) (by omega), fun x ex => ?_⟩⟩
        rw [(m2.2.2.1.2 k (by omega) b).1, (m2.2.2.1.2 k (by omega) b).2.1, nI_or (by omega) (by omega), nI_andn (by omega) (by omega)] at ex
        subst ex
        exact g1
  refine ⟨224, R_223_1 hl2, 7011, S_224 hl2, vp_in_nI (by omega) (by omega), fun x ex => ?_⟩
  rw [nI_clamp (by omega), m2.2.1.2.2.1, nI_shl _ (by omega), nI_subN (by omega)] at ex
  subst ex
  have k0 := lpp (nvC (dN d)) 0 (by omega)
  rw [show wuN (dN d) (asR (dS d)) 0 = 0 from rfl, dfN_0] at k0
  exact ⟨_, k0⟩
