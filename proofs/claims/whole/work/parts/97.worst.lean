/-! ===== worst, stands, twos ===== -/
/-- the worst so far: how many are lost, by which link -/
noncomputable def wsN (v : NV) (s : AS) : Nat → Int32 × Int32
  | 0 => (-1, -1)
  | l + 1 => if bt (asF s) l = 1 then wsN v s l else if (wsN v s l).1 < nI (lostA v (dFail v s l)) then (nI (lostA v (dFail v s l)), nI l) else wsN v s l
theorem sumC_le {f : Nat → Nat} {b : Nat} : ∀ n, (∀ k, k < n → f k ≤ b) → sumC f n ≤ b * n
  | 0, _ => Nat.zero_le _
  | n + 1, h => by
    have h1 := sumC_le n (fun k hk => h k (by omega))
    have h2 := h n (by omega)
    show sumC f n + f n ≤ b * (n + 1)
    rw [Nat.mul_succ]
    omega
theorem lost_le {v : NV} (hv : NvOK v) (s : AS) : lostA v s ≤ 20 := by
  have h4 := hv.1
  have h1 : ∀ l, l < nvL v → lostL v s l ≤ 2 := fun l hl => by
    have h5 := hv.2.1 l hl
    have h2 := sumC_le (f := lostU s l) (b := 1) (nvW v l) (fun k _ => by
      unfold lostU
      by_cases q : bt (asF s) l = 1 ∧ asW s (2 * l + k) = none
      · rw [if_pos q]; exact Nat.le_refl _
      · rw [if_neg q]; exact Nat.zero_le _)
    unfold lostL
    omega
  have h3 := sumC_le (nvL v) h1
  unfold lostA
  omega
theorem wsN_ge (v : NV) (s : AS) (hv : NvOK v) : ∀ n, -1 ≤ (wsN v s n).1.toInt
  | 0 => (by decide : -1 ≤ (-1 : Int32).toInt)
  | n + 1 => by
    have ih := wsN_ge v s hv n
    unfold wsN
    by_cases q : bt (asF s) n = 1
    · rw [if_pos q]; exact ih
    · rw [if_neg q]
      by_cases q2 : (wsN v s n).1 < nI (lostA v (dFail v s n))
      · rw [if_pos q2]
        have := lost_le hv (dFail v s n)
        rw [nI_toInt (by omega)]
        omega
      · rw [if_neg q2]; exact ih
theorem worst_n {Q : Int32 → MH → Prop} {h : MH} {v : NV} {s : AS} {a : Nat} (hl : LX h) (ca : hR h 128 1 = some a) (p : NetV h a v) (ok : AsOK v s) (ps : StV h 146 (encS s)) (hq : ∀ g, Fr ST3 h g → (∀ k, k < 360 → hI g 198 k = 0) → Q (wsN v s (nvL v)).2 g) : ∀ n l g, l + n = nvL v → Fr ST3 h g → (∀ k, k < 360 → hI g 198 k = 0) → wX9_worst_6 Q (n + 1) 128 (wsN v s l).1 (wsN v s l).2 (nI l) g := by
  have h4 := p.1.1
  intro n
  induction n with
  | zero =>
    intro l g hn f hz
    have hn : l = nvL v := by omega
    subst hn
    have hlg := LX_Fr f hl
    have pg : NetV g a v := NetV_keep (NetEq_Fr (fun x q => by unfold ST3 at q; omega) f) p
    unfold wX9_worst_6
    refine ⟨S_128 hlg, a, by rw [f.2.2.2.1]; exact ca, pg.2.1, ?_⟩
    rw [pg.2.2.2.2.2.1]
    exact ⟨fun _ => hq g f hz, fun z => absurd (nI_le (Nat.le_refl _) (by omega)) z⟩
  | succ n ih =>
    intro l g hn f hz
    have hlg := LX_Fr f hl
    have pg : NetV g a v := NetV_keep (NetEq_Fr (fun x q => by unfold ST3 at q; omega) f) p
    have psg : StV g 146 (encS s) := StV_row (f.2.2.2.2 _ (by unfold ST3; omega)) (f.2.2.2.2 _ (by unfold ST3; omega)) (f.2.2.2.2 _ (by unfold ST3; omega)) ps
    have cag : hR g 128 1 = some a := by rw [f.2.2.2.1]; exact ca
    have bl := bt_lt (asF s) l
    have ge := wsN_ge v s p.1 l
    have e1 : wsN v s (l + 1) = if bt (asF s) l = 1 then wsN v s l else if (wsN v s l).1 < nI (lostA v (dFail v s l)) then (nI (lostA v (dFail v s l)), nI l) else wsN v s l := rfl
    unfold wX9_worst_6
    refine ⟨S_128 hlg, a, cag, pg.2.1, ?_⟩
    rw [pg.2.2.2.2.2.1]
    refine ⟨fun z => absurd z (nI_ge (by omega) (by omega)), fun _ => ⟨146, R_128_2 hlg, S_146 hlg, n_failed hlg ok (by omega) (by decide) psg (by omega) ?_⟩⟩
    rw [nI_eq0 (by omega)]
    refine ⟨fun z => ⟨S_128 hlg, 146, R_128_2 hlg, 152, R_128_4 hlg, 4, S_152 hlg, vp_in_nI (by omega) (by omega), 153, R_152_0 hlg, n_lostBehind hlg cag pg ok (by decide) (by decide) (by omega) psg hz (by omega) z (fun g2 f2 ps2 hz2 => ?_)⟩, fun z => ?_⟩
    · have f3 := Fr_trans f (SD_ST3 (by omega) f2)
      have g1 := ih (l + 1) g2 (by omega) f3 hz2
      rw [e1, if_neg (by omega)] at g1
      unfold wX9_worst_47
      rw [nI_add]
      refine ⟨fun y => ?_, fun y => ?_⟩
      · rw [if_neg (fun y2 => by rw [Int32.le_iff_toInt_le] at y; rw [Int32.lt_iff_toInt_lt] at y2; omega)] at g1
        exact g1
      · rw [if_pos (by rw [Int32.le_iff_toInt_le] at y; rw [Int32.lt_iff_toInt_lt]; omega)] at g1
        exact g1
    · have g1 := ih (l + 1) g (by omega) f hz
      rw [e1, if_pos (by omega)] at g1
      unfold wX9_worst_47
      rw [nI_add]
      refine ⟨fun _ => g1, fun y => absurd ?_ y⟩
      rw [Int32.le_iff_toInt_le]
      exact ge
theorem worst_m {Q : Int32 → MH → Prop} {h : MH} {d : DV} (hl : LX h) (hv : NvOK (dN d)) (ok : AsOK (dN d) (dS d)) (hq : ∀ g, FrM h g → MP g d → Q (wsN (dN d) (dS d) (nvL (dN d))).2 g) : ∀ n l g, l + n = nvL (dN d) → FrM h g → MP g d → wX10_worst_11 Q (n + 1) 223 (wsN (dN d) (dS d) l).2 (wsN (dN d) (dS d) l).1 (nI l) g := by
  have h4 := hv.1
  intro n
  induction n with
  | zero =>
    intro l g hn f m
    have hn : l = nvL (dN d) := by omega
    subst hn
    have hlg := LX_Fr f.1 hl
    unfold wX10_worst_11
    rw [show (nI 2).toNatClampNeg = 2 from by decide]
    refine ⟨S_223 hlg, 224, R_223_1 hlg, 7011, S_224 hlg, vp_in_nI (by omega) (by omega), ?_⟩
    rw [m.2.1.2.2.1]
    exact ⟨fun _ => hq g f m, fun z => absurd (nI_le (Nat.le_refl _) (by omega)) z⟩
  | succ n ih =>
    intro l g hn f m
    have hlg := LX_Fr f.1 hl
    have bl := bt_lt (asF (dS d)) l
    have e1 : wsN (dN d) (dS d) (l + 1) = if bt (asF (dS d)) l = 1 then wsN (dN d) (dS d) l else if (wsN (dN d) (dS d) l).1 < nI (lostA (dN d) (dFail (dN d) (dS d) l)) then (nI (lostA (dN d) (dFail (dN d) (dS d) l)), nI l) else wsN (dN d) (dS d) l := rfl
    unfold wX10_worst_11
    rw [show (nI 2).toNatClampNeg = 2 from by decide]
    refine ⟨S_223 hlg, 224, R_223_1 hlg, 7011, S_224 hlg, vp_in_nI (by omega) (by omega), ?_⟩
    rw [m.2.1.2.2.1, nI_add]
    refine ⟨fun z => absurd z (nI_ge (by omega) (by omega)), fun _ => m_failed hlg ok (by omega) m.2.2.2.1 (by omega) ?_⟩
    rw [nI_eq0 (by omega)]
    refine ⟨fun z => ⟨S_223 hlg, m_lostWith hlg hv ok m (by omega) (fun g2 f2 m2 => ?_)⟩, fun z => ?_⟩
    · have g1 := ih (l + 1) g2 (by omega) (FrM_trans f f2) m2
      rw [e1, if_neg (by omega)] at g1
      refine ⟨fun y => ?_, fun y => ?_⟩
      · rw [if_pos y] at g1
        exact g1
      · rw [if_neg y] at g1
        exact g1
    · have g1 := ih (l + 1) g (by omega) f m
      rw [e1, if_pos (by omega)] at g1
      exact g1
theorem ST_worst_c {CV : MH → Prop} (ck : ∀ h h1, CvEq h h1 → CV h → CV h1) : ST_worst (RLY (RRc CV)) := by
  intro h hr P kP
  obtain ⟨hl, t1, t2, d, ok, c, m⟩ := hr
  obtain ⟨⟨a, ca, cn⟩, cs, _, _, cb, _⟩ := id c
  refine ⟨_, worst_n hl ca cn ok.1 cs (fun g f hz => kP _ _ (S_223 (LX_Fr f hl)) (fun P2 k2 => ⟨S_223 (LX_Fr f hl), fun _ e => ?_⟩)) (nvL (dN d)) 0 h (by omega) (Fr_rfl _ _) cb⟩
  subst e
  have mg := MP_thrown (x := nI 0) (MP_SC (SC_ST3 f) m)
  exact ⟨_, worst_m (LX_sI (LX_Fr f hl)) cn.1 ok.1 (fun g2 f2 m2 => k2 _ (st_close ck hl ⟨t1, t2⟩ (SC_ST3 f) (CP_trial ck f hz c) (FrM_trans (FrM_thrown g (nI 0)) f2) m2 ok)) (nvL (dN d)) 0 _ (by omega) (FrM_rfl _) mg⟩
/-! stands -/
noncomputable def sdN (v : NV) (s : AS) : Nat → AS
  | 0 => frS s
  | n + 1 => dFail v (sdN v s n) n
theorem sd_ok {v : NV} {s : AS} (hv : NvOK v) (ok : AsOK v s) : ∀ n, n ≤ nvL v → AsOK v (sdN v s n)
  | 0, _ => AsOK_frS ok
  | n + 1, h => AsOK_tryS hv (AsOK_clF hv (sd_ok hv ok n (by omega)) (by omega))
theorem sd_F (v : NV) (s : AS) : ∀ n k, n ≤ k → bt (asF (sdN v s n)) k = 0
  | 0, k, _ => frF0 s k
  | n + 1, k, h => by
    show bt (asF (dFail v (sdN v s n) n)) k = 0
    rw [dFail_F, bt_or, if_neg (by omega)]
    exact sd_F v s n k (by omega)
/-- none is lost till the first n fail -/
def sdZ (v : NV) (s : AS) (n : Nat) : Prop := ∀ k, k ≤ n → lostA v (sdN v s k) = 0
theorem lost_fr (v : NV) (s : AS) : lostA v (frS s) = 0 := sumC_zero _ (fun l _ => lostL_zero (v := v) (frF0 s l) _)
theorem stands_n {Q : Int32 → MH → Prop} {h : MH} {v : NV} {s : AS} {a : Nat} (hl : LX h) (ca : hR h 128 1 = some a) (p : NetV h a v) (ok : AsOK v s) (k1 : ∀ l, l < nvL v → sdZ v s l → lostA v (sdN v s (l + 1)) ≠ 0 → ∀ g, Fr ST3 h g → (∀ k, k < 360 → hI g 198 k = 0) → Q (nI (l + 1)) g) (k2 : sdZ v s (nvL v) → ∀ g, Fr ST3 h g → (∀ k, k < 360 → hI g 198 k = 0) → Q (-1) g) : ∀ n l g, l + n = nvL v → sdZ v s l → Fr ST3 h g → StV g 153 (encS (sdN v s l)) → (∀ k, k < 360 → hI g 198 k = 0) → wX9_stands_17 Q (n + 1) 128 153 (nI l) g := by
  have h4 := p.1.1
  intro n
  induction n with
  | zero =>
    intro l g hn sz f ps hz
    have hn : l = nvL v := by omega
    subst hn
    have hlg := LX_Fr f hl
    have pg : NetV g a v := NetV_keep (NetEq_Fr (fun x q => by unfold ST3 at q; omega) f) p
    unfold wX9_stands_17
    refine ⟨S_128 hlg, a, by rw [f.2.2.2.1]; exact ca, pg.2.1, ?_⟩
    rw [pg.2.2.2.2.2.1]
    exact ⟨fun _ => k2 sz g f hz, fun z => absurd (nI_le (Nat.le_refl _) (by omega)) z⟩
  | succ n ih =>
    intro l g hn sz f ps hz
    have hlg := LX_Fr f hl
    have pg : NetV g a v := NetV_keep (NetEq_Fr (fun x q => by unfold ST3 at q; omega) f) p
    have cag : hR g 128 1 = some a := by rw [f.2.2.2.1]; exact ca
    have ok1 := sd_ok p.1 ok l (by omega)
    have F0 := sd_F v s l l (Nat.le_refl _)
    unfold wX9_stands_17
    refine ⟨S_128 hlg, a, cag, pg.2.1, ?_⟩
    rw [pg.2.2.2.2.2.1]
    refine ⟨fun z => absurd z (nI_ge (by omega) (by omega)), fun _ => ⟨197, R_128_6 hlg, S_197 hlg, n_failLink hlg pg ok1 (by decide) ps hz (fun q => absurd ⟨l, by omega, rfl⟩ q) (fun l2 h2 e2 => ?_) (fun l2 h2 e2 g2 f2 ps2 hz2 => ?_)⟩⟩
    · have := h2.1
      rw [← (nI_eq (by omega) (by omega)).mp h2.2] at e2
      omega
    · have h21 := h2.1
      rw [← (nI_eq (by omega) (by omega)).mp h2.2] at ps2
      have f3 := Fr_trans f (SD_ST3 (by omega) f2)
      have hl3 := LX_Fr f3 hl
      have ok2 := sd_ok p.1 ok (l + 1) (by omega)
      have le := lost_le p.1 (sdN v s (l + 1))
      refine ⟨S_128 hl3, 197, R_128_6 hl3, a, by rw [f3.2.2.2.1]; exact ca, S_197 hl3, n_lostUnits (s := sdN v s (l + 1)) hl3 (NetV_SD (by decide) f2 pg) ok2 (by decide) ps2 ?_⟩
      rw [nI_add]
      by_cases q : lostA v (sdN v s (l + 1)) = 0
      · refine ⟨fun _ => ih (l + 1) g2 (by omega) (fun k hk => ?_) f3 ps2 hz2, fun y => absurd ?_ y⟩
        · by_cases e : k = l + 1
          · rw [e]; exact q
          · exact sz k (by omega)
        · rw [q, nI_0]
          decide
      · refine ⟨fun y => ?_, fun _ => k1 l (by omega) sz q g2 f3 hz2⟩
        exfalso
        rw [Int32.le_iff_toInt_le, i0_toInt, nI_toInt (by omega)] at y
        omega
theorem ST_stands_c {CV : MH → Prop} (ck : ∀ h h1, CvEq h h1 → CV h → CV h1) : ST_stands (RLY (RRc CV)) := by
  intro h hr P kP
  obtain ⟨hl, t1, t2, d, ok, c, m⟩ := hr
  obtain ⟨⟨a, ca, cn⟩, cs, _, _, cb, _⟩ := id c
  have h4 := cn.1.1
  -- the reference, for any class heap
  have mdl : ∀ g, Fr ST3 h g → (∀ k, k < 360 → hI g 198 k = 0) → ∀ r : Int32, (∀ l, l ≤ nvL (dN d) → sdZ (dN d) (dS d) l → (l = nvL (dN d) → r = -1) ∧ (l < nvL (dN d) → lostA (dN d) (sdN (dN d) (dS d) (l + 1)) ≠ 0 → r = nI (l + 1))) → P r g := by
    intro g f hz r hrr
    have hlg := LX_Fr f hl
    refine kP r g (S_223 hlg) (fun P2 k2 => ⟨S_223 hlg, fun g0 e => ?_⟩)
    have mg : MP g0 d := by rw [e]; exact MP_thrown (MP_SC (SC_ST3 f) m)
    have f0 : FrM g g0 := by rw [e]; exact FrM_thrown g (nI 0)
    have hl0 := LX_Fr f0.1 hlg
    refine m_stores hl0 (fun g1 f1 w1 => ?_)
    have hl1 := LX_Fr f1 hl0
    have m1 := MP_235 f1 mg
    have pw := was_StM (by omega) w1 mg.2.2.2.1
    have tt : MDe (dN d) g1 (dS d) g1 := MDe_rfl m1.2.2.2.1 m1.2.2.1
    refine ⟨S_223 hl1, m_fresh2 hl1 cn.1 tt (fun g2 t2' => ⟨nvL (dN d) + 1, ?_⟩)⟩
    have fin : ∀ g3, FrM g1 g3 → MP g3 d → P2 r g3 := fun g3 f3 m3 => k2 _ (st_close ck hl ⟨t1, t2⟩ (SC_ST3 f) (CP_trial ck f hz c) (FrM_trans f0 (FrM_trans (FrM_235 f1) f3)) m3 ok)
    have lp : ∀ n l g3, l + n = nvL (dN d) → (∀ k, k < l → lostA (dN d) (sdN (dN d) (dS d) k) = 0) → MDe (dN d) g1 (sdN (dN d) (dS d) l) g3 → wX10_stands_15 P2 (n + 1) 223 (nI l) g3 := by
      intro n
      induction n with
      | zero =>
        intro l g3 hn sz t3
        have hn : l = nvL (dN d) := by omega
        have hl3 := LX_Fr t3.1 hl1
        have ok3 := sd_ok cn.1 ok.1 l (by omega)
        have le := lost_le cn.1 (sdN (dN d) (dS d) l)
        unfold wX10_stands_15
        rw [show (nI 2).toNatClampNeg = 2 from by decide]
        refine ⟨S_223 hl3, 224, R_223_1 hl3, 7011, S_224 hl3, vp_in_nI (by omega) (by omega), ?_⟩
        rw [(MDe_net (by omega) t3 m1.2.1).2.2.1]
        refine ⟨fun _ => ⟨S_223 hl3, m_lost2 hl1 cn.1 m1.2.1 ok3 t3 ⟨S_223 hl3, m_back hl1 cn.1 ok.1 ok3 m1 pw t3 (fun g4 f4 m4 => ?_)⟩⟩, fun z => absurd (nI_le (by omega) (by omega)) z⟩
        by_cases q : lostA (dN d) (sdN (dN d) (dS d) l) = 0
        · rw [q, if_pos (show nI 0 ≤ 0 by decide), if_pos nI_0]
          have er := (hrr l (by omega) (fun k hk => by
            by_cases e2 : k = l
            · rw [e2]; exact q
            · exact sz k (by omega))).1 hn
          rw [← er]
          exact fin g4 f4 m4
        · have ng : ¬ (nI (lostA (dN d) (sdN (dN d) (dS d) l)) ≤ 0) := fun y => by
            rw [Int32.le_iff_toInt_le, i0_toInt, nI_toInt (by omega)] at y
            omega
          rw [if_neg ng, if_neg (show ¬ (nI 1 = 0) by decide)]
          have hl0' : l ≠ 0 := fun z => by
            subst z
            exact q (lost_fr (dN d) (dS d))
          have er := (hrr (l - 1) (by omega) (fun k hk => sz k (by omega))).2 (by omega) (by rw [show l - 1 + 1 = l from by omega]; exact q)
          rw [show l - 1 + 1 = l from by omega] at er
          rw [← er]
          exact fin g4 f4 m4
      | succ n ih =>
        intro l g3 hn sz t3
        have hl3 := LX_Fr t3.1 hl1
        have ok3 := sd_ok cn.1 ok.1 l (by omega)
        have le := lost_le cn.1 (sdN (dN d) (dS d) l)
        unfold wX10_stands_15
        rw [show (nI 2).toNatClampNeg = 2 from by decide]
        refine ⟨S_223 hl3, 224, R_223_1 hl3, 7011, S_224 hl3, vp_in_nI (by omega) (by omega), ?_⟩
        rw [(MDe_net (by omega) t3 m1.2.1).2.2.1, nI_add]
        refine ⟨fun z => absurd z (nI_ge (by omega) (by omega)), fun _ => m_lost2 hl1 cn.1 m1.2.1 ok3 t3 ?_⟩
        rw [nI_eq0 (by omega)]
        refine ⟨fun q => ⟨S_223 hl3, m_lost2 hl1 cn.1 m1.2.1 ok3 t3 ⟨S_223 hl3, m_back hl1 cn.1 ok.1 ok3 m1 pw t3 (fun g4 f4 m4 => ?_)⟩⟩, fun q => ⟨S_223 hl3, m_fail2 hl1 cn.1 m1.2.1 ok3 t3 (by omega) (fun g4 t4 => ih (l + 1) g4 (by omega) (fun k hk => ?_) t4)⟩⟩
        · have ng : ¬ (nI (lostA (dN d) (sdN (dN d) (dS d) l)) ≤ 0) := fun y => by
            rw [Int32.le_iff_toInt_le, i0_toInt, nI_toInt (by omega)] at y
            omega
          rw [if_neg ng, if_neg (show ¬ (nI 1 = 0) by decide)]
          have hl0' : l ≠ 0 := fun z => by
            subst z
            exact q (lost_fr (dN d) (dS d))
          have er := (hrr (l - 1) (by omega) (fun k hk => sz k (by omega))).2 (by omega) (by rw [show l - 1 + 1 = l from by omega]; exact q)
          rw [show l - 1 + 1 = l from by omega] at er
          rw [← er]
          exact fin g4 f4 m4
        · by_cases e2 : k = l
          · rw [e2]; exact q
          · exact sz k (by omega)
    exact lp (nvL (dN d)) 0 g2 (by omega) (fun k hk => absurd hk (by omega)) t2'
  refine ⟨S_128 hl, 152, R_128_4 hl, 4, S_152 hl, vp_in_nI (by omega) (by omega), 153, R_152_0 hl, 146, R_128_2 hl, S_153 hl, n_freshFrom hl (by decide) (by decide) (by omega) cs cb (fun g fg psg hzg => ⟨_, stands_n hl ca cn ok.1 (fun l hl5 sz hne g2 f2 hz2 => mdl g2 f2 hz2 _ (fun l2 h2 sz2 => ⟨fun e => ?_, fun hlt hne2 => ?_⟩)) (fun sz g2 f2 hz2 => mdl g2 f2 hz2 _ (fun l2 h2 sz2 => ⟨fun _ => rfl, fun hlt hne2 => ?_⟩)) (nvL (dN d)) 0 g (by omega) (fun k hk => ?_) (SD_ST3 (by omega) fg) psg hzg⟩)⟩
  · exact absurd (sz2 (l + 1) (by omega)) hne
  · have e : l = l2 := by
      rcases Nat.lt_trichotomy l l2 with q | q | q
      · exact absurd (sz2 (l + 1) (by omega)) hne
      · exact q
      · exact absurd (sz (l2 + 1) (by omega)) hne2
    rw [e]
  · exact absurd (sz (l2 + 1) (by omega)) hne2
  · have k0 : k = 0 := by omega
    rw [k0]
    exact lost_fr _ _
