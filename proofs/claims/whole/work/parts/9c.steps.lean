/-! ===== perform, year ===== -/
theorem nI_le0 {k : Nat} (hk : k < 2 ^ 31) : (nI k ≤ 0) ↔ k = 0 := by
  rw [Int32.le_iff_toInt_le, i0_toInt, nI_toInt hk]
  omega
theorem n_kept {CV : MH → Prop} (ck : ∀ h h1, CvEq h h1 → CV h → CV h1) {Q : Int32 → MH → Prop} {g : MH} {d : DV} {s0 : AS} {k : Nat} (hk : k ≤ 40) (hlg : LX g) (pb : StV g 149 (encS s0)) (cg : CP CV g d) (k0 : k = 0 → Q (nI k) g) (k1 : k ≠ 0 → ∀ g2, Fr SC g g2 → CP CV g2 (dN d, dS d, (s0 :: dH d).take 10, dI d) → Q (nI k) g2) : wX9_keptIfSome 128 (nI k) g Q := by
  unfold wX9_keptIfSome
  rw [nI_le0 (by omega)]
  exact ⟨k0, fun z => ⟨S_128 hlg, 165, R_128_5 hlg, 149, R_128_3 hlg, S_165 hlg, n_keep ck (s0 := s0) hlg pb cg (k1 z)⟩⟩
theorem ST_perform_c {CV : MH → Prop} (ck : ∀ h h1, CvEq h h1 → CV h → CV h1) : ST_perform (RLY (RRc CV)) := by
  intro y1 h hr P kP
  obtain ⟨hl, t1, t2, d, ok, c, m⟩ := hr
  have cl := rd_close (x := nI 0) ck hl t1 t2 ok c m
  obtain ⟨⟨a, ca, cn⟩, cs, _, _, cb, _⟩ := id c
  have h4 := cn.1.1
  have hl2 : LX (sI h 223 0 (nI 0)) := LX_sI hl
  unfold wX9_perform
  refine u_isTray (fun t ht e => ⟨fun _ => ?_, fun z => absurd z (by decide)⟩) (fun q => ⟨fun z => absurd nI_0 z, fun _ => kP _ _ (S_223 hl) (fun P2 k2 => ⟨S_223 hl, fun _ e => ?_⟩)⟩)
  · subst e
    have tg := tr_S (t := t) hl (by omega)
    refine ⟨S_128 hl, 206, R_128_9 hl, 4, S_206 hl, vp_in_nI (by omega) (by omega), 207 + 2 * t, ?_, tg.1, ?_⟩
    · rw [nI_clamp (by omega)]; exact tg.2.2.1
    have ty := t2 t (by omega)
    refine n_missing hl (by omega) (fun e => ⟨fun y => absurd y (by decide), fun _ => kP _ _ (S_223 hl) (fun P2 k2 => ⟨S_223 hl, fun _ e2 => ?_⟩)⟩) (fun mm hmm emm => ⟨fun _ => ?_, fun y => absurd nI_0 y⟩) (TY_cls t2 (by omega))
    · subst e2
      have e241 : hI h 241 t = -1 := by
        rcases ty with q | ⟨s, m', q⟩
        · exact q.2
        · rw [q.2.2.2.1] at e; exact absurd e (nI_m1 (by omega))
      refine m_noTray hl2 (fun q => absurd (by rw [nI_toInt (by omega)]; omega) q) (fun t' ht' e' _ => ⟨fun y => absurd y (by decide), fun _ => k2 _ cl⟩) (fun t' ht' e' q => absurd ?_ q)
      rw [← (nI_eq (by omega) (by omega)).mp e', hI_sI, if_neg (by omega)]
      exact e241
    · obtain ⟨s0, m0, q1, q2, q3, q4, q5, q6, q7⟩ : ∃ s m : Nat, s < 4 ∧ m ≤ 40 ∧ hI h (207 + 2 * t) 0 = nI s ∧ hI h (207 + 2 * t) 1 = nI m ∧ hI h 241 t = nI s ∧ hI h 242 t = nI m ∧ ∀ k, k < m → hL h (208 + 2 * t) k = hL h 243 (40 * t + k) := by
        rcases ty with q | q
        · rw [q.1] at emm; exact absurd emm.symm (nI_m1 (by omega))
        · exact q
      obtain ⟨c8, pb, f8⟩ := CP_before ck c
      have hl8 := LX_Fr f8 hl
      obtain ⟨⟨a8, ca8, cn8⟩, cs8, _, _, cb8, _⟩ := id c8
      have tg8 := tr_S (t := t) hl8 (by omega)
      refine ⟨S_128 hl, 149, R_128_3 hl, 146, R_128_2 hl, S_149 hl, u_copyFrom hl (by decide) (by decide) (by omega) ⟨S_128 hl8, 197, R_128_6 hl8, a8, ca8, 146, R_128_2 hl8, 206, R_128_9 hl8, 4, S_206 hl8, vp_in_nI (by omega) (by omega), 207 + 2 * t, by rw [nI_clamp (by omega)]; exact tg8.2.2.1, S_197 hl8, ?_⟩⟩
      refine n_doAll (t := t) (m := m0) (nums := fun k => hL h 243 (40 * t + k)) hl8 cn8 ok.1 (by decide) cs8 cb8 (by omega) (by omega) q2 (by rw [Fr_I f8 (by unfold SC; omega)]; exact q4) (fun k hk => by rw [f8.2.2.1]; exact q7 k hk) (fun k g he fg psg hzg => ?_)
      have hlg := LX_Fr fg hl8
      have okk := dl_ok (nums := fun k => hL h 243 (40 * t + k)) cn.1 ok.1 k
      have hk := he.1
      have cg := CP_state ck fg psg hzg c8
      have fgS : Fr SC h g := Fr_trans f8 (Fr_mono (fun b q => by unfold SD at q; unfold SC; omega) fg)
      have mdl : ∀ g2, Fr SC h g2 → CP CV g2 (dN d, dlS (dN d) (fun k => hL h 243 (40 * t + k)) (dS d) k, (if k = 0 then dH d else (dS d :: dH d).take 10), dI d) → P (nI k) g2 := by
        intro g2 fg2 cg2
        have hlA := LX_Fr fg2 hl
        refine kP _ g2 (S_223 hlA) (fun P2 k2 => ⟨S_223 hlA, fun g3 e3 => ?_⟩)
        have f3' : FrM g2 g3 := by rw [e3]; exact FrM_thrown _ _
        have m3 : MP g3 d := by rw [e3]; exact MP_thrown (MP_SC fg2 m)
        have hl3 := LX_Fr f3'.1 hlA
        have row : ∀ b, 199 ≤ b → b ≠ 223 → hI g3 b = hI h b := fun b b1 b2 => by rw [e3, hI_sI_row b2, fg2.2.2.2.2 b (by unfold SC; omega)]
        have rowL : hL g3 = hL h := by rw [f3'.1.2.2.1, fg2.2.2.1]
        refine m_noTray hl3 (fun q => absurd (by rw [nI_toInt (by omega)]; omega) q) (fun t' ht' e' q => ?_) (fun t' ht' e' q => ⟨fun _ => ⟨S_223 hl3, m_stores hl3 (fun g4 f4 w4 => ?_)⟩, fun y => absurd nI_0 y⟩)
        · exfalso
          rw [← (nI_eq (by omega) (by omega)).mp e', row 241 (by omega) (by omega), q5] at q
          exact nI_m1 (by omega) q
        · have hl4 := LX_Fr f4 hl3
          have m4 := MP_235 f4 m3
          have pw := was_StM (by omega) w4 m3.2.2.2.1
          refine ⟨S_223 hl4, m_tells (t := t) (m := m0) (nums := fun k => hL h 243 (40 * t + k)) hl4 cn.1 ok.1 m4 (by omega) q2 (by rw [Fr_I f4 (by omega), row 242 (by omega) (by omega)]; exact q6) (fun j hj => by rw [f4.2.2.1, rowL]) (fun k' g5 he' f5 w5 m5 z5 y5 => ?_)⟩
          have ek : k = k' := dl_uniq he he'
          subst ek
          have hl5 := LX_Fr f5.1 hl4
          have fz := FrM_trans f3' (FrM_trans (FrM_235 f4) f5)
          rw [nI_le0 (by omega)]
          refine ⟨fun z => ?_, fun z => ⟨S_223 hl5, m_noted (d := (dN d, dlS (dN d) (fun k => hL h 243 (40 * t + k)) (dS d) k, dH d, dI d)) (s0 := dS d) hl5 (by show nvC (dN d) ≤ 40; omega) ok.2.2.1 (by rw [w5]; exact pw) m5 (fun g6 f6 m6 => ?_)⟩⟩
          · rw [if_pos z] at cg2
            exact k2 _ (st_close ck hl ⟨t1, t2⟩ fg2 cg2 fz m5 ⟨okk, ok.2.1, ok.2.2.1, ok.2.2.2⟩)
          · rw [if_neg z] at cg2
            exact k2 _ (st_close ck hl ⟨t1, t2⟩ fg2 cg2 (FrM_trans fz (FrM_Fr (fun b q => ⟨by unfold SM; omega, by omega⟩) f6)) m6 (DOK_done ok okk))
      refine ⟨S_128 hlg, n_kept ck (s0 := dS d) (by omega) hlg (StV_row (fg.2.2.2.2 _ (by unfold SD; omega)) (fg.2.2.2.2 _ (by unfold SD; omega)) (fg.2.2.2.2 _ (by unfold SD; omega)) pb) cg (fun z => mdl g fgS ?_) (fun z g2 f2 cg2 => mdl g2 (Fr_trans fgS f2) ?_)⟩
      · rw [if_pos z]; exact cg
      · rw [if_neg z]; exact cg2
  · subst e
    refine m_noTray hl2 (fun _ => ⟨fun z => absurd z (by decide), fun _ => k2 _ cl⟩) (fun t ht e _ => ?_) (fun t ht e _ => ?_)
    · rw [e, nI_toInt (by omega)] at q; omega
    · rw [e, nI_toInt (by omega)] at q; omega
/-! year: drawn deeds -/
def ndX (x : Int32) : Int32 := (1103515245 : Int32) * x + nI 12345
def u16 (r : Int32) : Int32 := (r.toUInt32 >>> ((nI 16).toUInt32 &&& Int32.toUInt32 31)).toInt32
def mdX (a b : Int32) : Int32 := a - a / b * b
def yrD (x : Int32) : Int32 := if nI 3 ≤ mdX (u16 (ndX x)) (nI 5) then (if mdX (u16 (ndX x)) (nI 5) = nI 3 then nI 100 else nI 110) + mdX (u16 (ndX (ndX x))) (nI 10) else (if nI 2 ≤ mdX (u16 (ndX x)) (nI 5) then nI 300 else nI 200) + mdX (u16 (ndX (ndX x))) (nI 12)
/-- behind k draws: the state, the drawn number, how many were done -/
noncomputable def yrS (v : NV) (x : Int32) (s : AS) : Nat → AS × Int32 × Nat
  | 0 => (s, x, 0)
  | k + 1 => ((deedF v (yrS v x s k).1 (yrD (yrS v x s k).2.1).toInt64.toInt).2, ndX (ndX (yrS v x s k).2.1), if (deedF v (yrS v x s k).1 (yrD (yrS v x s k).2.1).toInt64.toInt).1 = 0 then (yrS v x s k).2.2 + 1 else (yrS v x s k).2.2)
theorem yr_ok {v : NV} {x : Int32} {s : AS} (hv : NvOK v) (ok : AsOK v s) : ∀ k, AsOK v (yrS v x s k).1
  | 0 => ok
  | k + 1 => deedF_ok hv (yr_ok hv ok k) _
theorem yr_le (v : NV) (x : Int32) (s : AS) : ∀ k, (yrS v x s k).2.2 ≤ k
  | 0 => Nat.le_refl _
  | k + 1 => by
    have ih := yr_le v x s k
    show (if (deedF v (yrS v x s k).1 (yrD (yrS v x s k).2.1).toInt64.toInt).1 = 0 then (yrS v x s k).2.2 + 1 else (yrS v x s k).2.2) ≤ k + 1
    by_cases q : (deedF v (yrS v x s k).1 (yrD (yrS v x s k).2.1).toInt64.toInt).1 = 0
    · rw [if_pos q]; omega
    · rw [if_neg q]; omega
theorem n_doYear {Q : Int32 → MH → Prop} {h : MH} {v : NV} {s : AS} {a b m : Nat} {x : Int32} (hl : LX h) (p : NetV h a v) (ok : AsOK v s) (hb : b ∈ stL) (ps : StV h b (encS s)) (hz : ∀ k, k < 360 → hI h 198 k = 0) (hm : m ≤ 40) (hq : ∀ g, Fr (SD b) h g → StV g b (encS (yrS v x s m).1) → (∀ k, k < 360 → hI g 198 k = 0) → Q (nI (yrS v x s m).2.2) g) : wX7_doYear 197 a b x (nI m) h Q := by
  have lp : ∀ n k g, k + n = m → Fr (SD b) h g → StV g b (encS (yrS v x s k).1) → (∀ k, k < 360 → hI g 198 k = 0) → wX7_doYear_9 Q (n + 1) 197 a b (nI m) (yrS v x s k).2.1 (nI (yrS v x s k).2.2) (nI k) g := by
    intro n
    induction n with
    | zero =>
      intro k g hk f psg hzg
      have hk : k = m := by omega
      subst hk
      unfold wX7_doYear_9
      exact ⟨fun _ => hq g f psg hzg, fun z => absurd (nI_le (Nat.le_refl _) (by omega)) z⟩
    | succ n ih =>
      intro k g hk f psg hzg
      have hlg := LX_Fr f hl
      have dle := deedF_le (v := v) (s := (yrS v x s k).1) (z := (yrD (yrS v x s k).2.1).toInt64.toInt)
      have fin : wX7_doYear_107 Q (wX7_doYear_9 Q (n + 1)) 197 a b (nI m) (ndX (ndX (yrS v x s k).2.1)) (nI (yrS v x s k).2.2) (nI k) (yrD (yrS v x s k).2.1) g := by
        refine ⟨S_197 hlg, n_doDeed hlg (NetV_SD hb f p) (yr_ok p.1 ok k) hb psg hzg (fun g2 f2 ps2 hz2 => ?_)⟩
        have g1 := ih (k + 1) g2 (by omega) (Fr_trans f f2) ps2 hz2
        have e2 : (yrS v x s (k + 1)).2.2 = if (deedF v (yrS v x s k).1 (yrD (yrS v x s k).2.1).toInt64.toInt).1 = 0 then (yrS v x s k).2.2 + 1 else (yrS v x s k).2.2 := rfl
        rw [nI_add]
        by_cases q : (deedF v (yrS v x s k).1 (yrD (yrS v x s k).2.1).toInt64.toInt).1 = 0
        · rw [e2, if_pos q] at g1
          rw [if_pos (by rw [q]; exact nI_0), nI_add]
          exact g1
        · rw [e2, if_neg q] at g1
          rw [if_neg (fun y => q ((nI_eq0 (by omega)).mp y)), nI_add]
          exact g1
      unfold wX7_doYear_9
      refine ⟨fun z => absurd z (nI_ge (by omega) (by omega)), fun _ => ⟨by decide, fun v4 e4 v7 e7 => ?_⟩⟩
      have e4' : v4 = mdX (u16 (ndX (yrS v x s k).2.1)) (nI 5) := e4
      have e7' : v7 = u16 (ndX (ndX (yrS v x s k).2.1)) := e7
      unfold yrD at fin
      rw [← e4', ← e7'] at fin
      refine ⟨fun c1 => ⟨fun c2 => ⟨fun c3 => ⟨by decide, ?_⟩, fun c3 => ⟨by decide, ?_⟩⟩, fun c2 => ⟨by decide, ?_⟩⟩, fun c1 => ⟨by decide, ?_⟩⟩
      · have c4 : nI 3 ≤ v4 := by
          rw [Int32.le_iff_toInt_le, nI_toInt (by omega)] at c1 ⊢
          have : v4.toInt ≠ 2 := fun q => c2 (Int32.toInt_inj.mp (by rw [nI_toInt (by omega)]; exact q))
          omega
        rw [if_pos c4, if_neg c3] at fin
        exact fin
      · rw [if_pos (by rw [c3]; exact nI_le (by omega) (by omega)), if_pos c3] at fin
        exact fin
      · rw [if_neg (by rw [c2]; decide), if_pos c1] at fin
        exact fin
      · have c4 : ¬ (nI 3 ≤ v4) := fun q => by
          rw [Int32.le_iff_toInt_le, nI_toInt (by omega)] at c1 q
          omega
        rw [if_neg c4, if_neg c1] at fin
        exact fin
  exact ⟨m + 1, lp m 0 h (by omega) (Fr_rfl _ _) ps hz⟩
theorem m_drawn {Q : Int32 → MH → Prop} {h : MH} (hl : LX h) (hq : Q (yrD (hI h 223 26)) (sI (sI h 223 26 (ndX (hI h 223 26))) 223 26 (ndX (ndX (hI h 223 26))))) : wX10_drawn 223 h Q := by
  have e1 : hI (sI h 223 26 (ndX (hI h 223 26))) 223 26 = ndX (hI h 223 26) := by rw [hI_sI, if_pos ⟨rfl, rfl⟩]
  have hl1 : LX (sI h 223 26 (ndX (hI h 223 26))) := LX_sI hl
  have e2 : hI (sI (sI h 223 26 (ndX (hI h 223 26))) 223 26 (ndX (ndX (hI h 223 26)))) 223 26 = ndX (ndX (hI h 223 26)) := by rw [hI_sI, if_pos ⟨rfl, rfl⟩]
  unfold wX10_drawn wX10_draw
  refine ⟨S_223 hl, S_223 hl, fun g eg => ?_⟩
  have eg' : g = sI h 223 26 (ndX (hI h 223 26)) := eg
  subst eg'
  refine ⟨by decide, ?_⟩
  rw [e1]
  unfold yrD at hq
  refine ⟨fun c => ⟨S_223 hl1, S_223 hl1, fun g eg => ?_⟩, fun c => ⟨S_223 hl1, S_223 hl1, fun g eg => ?_⟩⟩
  · rw [e1] at eg
    have eg' : g = sI (sI h 223 26 (ndX (hI h 223 26))) 223 26 (ndX (ndX (hI h 223 26))) := eg
    subst eg'
    refine ⟨by decide, ?_⟩
    rw [e2]
    have c' : nI 3 ≤ mdX (u16 (ndX (hI h 223 26))) (nI 5) := c
    rw [if_pos c'] at hq
    exact hq
  · rw [e1] at eg
    have eg' : g = sI (sI h 223 26 (ndX (hI h 223 26))) 223 26 (ndX (ndX (hI h 223 26))) := eg
    subst eg'
    refine ⟨by decide, ?_⟩
    rw [e2]
    have c' : ¬ (nI 3 ≤ mdX (u16 (ndX (hI h 223 26))) (nI 5)) := c
    rw [if_neg c'] at hq
    exact hq
theorem ST_year_c {CV : MH → Prop} (ck : ∀ h h1, CvEq h h1 → CV h → CV h1) : ST_year (RLY (RRc CV)) := by
  intro y1 y2 h hr P kP
  obtain ⟨hl, t1, t2, d, ok, c, m⟩ := hr
  have cl := rd_close (x := nI 0) ck hl t1 t2 ok c m
  have hl2 : LX (sI h 223 0 (nI 0)) := LX_sI hl
  have l1 : (1 : Int64).toInt = 1 := by decide
  have l40 : (40 : Int64).toInt = 40 := by decide
  have bad : ¬ (1 ≤ y2.toInt ∧ y2.toInt ≤ 40) → P (-3) h := fun q => by
    refine kP _ _ (S_223 hl) (fun P2 k2 => ⟨S_223 hl, fun _ e => ?_⟩)
    subst e
    exact u_within (fun p1 p2 => absurd ⟨by omega, by omega⟩ q) (fun _ => ⟨fun z => absurd nI_0 z, fun _ => k2 _ cl⟩)
  unfold wX9_year
  refine ⟨fun z => bad ?_, fun z => ⟨fun z2 => ?_, fun z2 => bad ?_⟩⟩
  · rw [Int32.lt_iff_toInt_lt, nI_toInt (by omega)] at z; omega
  · rw [Int32.lt_iff_toInt_lt, nI_toInt (by omega)] at z
    rw [Int32.le_iff_toInt_le, nI_toInt (by omega)] at z2
    obtain ⟨m0, hm1, hm2, em⟩ : ∃ n, 1 ≤ n ∧ n ≤ 40 ∧ y2 = nI n := ⟨y2.toInt.toNat, by omega, by omega, by
      apply Int32.toInt_inj.mp
      rw [nI_toInt (by omega)]
      omega⟩
    subst em
    obtain ⟨c8, pb, f8⟩ := CP_before ck c
    have hl8 := LX_Fr f8 hl
    obtain ⟨⟨a8, ca8, cn8⟩, cs8, _, _, cb8, _⟩ := id c8
    have h4 := cn8.1.1
    refine ⟨S_128 hl, 149, R_128_3 hl, 146, R_128_2 hl, S_149 hl, u_copyFrom hl (by decide) (by decide) (by omega) ⟨S_128 hl8, 197, R_128_6 hl8, a8, ca8, 146, R_128_2 hl8, S_197 hl8, n_doYear hl8 cn8 ok.1 (by decide) cs8 cb8 hm2 (fun g fg psg hzg => ?_)⟩⟩
    have hlg := LX_Fr fg hl8
    have okk := yr_ok (x := y1) cn8.1 ok.1 m0
    have hk := yr_le (dN d) y1 (dS d) m0
    have cg := CP_state ck fg psg hzg c8
    have fgS : Fr SC h g := Fr_trans f8 (Fr_mono (fun b q => by unfold SD at q; unfold SC; omega) fg)
    have mdl : ∀ g2, Fr SC h g2 → CP CV g2 (dN d, (yrS (dN d) y1 (dS d) m0).1, (if (yrS (dN d) y1 (dS d) m0).2.2 = 0 then dH d else (dS d :: dH d).take 10), dI d) → P (nI (yrS (dN d) y1 (dS d) m0).2.2) g2 := by
      intro g2 fg2 cg2
      have hlA := LX_Fr fg2 hl
      refine kP _ g2 (S_223 hlA) (fun P2 k2 => ⟨S_223 hlA, fun g3 e3 => ?_⟩)
      have f3' : FrM g2 g3 := by rw [e3]; exact FrM_thrown _ _
      have m3 : MP g3 d := by rw [e3]; exact MP_thrown (MP_SC fg2 m)
      have hl3 := LX_Fr f3'.1 hlA
      refine u_within (fun p1 p2 => ⟨fun _ => ⟨S_223 hl3, m_stores hl3 (fun g4 f4 w4 => ?_)⟩, fun y => absurd y (by decide)⟩) (fun q => absurd (by rw [nI_toInt (by omega)]; omega) q)
      have hl4 := LX_Fr f4 hl3
      have m4 := MP_235 f4 m3
      have pw := was_StM (by omega) w4 m3.2.2.2.1
      refine ⟨S_223 hl4, fun g5 e5 => ⟨m0 + 1, ?_⟩⟩
      have lp : ∀ n k g6, k + n = m0 → FrM g2 g6 → hI g6 235 = hI g4 235 → hI g6 223 26 = (yrS (dN d) y1 (dS d) k).2.1 → MP g6 (dN d, (yrS (dN d) y1 (dS d) k).1, dH d, dI d) → wX10_year_34 P2 (n + 1) 223 (nI m0) (nI (yrS (dN d) y1 (dS d) k).2.2) (nI k) g6 := by
        intro n
        induction n with
        | zero =>
          intro k g6 hk6 f6 w6 x6 m6
          have hk6 : k = m0 := by omega
          subst hk6
          have hl6 := LX_Fr f6.1 hlA
          unfold wX10_year_34
          refine ⟨fun _ => ?_, fun y => absurd (nI_le (Nat.le_refl _) (by omega)) y⟩
          rw [nI_le0 (by omega)]
          refine ⟨fun y => ?_, fun y => ⟨S_223 hl6, m_noted (d := (dN d, (yrS (dN d) y1 (dS d) k).1, dH d, dI d)) (s0 := dS d) hl6 (by show nvC (dN d) ≤ 40; omega) ok.2.2.1 (by rw [w6]; exact pw) m6 (fun g7 f7 m7 => ?_)⟩⟩
          · rw [if_pos y] at cg2
            exact k2 _ (st_close ck hl ⟨t1, t2⟩ fg2 cg2 f6 m6 ⟨okk, ok.2.1, ok.2.2.1, ok.2.2.2⟩)
          · rw [if_neg y] at cg2
            exact k2 _ (st_close ck hl ⟨t1, t2⟩ fg2 cg2 (FrM_trans f6 (FrM_Fr (fun b q => ⟨by unfold SM; omega, by omega⟩) f7)) m7 (DOK_done ok okk))
        | succ n ih =>
          intro k g6 hk6 f6 w6 x6 m6
          have hl6 := LX_Fr f6.1 hlA
          have ok6 := yr_ok (x := y1) cn8.1 ok.1 k
          have le6 := yr_le (dN d) y1 (dS d) k
          have dle := deedF_le (v := dN d) (s := (yrS (dN d) y1 (dS d) k).1) (z := (yrD (yrS (dN d) y1 (dS d) k).2.1).toInt64.toInt)
          have e2 : (yrS (dN d) y1 (dS d) (k + 1)).2.2 = if (deedF (dN d) (yrS (dN d) y1 (dS d) k).1 (yrD (yrS (dN d) y1 (dS d) k).2.1).toInt64.toInt).1 = 0 then (yrS (dN d) y1 (dS d) k).2.2 + 1 else (yrS (dN d) y1 (dS d) k).2.2 := rfl
          unfold wX10_year_34
          simp only [nI_add]
          refine ⟨fun y => absurd y (nI_ge (by omega) (by omega)), fun _ => ⟨S_223 hl6, m_drawn hl6 ?_⟩⟩
          rw [x6]
          have f8' : FrM g6 (sI (sI g6 223 26 (ndX (yrS (dN d) y1 (dS d) k).2.1)) 223 26 (ndX (ndX (yrS (dN d) y1 (dS d) k).2.1))) := FrM_trans (FrM_sI (Or.inl rfl) (fun _ => Or.inr (by omega))) (FrM_sI (Or.inl rfl) (fun _ => Or.inr (by omega)))
          have m8' : MP (sI (sI g6 223 26 (ndX (yrS (dN d) y1 (dS d) k).2.1)) 223 26 (ndX (ndX (yrS (dN d) y1 (dS d) k).2.1))) (dN d, (yrS (dN d) y1 (dS d) k).1, dH d, dI d) := MP_25 (by omega) (MP_25 (by omega) m6)
          have hl8' := LX_Fr f8'.1 hl6
          have x8 : hI (sI (sI g6 223 26 (ndX (yrS (dN d) y1 (dS d) k).2.1)) 223 26 (ndX (ndX (yrS (dN d) y1 (dS d) k).2.1))) 223 26 = (yrS (dN d) y1 (dS d) (k + 1)).2.1 := by rw [hI_sI, if_pos ⟨rfl, rfl⟩]; rfl
          have w8 : hI (sI (sI g6 223 26 (ndX (yrS (dN d) y1 (dS d) k).2.1)) 223 26 (ndX (ndX (yrS (dN d) y1 (dS d) k).2.1))) 235 = hI g4 235 := (hI_sI_row (by omega)).trans ((hI_sI_row (by omega)).trans w6)
          refine ⟨S_223 hl8', m_whyNot hl8' cn8.1 ok6 m8'.2.1 m8'.2.2.1 m8'.2.2.2.1 ?_⟩
          rw [nI_eq0 (by omega)]
          refine ⟨fun y => ⟨S_223 hl8', ?_⟩, fun y => ?_⟩
          · have g1 : ∀ g9, MDe (dN d) (sI (sI g6 223 26 (ndX (yrS (dN d) y1 (dS d) k).2.1)) 223 26 (ndX (ndX (yrS (dN d) y1 (dS d) k).2.1))) (deedF (dN d) (yrS (dN d) y1 (dS d) k).1 (yrD (yrS (dN d) y1 (dS d) k).2.1).toInt64.toInt).2 g9 → wX10_year_34 P2 (n + 1) 223 (nI m0) (nI ((yrS (dN d) y1 (dS d) k).2.2 + 1)) (nI (k + 1)) g9 := fun g9 t9 => by
              have g2' := ih (k + 1) g9 (by omega) (FrM_trans f6 (FrM_trans f8' (FrM_MDe t9))) ((t9.1.2.2.2.2 235 (by unfold SE; omega)).trans w8) ((t9.2.1 26 (by omega)).trans x8) (MP_state (d := (dN d, (yrS (dN d) y1 (dS d) k).1, dH d, dI d)) (by show nvC (dN d) ≤ 40; omega) t9 m8')
              rw [e2, if_pos y] at g2'
              exact g2'
            have hd := m_does (x := (yrD (yrS (dN d) y1 (dS d) k).2.1).toInt64) hl8' cn8.1 ok6 m8'.2.1 m8'.2.2.1 m8'.2.2.2.1 y g1
            rw [i64_32] at hd
            exact hd
          · have g2' := ih (k + 1) _ (by omega) (FrM_trans f6 f8') w8 x8 (by
              have e3' : (yrS (dN d) y1 (dS d) (k + 1)).1 = (yrS (dN d) y1 (dS d) k).1 := deedF_why y
              rw [e3']
              exact m8')
            rw [e2, if_neg y] at g2'
            exact g2'
      subst e5
      exact lp m0 0 _ (by omega) (FrM_trans f3' (FrM_trans (FrM_235 f4) (FrM_sI (Or.inl rfl) (fun _ => Or.inr (by omega))))) (hI_sI_row (by omega)) (by rw [hI_sI, if_pos ⟨rfl, rfl⟩]; rfl) (MP_25 (by omega) m4)
    refine ⟨S_128 hlg, n_kept ck (s0 := dS d) (by omega) hlg (StV_row (fg.2.2.2.2 _ (by unfold SD; omega)) (fg.2.2.2.2 _ (by unfold SD; omega)) (fg.2.2.2.2 _ (by unfold SD; omega)) pb) cg (fun z => mdl g fgS ?_) (fun z g2 f2 cg2 => mdl g2 (Fr_trans fgS f2) ?_)⟩
    · rw [if_pos z]; exact cg
    · rw [if_neg z]; exact cg2
  · rw [Int32.le_iff_toInt_le, nI_toInt (by omega)] at z2; omega
