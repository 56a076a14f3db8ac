/-! ===== judge, perform ===== -/
theorem m_noTray {Q : Int32 → MH → Prop} {h : MH} {x : Int32} (hl : LX h) (k1 : ¬ (0 ≤ x.toInt ∧ x.toInt ≤ 3) → Q (-2) h) (k2 : ∀ t, t < 4 → x = nI t → hI h 241 t = -1 → Q (-6) h) (k3 : ∀ t, t < 4 → x = nI t → hI h 241 t ≠ -1 → Q (nI 0) h) : wX10_noTray 223 x h Q := by
  have l0 : (0 : Int64).toInt = 0 := by decide
  have l3 : (3 : Int64).toInt = 3 := by decide
  unfold wX10_noTray
  refine u_within (fun p1 p2 => ⟨fun _ => ⟨S_223 hl, 241, R_223_34 hl, 4, S_241 hl, ?_⟩, fun z => absurd z (by decide)⟩) (fun q => ⟨fun z => absurd nI_0 z, fun _ => k1 (by omega)⟩)
  rcases nI_cases x 3 (by omega) with ⟨t, ht, e⟩ | c
  · have j2 := k2 t (by omega) e
    have j3 := k3 t (by omega) e
    subst e
    refine ⟨vp_in_nI (by omega) (by omega), ?_⟩
    rw [nI_clamp (by omega)]
    by_cases q : hI h 241 t = -1
    · rw [if_pos q]; exact j2 q
    · rw [if_neg q]; exact j3 q
  · omega
theorem n_missing {Q : Int32 → MH → Prop} {h : MH} {t : Nat} (hl : LX h) (ht : t < 4) (k1 : hI h (207 + 2 * t) 1 = -1 → Q (nI 1) h) (k2 : ∀ m, m ≤ 40 → hI h (207 + 2 * t) 1 = nI m → Q (nI 0) h) (hc : hI h (207 + 2 * t) 1 = -1 ∨ ∃ m, m ≤ 40 ∧ hI h (207 + 2 * t) 1 = nI m) : wX8_isMissing (207 + 2 * t) h Q := by
  unfold wX8_isMissing
  refine ⟨(tr_S hl ht).1, ?_⟩
  rcases hc with e | ⟨m, hm, e⟩
  · rw [e, if_neg (by decide)]
    exact ⟨Or.inr (by decide), k1 e⟩
  · rw [e, if_pos (nI_pos' (by omega))]
    exact ⟨Or.inl nI_0, k2 m hm e⟩
theorem TY_cls {h : MH} (y : TY h) {t : Nat} (ht : t < 4) : hI h (207 + 2 * t) 1 = -1 ∨ ∃ m, m ≤ 40 ∧ hI h (207 + 2 * t) 1 = nI m := by
  rcases y t ht with q | ⟨s, m, q⟩
  · exact Or.inl q.1
  · exact Or.inr ⟨m, q.2.1, q.2.2.2.1⟩
theorem ST_judge_c {CV : MH → Prop} (ck : ∀ h h1, CvEq h h1 → CV h → CV h1) : ST_judge (RLY (RRc CV)) := by
  intro y1 y2 h hr P kP
  obtain ⟨hl, t1, t2, d, ok, c, m⟩ := hr
  have cl := rd_close (x := nI 0) ck hl t1 t2 ok c m
  obtain ⟨⟨a, ca, cn⟩, cs, _, _, cb, _⟩ := id c
  have h4 := cn.1.1
  have hl2 : LX (sI h 223 0 (nI 0)) := LX_sI hl
  have l0 : (0 : Int64).toInt = 0 := by decide
  have l3 : (3 : Int64).toInt = 3 := by decide
  have bad : (¬ (0 ≤ y1.toInt ∧ y1.toInt ≤ 3) ∨ ¬ (0 ≤ y2.toInt ∧ y2.toInt ≤ 3)) → P (-2) h := fun q => by
    refine kP _ _ (S_223 hl) (fun P2 k2 => ⟨S_223 hl, fun _ e => ?_⟩)
    subst e
    refine u_within (fun p1 p2 => ⟨fun _ => ⟨S_223 hl2, m_noTray hl2 (fun _ => ⟨fun z => absurd z (by decide), fun _ => k2 _ cl⟩) (fun t ht e _ => ?_) (fun t ht e _ => ?_)⟩, fun z => absurd z (by decide)⟩) (fun _ => ⟨fun z => absurd nI_0 z, fun _ => k2 _ cl⟩)
    · rw [e, nI_toInt (by omega)] at q; omega
    · rw [e, nI_toInt (by omega)] at q; omega
  unfold wX9_judge
  refine u_isTray (fun t ht e => ⟨fun z => absurd z (by decide), fun _ => ⟨fun z => bad (Or.inr ?_), fun z => ⟨fun z2 => ?_, fun z2 => bad (Or.inr ?_)⟩⟩⟩) (fun q => ⟨fun _ => bad (Or.inl q), fun z => absurd nI_0 z⟩)
  · rw [Int32.lt_iff_toInt_lt, i0_toInt] at z; omega
  · subst e
    rw [Int32.lt_iff_toInt_lt, i0_toInt] at z
    rw [Int32.le_iff_toInt_le, nI_toInt (by omega)] at z2
    have tg := tr_S (t := t) hl (by omega)
    refine ⟨S_128 hl, 206, R_128_9 hl, 4, S_206 hl, vp_in_nI (by omega) (by omega), 207 + 2 * t, ?_, tg.1, ?_⟩
    · rw [nI_clamp (by omega)]; exact tg.2.2.1
    have ty := t2 t (by omega)
    refine n_missing hl (by omega) (fun e => ⟨fun y => absurd y (by decide), fun _ => kP _ _ (S_223 hl) (fun P2 k2 => ⟨S_223 hl, fun _ e2 => ?_⟩)⟩) (fun mm hmm emm => ⟨fun _ => ?_, fun y => absurd nI_0 y⟩) (TY_cls t2 (by omega))
    · subst e2
      have e241 : hI h 241 t = -1 := by
        rcases ty with q | ⟨s, m', q⟩
        · exact q.2
        · rw [q.2.2.2.1] at e; exact absurd e (nI_m1 (by omega))
      refine u_within (fun p1 p2 => ⟨fun _ => ⟨S_223 hl2, m_noTray hl2 (fun q => absurd (by rw [nI_toInt (by omega)]; omega) q) (fun t' ht' e' _ => ⟨fun y => absurd y (by decide), fun _ => k2 _ cl⟩) (fun t' ht' e' q => absurd ?_ q)⟩, fun y => absurd y (by decide)⟩) (fun q => absurd (by omega) q)
      rw [← (nI_eq (by omega) (by omega)).mp e', hI_sI, if_neg (by omega)]
      exact e241
    · obtain ⟨s0, m0, q1, q2, q3, q4, q5, q6, q7⟩ : ∃ s m : Nat, s < 4 ∧ m ≤ 40 ∧ hI h (207 + 2 * t) 0 = nI s ∧ hI h (207 + 2 * t) 1 = nI m ∧ hI h 241 t = nI s ∧ hI h 242 t = nI m ∧ ∀ k, k < m → hL h (208 + 2 * t) k = hL h 243 (40 * t + k) := by
        rcases ty with q | q
        · rw [q.1] at emm; exact absurd emm.symm (nI_m1 (by omega))
        · exact q
      have f1 : Fr (SD 153) h (cpS h 153 146) := Fr_mono (fun x q => by unfold SD; omega) Fr_cpS
      have hl1 := LX_Fr f1 hl
      refine ⟨S_128 hl, 152, R_128_4 hl, 4, S_152 hl, vp_in_nI (by omega) (by omega), 153, R_152_0 hl, 146, R_128_2 hl, S_153 hl, u_copyFrom hl (by decide) (by decide) (by omega) ⟨S_128 hl1, 197, R_128_6 hl1, a, ca, S_197 hl1, ?_⟩⟩
      have cn1 := NetV_SD (by decide) f1 cn
      refine n_doAll (t := t) (m := m0) (nums := fun k => hL h 243 (40 * t + k)) hl1 cn1 ok.1 (by decide) (cpS_new cs) (fun k hk => by rw [cpS_row (by omega)]; exact cb k hk) (by omega) (by omega) q2 (by rw [cpS_row (by omega)]; exact q4) (fun k hk => q7 k hk) (fun k g he fg psg hzg => ?_)
      have f2 := Fr_trans f1 fg
      have f3 := SD_ST3 (by omega) f2
      have hlg := LX_Fr f2 hl
      have cng := NetV_SD (by decide) fg cn1
      have okk := dl_ok (nums := fun k => hL h 243 (40 * t + k)) cn.1 ok.1 k
      have hk := he.1
      have eg : hI g (207 + 2 * t) 1 = nI m0 := by rw [Fr_I f2 (by unfold SD; omega)]; exact q4
      have tgg := tr_S (t := t) hlg (by omega)
      have cag : hR g 128 1 = some a := by rw [f2.2.2.2.1]; exact ca
      have dle := deedF_le (v := dN d) (s := dlS (dN d) (fun k => hL h 243 (40 * t + k)) (dS d) k) (z := (hL h 243 (40 * t + k)).toInt)
      have dwl : dlW (dN d) (fun k => hL h 243 (40 * t + k)) (dS d) k ≤ 2 := dle
      -- the reference, from any heap of the class's trial
      have mdl : ∀ g2, Fr ST3 h g2 → (∀ k, k < 360 → hI g2 198 k = 0) → ∀ r : Int32, (y2 = 0 → r = if k = m0 then -1 else nI k) → (y2 = nI 1 → r = if k = m0 then nI 0 else nI (dlW (dN d) (fun k => hL h 243 (40 * t + k)) (dS d) k)) → (y2 = nI 2 → r = nI (lostA (dN d) (dlS (dN d) (fun k => hL h 243 (40 * t + k)) (dS d) k))) → (y2 = nI 3 → r = nI (asF (dlS (dN d) (fun k => hL h 243 (40 * t + k)) (dS d) k))) → P r g2 := by
        intro g2 fg2 hz2 r r0 r1 r2 r3
        have hlA := LX_Fr fg2 hl
        refine kP r g2 (S_223 hlA) (fun P2 k2 => ⟨S_223 hlA, fun g3 e3 => ?_⟩)
        have f3' : FrM g2 g3 := by rw [e3]; exact FrM_thrown _ _
        have m3 : MP g3 d := by rw [e3]; exact MP_thrown (MP_SC (SC_ST3 fg2) m)
        have hl3 := LX_Fr f3'.1 hlA
        have row : ∀ b, 199 ≤ b → b ≠ 223 → hI g3 b = hI h b := fun b b1 b2 => by rw [e3, hI_sI_row b2, fg2.2.2.2.2 b (by unfold ST3; omega)]
        have rowL : hL g3 = hL h := by rw [f3'.1.2.2.1, fg2.2.2.1]
        refine u_within (fun p1 p2 => ⟨fun _ => ⟨S_223 hl3, m_noTray hl3 (fun q => absurd (by rw [nI_toInt (by omega)]; omega) q) (fun t' ht' e' q => ?_) (fun t' ht' e' q => ⟨fun _ => ⟨S_223 hl3, m_stores hl3 (fun g4 f4 w4 => ?_)⟩, fun y => absurd nI_0 y⟩)⟩, fun y => absurd y (by decide)⟩) (fun q => absurd (by omega) q)
        · exfalso
          rw [← (nI_eq (by omega) (by omega)).mp e', row 241 (by omega) (by omega), q5] at q
          exact nI_m1 (by omega) q
        · have hl4 := LX_Fr f4 hl3
          have m4 := MP_235 f4 m3
          have pw := was_StM (by omega) w4 m3.2.2.2.1
          refine ⟨S_223 hl4, m_tells (t := t) (m := m0) (nums := fun k => hL h 243 (40 * t + k)) hl4 cn.1 ok.1 m4 (by omega) q2 (by rw [Fr_I f4 (by omega), row 242 (by omega) (by omega)]; exact q6) (fun j hj => by rw [f4.2.2.1, rowL]) (fun k' g5 he' f5 w5 m5 z5 y5 => ?_)⟩
          have ek : k = k' := dl_uniq he he'
          subst ek
          have hl5 := LX_Fr f5.1 hl4
          refine ⟨S_223 hl5, m_lostNow hl5 cn.1 m5.2.1 okk m5.2.2.2.1 ⟨S_223 hl5, 224, R_223_1 hl5, 7011, S_224 hl5, vp_in_nI (by omega) (by omega), ?_⟩⟩
          rw [nI_clamp (by omega), StM_F m5.2.2.2.1]
          refine m_isAgain (s := dS d) (s2 := dlS (dN d) (fun k => hL h 243 (40 * t + k)) (dS d) k) hl5 cn.1 m5.2.1 m5.2.2.1 ok.1 okk (StM_R m5.2.2.2.1) (by rw [w5]; exact pw) (fun g6 t6 => ?_)
          have m6 : MP g6 d := MP_state (d := (dN d, dlS (dN d) (fun k => hL h 243 (40 * t + k)) (dS d) k, dH d, dI d)) (by show nvC (dN d) ≤ 40; omega) t6 m5
          have hl6 := LX_Fr t6.1 hl5
          have fin : P2 r g6 := k2 _ (st_close ck hl ⟨t1, t2⟩ (SC_ST3 fg2) (CP_trial ck fg2 hz2 c) (FrM_trans f3' (FrM_trans (FrM_235 f4) (FrM_trans f5 (FrM_MDe t6)))) m6 ok)
          have e25 : hI g6 223 25 = hI g5 223 25 := t6.2.1 25 (by omega)
          have cases4 : y2 = 0 ∨ y2 = nI 1 ∨ y2 = nI 2 ∨ y2 = nI 3 := by
            rcases nI_cases y2 3 (by omega) with ⟨j, hj, ej⟩ | q'
            · have : j = 0 ∨ j = 1 ∨ j = 2 ∨ j = 3 := by omega
              rcases this with e | e | e | e <;> subst e
              · exact Or.inl (ej.trans nI_0)
              · exact Or.inr (Or.inl ej)
              · exact Or.inr (Or.inr (Or.inl ej))
              · exact Or.inr (Or.inr (Or.inr ej))
            · omega
          refine ⟨fun n0 => ⟨fun n1 => ?_, fun n1 => ⟨S_223 hl6, ?_⟩⟩, fun n0 => ⟨S_223 hl6, ?_⟩⟩
          · rcases cases4 with e | e | e | e
            · exact absurd e n0
            · exact absurd e n1
            · rw [if_pos e, ← r2 e]; exact fin
            · rw [if_neg (by rw [e]; decide)]
              show P2 (nI (asF (dlS (dN d) (fun k => hL h 243 (40 * t + k)) (dS d) k))) g6
              rw [← r3 e]
              exact fin
          · have er := r1 n1
            rw [e25]
            by_cases q' : k = m0
            · rw [if_pos q'] at er
              rw [z5 q', ← nI_0, ← er]; exact fin
            · rw [if_neg q'] at er
              rw [y5 q', ← er]; exact fin
          · have er := r0 n0
            rw [e25]
            by_cases q' : k = m0
            · rw [if_pos q'] at er
              rw [z5 q', if_pos rfl, ← er]; exact fin
            · rw [if_neg q'] at er
              have nz : dlW (dN d) (fun k => hL h 243 (40 * t + k)) (dS d) k ≠ 0 := by
                rcases he.2.2 with e | e
                · exact absurd e q'
                · exact e
              rw [y5 q', if_neg (fun y => nz ((nI_eq0 (by omega)).mp y)), ← er]; exact fin
      refine ⟨fun y => ?_, fun y => ?_, fun y => ?_, fun y => ?_⟩
      · refine ⟨S_153 hlg, ?_⟩
        rw [show hI g 153 1 = nI (asF (dlS (dN d) (fun k => hL h 243 (40 * t + k)) (dS d) k)) from psg.2.1]
        have e3 : y2.toInt = 3 := by omega
        refine mdl g f3 hzg _ (fun e => ?_) (fun e => ?_) (fun e => ?_) (fun _ => rfl)
        · rw [e, i0_toInt] at e3; omega
        · rw [e, nI_toInt (by omega)] at e3; omega
        · rw [e, nI_toInt (by omega)] at e3; omega
      · refine ⟨tgg.1, ?_⟩
        rw [eg]
        refine mdl g f3 hzg _ (fun _ => ?_) (fun e => ?_) (fun e => ?_) (fun e => ?_)
        · by_cases q' : k = m0
          · rw [if_pos q', if_pos (by rw [q']; exact nI_le (Nat.le_refl _) (by omega))]
          · rw [if_neg q', if_neg (nI_ge (by omega) (by omega))]
        · rw [e] at y; exact absurd y (by decide)
        · rw [e] at y; exact absurd y (by decide)
        · rw [e] at y; exact absurd y (by decide)
      · refine ⟨tgg.1, ?_⟩
        rw [eg]
        refine ⟨fun z3 => mdl g f3 hzg _ (fun e => ?_) (fun _ => ?_) (fun e => ?_) (fun e => ?_), fun z3 => ⟨S_128 hlg, 197, R_128_6 hlg, a, cag, 208 + 2 * t, tgg.2.2.2, 40, tgg.2.1, ?_, S_197 hlg, ?_⟩⟩
        · rw [e] at y; exact absurd y (by decide)
        · rw [Int32.le_iff_toInt_le, nI_toInt (by omega), nI_toInt (by omega)] at z3
          rw [if_pos (by omega)]
        · rw [e] at y; exact absurd y (by decide)
        · rw [e] at y; exact absurd y (by decide)
        · have hkm : k < m0 := by
            apply Classical.byContradiction
            intro q'
            exact z3 (nI_le (by omega) (by omega))
          exact vp_in_nI (by omega) (by omega)
        · have hkm : k < m0 := by
            apply Classical.byContradiction
            intro q'
            exact z3 (nI_le (by omega) (by omega))
          rw [nI_clamp (by omega), f2.2.2.1, q7 k hkm]
          refine n_doDeed hlg cng okk (by decide) psg hzg (fun g2 fg2 ps2 hz2 => mdl g2 (Fr_trans f3 (SD_ST3 (by omega) fg2)) hz2 _ (fun e => ?_) (fun _ => ?_) (fun e => ?_) (fun e => ?_))
          · rw [e] at y; exact absurd y (by decide)
          · rw [if_neg (by omega)]; rfl
          · rw [e] at y; exact absurd y (by decide)
          · rw [e] at y; exact absurd y (by decide)
      · refine ⟨S_128 hlg, 197, R_128_6 hlg, a, cag, S_197 hlg, n_lostUnits hlg cng okk (by decide) psg (mdl g f3 hzg _ (fun e => ?_) (fun e => ?_) (fun _ => rfl) (fun e => ?_))⟩
        · rw [e] at y; exact absurd y (by decide)
        · rw [e] at y; exact absurd y (by decide)
        · rw [e] at y; exact absurd y (by decide)
  · rw [Int32.le_iff_toInt_le, nI_toInt (by omega)] at z2; omega
