/-! ===== lay, take, fail, mend ===== -/
theorem ST_lay_c {CV : MH → Prop} (ck : ∀ h h1, CvEq h h1 → CV h → CV h1) : ST_lay (RLY (RRc CV)) := by
  intro y1 h hr P kP
  obtain ⟨hl, t1, t2, d, ok, c, m⟩ := hr
  obtain ⟨c8, pb, f8⟩ := CP_before ck c
  have hl8 := LX_Fr f8 hl
  obtain ⟨⟨a, ca, cn⟩, cs, ⟨hp, ch⟩, ci, cb, cv⟩ := id c8
  have h4 := cn.1.1
  have m8 := MP_SC f8 m
  have m2 := MP_thrown (x := nI 0) m8
  have hl2 : LX (sI (cpS h 149 146) 223 0 (nI 0)) := LX_sI hl8
  have fm := FrM_thrown (cpS h 149 146) (nI 0)
  refine ⟨S_128 hl, 149, R_128_3 hl, 146, R_128_2 hl, S_149 hl, u_copyFrom hl (by decide) (by decide) (by omega) ⟨S_128 hl8, 197, R_128_6 hl8, a, ca, 146, R_128_2 hl8, S_197 hl8, ?_⟩⟩
  refine n_layCopy hl8 cn ok.1 (by decide) cs cb (fun hc => ⟨S_128 hl8, n_copiesOf0 hl8 ca cn ok.1.1 cs hc ⟨S_128 hl8, fun z => absurd z (by decide), fun _ => kP _ _ (S_223 hl8) (fun P2 k2 => ⟨S_223 hl8, fun _ e => ?_⟩)⟩⟩) (fun c0 hc hz => ⟨S_128 hl8, n_copiesOf1 hl8 ca cn ok.1.1 cs hc ⟨S_128 hl8, fun z => absurd z (by decide), fun _ => kP _ _ (S_223 hl8) (fun P2 k2 => ⟨S_223 hl8, fun _ e => ?_⟩)⟩⟩) (fun c0 hc hz g fg psg hzg => ?_)
  · subst e
    exact why_lay1 hl2 cn.1 ok.1 m2.2.2.1 m2.2.2.2.1 (fun _ => ⟨fun z => absurd z (by decide), fun _ => k2 _ (st_close ck hl ⟨t1, t2⟩ f8 c8 fm m2 ok)⟩) (fun c1 h1 _ => absurd ⟨c1, h1⟩ hc) (fun c1 h1 _ => absurd ⟨c1, h1⟩ hc)
  · subst e
    refine why_lay1 hl2 cn.1 ok.1 m2.2.2.1 m2.2.2.2.1 (fun h1 => absurd ⟨c0, hc⟩ h1) (fun c1 h1 _ => ⟨fun z => absurd z (by decide), fun _ => k2 _ (st_close ck hl ⟨t1, t2⟩ f8 c8 fm m2 ok)⟩) (fun c1 h1 z1 => ?_)
    have ec : c0 = c1 := ring_inj hc.2.1 h1.2.1 (by have l0 := isRg_lt cn.1 hc; have l1 := isRg_lt cn.1 h1; exact (nI_eq (by omega) (by omega)).mp (hc.2.2.symm.trans h1.2.2))
    rw [← ec] at z1
    omega
  · have o2 : AsOK (dN d) (dLay (dN d) (dS d) c0) := AsOK_tryS cn.1 (AsOK_clL ok.1 hc.2.1 hz)
    have rs := dLay_rest (dN d) (dS d) c0
    have hlg := LX_Fr fg hl8
    have cg := CP_state ck fg psg hzg c8
    have hlt := isRg_lt cn.1 hc
    have hcC := hc.1
    have hc9 := (ok.1.2.2.1 c0 (by omega)).1
    have hc2 : isRg (dN d) (asR (dLay (dN d) (dS d) c0)) y1 c0 := by rw [rs.1]; exact hc
    refine ⟨S_128 hlg, n_copiesOf1 hlg (by rw [fg.2.2.2.1]; exact ca) (NetV_SD (by decide) fg cn) o2.1 psg hc2 ⟨S_128 hlg, fun _ => ⟨S_128 hlg, 165, R_128_5 hlg, 149, R_128_3 hlg, S_165 hlg, n_keep ck (s0 := dS d) hlg (StV_row (fg.2.2.2.2 _ (by unfold SD; omega)) (fg.2.2.2.2 _ (by unfold SD; omega)) (fg.2.2.2.2 _ (by unfold SD; omega)) pb) cg (fun g2 f2 cg2 => kP _ _ (S_223 (LX_Fr f2 hlg)) (fun P2 k2 => ?_))⟩, fun z => absurd nI_0 z⟩⟩
    have fall : Fr SC h g2 := Fr_trans f8 (Fr_trans (Fr_mono (fun b q => by unfold SD at q; unfold SC; omega) fg) f2)
    have hlA := LX_Fr fall hl
    have mA := MP_SC fall m
    have mB := MP_thrown (x := nI 0) mA
    have hlB : LX (sI g2 223 0 (nI 0)) := LX_sI hlA
    refine ⟨S_223 hlA, fun _ e => ?_⟩
    subst e
    refine why_lay1 hlB cn.1 ok.1 mB.2.2.1 mB.2.2.2.1 (fun h1 => absurd ⟨c0, hc⟩ h1) (fun c1 h1 z1 => ?_) (fun c1 h1 _ => ⟨fun _ => ⟨S_223 hlB, m_stores hlB (fun g3 f3 w3 => ?_)⟩, fun z => absurd nI_0 z⟩)
    · exfalso
      have ec : c0 = c1 := ring_inj hc.2.1 h1.2.1 (by have l1 := isRg_lt cn.1 h1; exact (nI_eq (by omega) (by omega)).mp (hc.2.2.symm.trans h1.2.2))
      rw [← ec] at z1
      omega
    · have hl3 := LX_Fr f3 hlB
      have m3 := MP_235 f3 mB
      have pw := was_StM (by omega) w3 mB.2.2.2.1
      refine ⟨S_223 hl3, ?_⟩
      rw [hc.2.2]
      refine m_goesLay hl3 cn.1 m3.2.1 m3.2.2.1 ok.1 m3.2.2.2.1 hc.1 hc.2.1 hz (fun g4 t4 => ⟨S_223 (LX_Fr t4.1 hl3), ?_⟩)
      have md := MDe_MTr (s := dLay (dN d) (dS d) c0) t4 (by rw [rs.1]; exact m3.2.2.1)
      have hl4 := LX_Fr t4.1 hl3
      have m4 := MP_state (by omega) md m3
      refine m_noted (d := (dN d, dLay (dN d) (dS d) c0, dH d, dI d)) (s0 := dS d) hl4 (by show nvC (dN d) ≤ 40; omega) ok.2.2.1 (by rw [t4.1.2.2.2.2 235 (by omega)]; exact pw) m4 (fun g5 f5 m5 => ⟨S_223 (LX_Fr f5 hl4), 224, R_223_1 (LX_Fr f5 hl4), 7011, S_224 (LX_Fr f5 hl4), ?_, ?_⟩)
      · rw [nI_add]; exact vp_in_nI (by omega) (by omega)
      · rw [nI_add, nI_clamp (by omega)]
        have es : hI g5 224 (49 + bcN (nvMy (dN d) (asR (dS d))) c0) = nI (asC (dLay (dN d) (dS d) c0) c0) := by
          have := m5.2.2.2.1.1 c0 hc.1 (by show bt (nvMy (dN d) (asR (dLay (dN d) (dS d) c0))) c0 = 1; rw [rs.1]; exact hc.2.1)
          have e3 : bcN (asM (dN d) (dLay (dN d) (dS d) c0)) c0 = bcN (nvMy (dN d) (asR (dS d))) c0 := by unfold asM; rw [rs.1]
          rw [← e3]
          exact this
        rw [es]
        have fz : FrM g2 g5 := FrM_trans (FrM_thrown g2 (nI 0)) (FrM_trans (FrM_Fr (fun b q => ⟨by unfold SM; omega, by omega⟩) f3) (FrM_trans (FrM_MDe md) (FrM_Fr (fun b q => ⟨by unfold SM; omega, by omega⟩) f5)))
        exact k2 _ (st_close ck hl ⟨t1, t2⟩ fall cg2 fz m5 (DOK_done ok o2))
theorem ST_take_c {CV : MH → Prop} (ck : ∀ h h1, CvEq h h1 → CV h → CV h1) : ST_take (RLY (RRc CV)) := by
  intro y1 h hr P kP
  obtain ⟨hl, t1, t2, d, ok, c, m⟩ := hr
  obtain ⟨c8, pb, f8⟩ := CP_before ck c
  have hl8 := LX_Fr f8 hl
  obtain ⟨⟨a, ca, cn⟩, cs, ⟨hp, ch⟩, ci, cb, cv⟩ := id c8
  have h4 := cn.1.1
  have m8 := MP_SC f8 m
  have m2 := MP_thrown (x := nI 0) m8
  have hl2 : LX (sI (cpS h 149 146) 223 0 (nI 0)) := LX_sI hl8
  have fm := FrM_thrown (cpS h 149 146) (nI 0)
  refine ⟨S_128 hl, 149, R_128_3 hl, 146, R_128_2 hl, S_149 hl, u_copyFrom hl (by decide) (by decide) (by omega) ⟨S_128 hl8, 197, R_128_6 hl8, a, ca, 146, R_128_2 hl8, S_197 hl8, ?_⟩⟩
  refine n_takeCopy hl8 cn ok.1 (by decide) cs cb (fun hc => ⟨S_128 hl8, n_copiesOf0 hl8 ca cn ok.1.1 cs hc ⟨S_128 hl8, fun z => absurd z (by decide), fun _ => kP _ _ (S_223 hl8) (fun P2 k2 => ⟨S_223 hl8, fun _ e => ?_⟩)⟩⟩) (fun c0 hc hz => ⟨S_128 hl8, n_copiesOf1 hl8 ca cn ok.1.1 cs hc ⟨S_128 hl8, fun z => absurd z (by decide), fun _ => kP _ _ (S_223 hl8) (fun P2 k2 => ⟨S_223 hl8, fun _ e => ?_⟩)⟩⟩) (fun c0 hc hz g fg psg hzg => ?_)
  · subst e
    exact why_take1 hl2 cn.1 ok.1 m2.2.2.1 m2.2.2.2.1 (fun _ => ⟨fun z => absurd z (by decide), fun _ => k2 _ (st_close ck hl ⟨t1, t2⟩ f8 c8 fm m2 ok)⟩) (fun c1 h1 _ => absurd ⟨c1, h1⟩ hc) (fun c1 h1 _ => absurd ⟨c1, h1⟩ hc)
  · subst e
    refine why_take1 hl2 cn.1 ok.1 m2.2.2.1 m2.2.2.2.1 (fun h1 => absurd ⟨c0, hc⟩ h1) (fun c1 h1 _ => ⟨fun z => absurd z (by decide), fun _ => k2 _ (st_close ck hl ⟨t1, t2⟩ f8 c8 fm m2 ok)⟩) (fun c1 h1 z1 => ?_)
    have ec : c0 = c1 := ring_inj hc.2.1 h1.2.1 (by have l0 := isRg_lt cn.1 hc; have l1 := isRg_lt cn.1 h1; exact (nI_eq (by omega) (by omega)).mp (hc.2.2.symm.trans h1.2.2))
    rw [← ec] at z1
    omega
  · have o2 : AsOK (dN d) (dTake (dN d) (dS d) c0) := AsOK_tryS cn.1 (AsOK_clT ok.1 hz)
    have rs := dTake_rest (dN d) (dS d) c0
    have hlg := LX_Fr fg hl8
    have cg := CP_state ck fg psg hzg c8
    have hlt := isRg_lt cn.1 hc
    have hcC := hc.1
    have hc9 := (ok.1.2.2.1 c0 (by omega)).1
    have hc2 : isRg (dN d) (asR (dTake (dN d) (dS d) c0)) y1 c0 := by rw [rs.1]; exact hc
    refine ⟨S_128 hlg, n_copiesOf1 hlg (by rw [fg.2.2.2.1]; exact ca) (NetV_SD (by decide) fg cn) o2.1 psg hc2 ⟨S_128 hlg, fun _ => ⟨S_128 hlg, 165, R_128_5 hlg, 149, R_128_3 hlg, S_165 hlg, n_keep ck (s0 := dS d) hlg (StV_row (fg.2.2.2.2 _ (by unfold SD; omega)) (fg.2.2.2.2 _ (by unfold SD; omega)) (fg.2.2.2.2 _ (by unfold SD; omega)) pb) cg (fun g2 f2 cg2 => kP _ _ (S_223 (LX_Fr f2 hlg)) (fun P2 k2 => ?_))⟩, fun z => absurd nI_0 z⟩⟩
    have fall : Fr SC h g2 := Fr_trans f8 (Fr_trans (Fr_mono (fun b q => by unfold SD at q; unfold SC; omega) fg) f2)
    have hlA := LX_Fr fall hl
    have mA := MP_SC fall m
    have mB := MP_thrown (x := nI 0) mA
    have hlB : LX (sI g2 223 0 (nI 0)) := LX_sI hlA
    refine ⟨S_223 hlA, fun _ e => ?_⟩
    subst e
    refine why_take1 hlB cn.1 ok.1 mB.2.2.1 mB.2.2.2.1 (fun h1 => absurd ⟨c0, hc⟩ h1) (fun c1 h1 z1 => ?_) (fun c1 h1 _ => ⟨fun _ => ⟨S_223 hlB, m_stores hlB (fun g3 f3 w3 => ?_)⟩, fun z => absurd nI_0 z⟩)
    · exfalso
      have ec : c0 = c1 := ring_inj hc.2.1 h1.2.1 (by have l1 := isRg_lt cn.1 h1; exact (nI_eq (by omega) (by omega)).mp (hc.2.2.symm.trans h1.2.2))
      rw [← ec] at z1
      omega
    · have hl3 := LX_Fr f3 hlB
      have m3 := MP_235 f3 mB
      have pw := was_StM (by omega) w3 mB.2.2.2.1
      refine ⟨S_223 hl3, ?_⟩
      rw [hc.2.2]
      refine m_goesTake hl3 cn.1 m3.2.1 m3.2.2.1 ok.1 m3.2.2.2.1 hc.1 hc.2.1 hz (fun g4 t4 => ⟨S_223 (LX_Fr t4.1 hl3), ?_⟩)
      have md := MDe_MTr (s := dTake (dN d) (dS d) c0) t4 (by rw [rs.1]; exact m3.2.2.1)
      have hl4 := LX_Fr t4.1 hl3
      have m4 := MP_state (by omega) md m3
      refine m_noted (d := (dN d, dTake (dN d) (dS d) c0, dH d, dI d)) (s0 := dS d) hl4 (by show nvC (dN d) ≤ 40; omega) ok.2.2.1 (by rw [t4.1.2.2.2.2 235 (by omega)]; exact pw) m4 (fun g5 f5 m5 => ⟨S_223 (LX_Fr f5 hl4), 224, R_223_1 (LX_Fr f5 hl4), 7011, S_224 (LX_Fr f5 hl4), ?_, ?_⟩)
      · rw [nI_add]; exact vp_in_nI (by omega) (by omega)
      · rw [nI_add, nI_clamp (by omega)]
        have es : hI g5 224 (49 + bcN (nvMy (dN d) (asR (dS d))) c0) = nI (asC (dTake (dN d) (dS d) c0) c0) := by
          have := m5.2.2.2.1.1 c0 hc.1 (by show bt (nvMy (dN d) (asR (dTake (dN d) (dS d) c0))) c0 = 1; rw [rs.1]; exact hc.2.1)
          have e3 : bcN (asM (dN d) (dTake (dN d) (dS d) c0)) c0 = bcN (nvMy (dN d) (asR (dS d))) c0 := by unfold asM; rw [rs.1]
          rw [← e3]
          exact this
        rw [es]
        have fz : FrM g2 g5 := FrM_trans (FrM_thrown g2 (nI 0)) (FrM_trans (FrM_Fr (fun b q => ⟨by unfold SM; omega, by omega⟩) f3) (FrM_trans (FrM_MDe md) (FrM_Fr (fun b q => ⟨by unfold SM; omega, by omega⟩) f5)))
        exact k2 _ (st_close ck hl ⟨t1, t2⟩ fall cg2 fz m5 (DOK_done ok o2))
theorem ST_fail_c {CV : MH → Prop} (ck : ∀ h h1, CvEq h h1 → CV h → CV h1) : ST_fail (RLY (RRc CV)) := by
  intro y1 h hr P kP
  obtain ⟨hl, t1, t2, d, ok, c, m⟩ := hr
  obtain ⟨c8, pb, f8⟩ := CP_before ck c
  have hl8 := LX_Fr f8 hl
  obtain ⟨⟨a, ca, cn⟩, cs, ⟨hp, ch⟩, ci, cb, cv⟩ := id c8
  have h4 := cn.1.1
  have m8 := MP_SC f8 m
  have m2 := MP_thrown (x := nI 0) m8
  have hl2 : LX (sI (cpS h 149 146) 223 0 (nI 0)) := LX_sI hl8
  have fm := FrM_thrown (cpS h 149 146) (nI 0)
  refine ⟨S_128 hl, 149, R_128_3 hl, 146, R_128_2 hl, S_149 hl, u_copyFrom hl (by decide) (by decide) (by omega) ⟨S_128 hl8, 197, R_128_6 hl8, a, ca, 146, R_128_2 hl8, S_197 hl8, ?_⟩⟩
  refine n_failLink hl8 cn ok.1 (by decide) cs cb (fun hc => ⟨S_128 hl8, 197, R_128_6 hl8, a, ca, 146, R_128_2 hl8, S_197 hl8, n_lostUnits hl8 cn ok.1 (by decide) cs ⟨S_128 hl8, fun z => absurd z (by decide), fun _ => kP _ _ (S_223 hl8) (fun P2 k2 => ⟨S_223 hl8, fun _ e => ?_⟩)⟩⟩) (fun c0 hc hz => ⟨S_128 hl8, 197, R_128_6 hl8, a, ca, 146, R_128_2 hl8, S_197 hl8, n_lostUnits hl8 cn ok.1 (by decide) cs ⟨S_128 hl8, fun z => absurd z (by decide), fun _ => kP _ _ (S_223 hl8) (fun P2 k2 => ⟨S_223 hl8, fun _ e => ?_⟩)⟩⟩) (fun c0 hc hz g fg psg hzg => ?_)
  · subst e
    exact why_fail1 hl2 cn.1 ok.1 m2.2.1 m2.2.2.2.1 (fun _ => ⟨fun z => absurd z (by decide), fun _ => k2 _ (st_close ck hl ⟨t1, t2⟩ f8 c8 fm m2 ok)⟩) (fun c1 h1 _ => absurd ⟨c1, h1⟩ hc) (fun c1 h1 _ => absurd ⟨c1, h1⟩ hc)
  · subst e
    refine why_fail1 hl2 cn.1 ok.1 m2.2.1 m2.2.2.2.1 (fun h1 => absurd ⟨c0, hc⟩ h1) (fun c1 h1 _ => ⟨fun z => absurd z (by decide), fun _ => k2 _ (st_close ck hl ⟨t1, t2⟩ f8 c8 fm m2 ok)⟩) (fun c1 h1 z1 => ?_)
    have ec : c0 = c1 := by
      have l0 := hc.1
      have l1 := h1.1
      exact (nI_eq (by omega) (by omega)).mp (hc.2.symm.trans h1.2)
    rw [← ec] at z1
    omega
  · have o2 : AsOK (dN d) (dFail (dN d) (dS d) c0) := AsOK_tryS cn.1 (AsOK_clF cn.1 ok.1 hc.1)
    have rs : asR (dFail (dN d) (dS d) c0) = asR (dS d) := (tryA_rest _ _ _).1
    have hlg := LX_Fr fg hl8
    have cg := CP_state ck fg psg hzg c8
    refine ⟨S_128 hlg, 197, R_128_6 hlg, a, by rw [fg.2.2.2.1]; exact ca, 146, R_128_2 hlg, S_197 hlg, n_lostUnits hlg (NetV_SD (by decide) fg cn) o2 (by decide) psg ⟨S_128 hlg, fun _ => ⟨S_128 hlg, 165, R_128_5 hlg, 149, R_128_3 hlg, S_165 hlg, n_keep ck (s0 := dS d) hlg (StV_row (fg.2.2.2.2 _ (by unfold SD; omega)) (fg.2.2.2.2 _ (by unfold SD; omega)) (fg.2.2.2.2 _ (by unfold SD; omega)) pb) cg (fun g2 f2 cg2 => kP _ _ (S_223 (LX_Fr f2 hlg)) (fun P2 k2 => ?_))⟩, fun z => absurd nI_0 z⟩⟩
    have fall : Fr SC h g2 := Fr_trans f8 (Fr_trans (Fr_mono (fun b q => by unfold SD at q; unfold SC; omega) fg) f2)
    have hlA := LX_Fr fall hl
    have mA := MP_SC fall m
    have mB := MP_thrown (x := nI 0) mA
    have hlB : LX (sI g2 223 0 (nI 0)) := LX_sI hlA
    refine ⟨S_223 hlA, fun _ e => ?_⟩
    subst e
    refine why_fail1 hlB cn.1 ok.1 mB.2.1 mB.2.2.2.1 (fun h1 => absurd ⟨c0, hc⟩ h1) (fun c1 h1 z1 => ?_) (fun c1 h1 _ => ⟨fun _ => ⟨S_223 hlB, m_stores hlB (fun g3 f3 w3 => ?_)⟩, fun z => absurd nI_0 z⟩)
    · exfalso
      have ec : c0 = c1 := by
        have l0 := hc.1
        have l1 := h1.1
        exact (nI_eq (by omega) (by omega)).mp (hc.2.symm.trans h1.2)
      rw [← ec] at z1
      omega
    · have hl3 := LX_Fr f3 hlB
      have m3 := MP_235 f3 mB
      have pw := was_StM (by omega) w3 mB.2.2.2.1
      refine ⟨S_223 hl3, ?_⟩
      rw [hc.2]
      refine m_goesFail hl3 cn.1 m3.2.1 m3.2.2.1 ok.1 m3.2.2.2.1 hc.1 (fun g4 t4 => ⟨S_223 (LX_Fr t4.1 hl3), ?_⟩)
      have md := MDe_MTr (s := dFail (dN d) (dS d) c0) t4 (by rw [rs]; exact m3.2.2.1)
      have hl4 := LX_Fr t4.1 hl3
      have m4 := MP_state (by omega) md m3
      refine m_noted (d := (dN d, dFail (dN d) (dS d) c0, dH d, dI d)) (s0 := dS d) hl4 (by show nvC (dN d) ≤ 40; omega) ok.2.2.1 (by rw [t4.1.2.2.2.2 235 (by omega)]; exact pw) m4 (fun g5 f5 m5 => ⟨S_223 (LX_Fr f5 hl4), m_lostNow (s := dFail (dN d) (dS d) c0) (LX_Fr f5 hl4) cn.1 m5.2.1 o2 m5.2.2.2.1 ?_⟩)
      have fz : FrM g2 g5 := FrM_trans (FrM_thrown g2 (nI 0)) (FrM_trans (FrM_Fr (fun b q => ⟨by unfold SM; omega, by omega⟩) f3) (FrM_trans (FrM_MDe md) (FrM_Fr (fun b q => ⟨by unfold SM; omega, by omega⟩) f5)))
      exact k2 _ (st_close ck hl ⟨t1, t2⟩ fall cg2 fz m5 (DOK_done ok o2))
theorem ST_mend_c {CV : MH → Prop} (ck : ∀ h h1, CvEq h h1 → CV h → CV h1) : ST_mend (RLY (RRc CV)) := by
  intro y1 h hr P kP
  obtain ⟨hl, t1, t2, d, ok, c, m⟩ := hr
  obtain ⟨c8, pb, f8⟩ := CP_before ck c
  have hl8 := LX_Fr f8 hl
  obtain ⟨⟨a, ca, cn⟩, cs, ⟨hp, ch⟩, ci, cb, cv⟩ := id c8
  have h4 := cn.1.1
  have m8 := MP_SC f8 m
  have m2 := MP_thrown (x := nI 0) m8
  have hl2 : LX (sI (cpS h 149 146) 223 0 (nI 0)) := LX_sI hl8
  have fm := FrM_thrown (cpS h 149 146) (nI 0)
  refine ⟨S_128 hl, 149, R_128_3 hl, 146, R_128_2 hl, S_149 hl, u_copyFrom hl (by decide) (by decide) (by omega) ⟨S_128 hl8, 197, R_128_6 hl8, a, ca, 146, R_128_2 hl8, S_197 hl8, ?_⟩⟩
  refine n_mendLink hl8 cn ok.1 (by decide) cs cb (fun hc => ⟨S_128 hl8, 197, R_128_6 hl8, a, ca, 146, R_128_2 hl8, S_197 hl8, n_lostUnits hl8 cn ok.1 (by decide) cs ⟨S_128 hl8, fun z => absurd z (by decide), fun _ => kP _ _ (S_223 hl8) (fun P2 k2 => ⟨S_223 hl8, fun _ e => ?_⟩)⟩⟩) (fun c0 hc hz => ⟨S_128 hl8, 197, R_128_6 hl8, a, ca, 146, R_128_2 hl8, S_197 hl8, n_lostUnits hl8 cn ok.1 (by decide) cs ⟨S_128 hl8, fun z => absurd z (by decide), fun _ => kP _ _ (S_223 hl8) (fun P2 k2 => ⟨S_223 hl8, fun _ e => ?_⟩)⟩⟩) (fun c0 hc hz g fg psg hzg => ?_)
  · subst e
    exact why_mend1 hl2 cn.1 ok.1 m2.2.1 m2.2.2.2.1 (fun _ => ⟨fun z => absurd z (by decide), fun _ => k2 _ (st_close ck hl ⟨t1, t2⟩ f8 c8 fm m2 ok)⟩) (fun c1 h1 _ => absurd ⟨c1, h1⟩ hc) (fun c1 h1 _ => absurd ⟨c1, h1⟩ hc)
  · subst e
    refine why_mend1 hl2 cn.1 ok.1 m2.2.1 m2.2.2.2.1 (fun h1 => absurd ⟨c0, hc⟩ h1) (fun c1 h1 _ => ⟨fun z => absurd z (by decide), fun _ => k2 _ (st_close ck hl ⟨t1, t2⟩ f8 c8 fm m2 ok)⟩) (fun c1 h1 z1 => ?_)
    have ec : c0 = c1 := by
      have l0 := hc.1
      have l1 := h1.1
      exact (nI_eq (by omega) (by omega)).mp (hc.2.symm.trans h1.2)
    rw [← ec] at z1
    omega
  · have o2 : AsOK (dN d) (dMend (dN d) (dS d) c0) := AsOK_tryS cn.1 (AsOK_clM ok.1)
    have rs : asR (dMend (dN d) (dS d) c0) = asR (dS d) := (tryA_rest _ _ _).1
    have hlg := LX_Fr fg hl8
    have cg := CP_state ck fg psg hzg c8
    refine ⟨S_128 hlg, 197, R_128_6 hlg, a, by rw [fg.2.2.2.1]; exact ca, 146, R_128_2 hlg, S_197 hlg, n_lostUnits hlg (NetV_SD (by decide) fg cn) o2 (by decide) psg ⟨S_128 hlg, fun _ => ⟨S_128 hlg, 165, R_128_5 hlg, 149, R_128_3 hlg, S_165 hlg, n_keep ck (s0 := dS d) hlg (StV_row (fg.2.2.2.2 _ (by unfold SD; omega)) (fg.2.2.2.2 _ (by unfold SD; omega)) (fg.2.2.2.2 _ (by unfold SD; omega)) pb) cg (fun g2 f2 cg2 => kP _ _ (S_223 (LX_Fr f2 hlg)) (fun P2 k2 => ?_))⟩, fun z => absurd nI_0 z⟩⟩
    have fall : Fr SC h g2 := Fr_trans f8 (Fr_trans (Fr_mono (fun b q => by unfold SD at q; unfold SC; omega) fg) f2)
    have hlA := LX_Fr fall hl
    have mA := MP_SC fall m
    have mB := MP_thrown (x := nI 0) mA
    have hlB : LX (sI g2 223 0 (nI 0)) := LX_sI hlA
    refine ⟨S_223 hlA, fun _ e => ?_⟩
    subst e
    refine why_mend1 hlB cn.1 ok.1 mB.2.1 mB.2.2.2.1 (fun h1 => absurd ⟨c0, hc⟩ h1) (fun c1 h1 z1 => ?_) (fun c1 h1 _ => ⟨fun _ => ⟨S_223 hlB, m_stores hlB (fun g3 f3 w3 => ?_)⟩, fun z => absurd nI_0 z⟩)
    · exfalso
      have ec : c0 = c1 := by
        have l0 := hc.1
        have l1 := h1.1
        exact (nI_eq (by omega) (by omega)).mp (hc.2.symm.trans h1.2)
      rw [← ec] at z1
      omega
    · have hl3 := LX_Fr f3 hlB
      have m3 := MP_235 f3 mB
      have pw := was_StM (by omega) w3 mB.2.2.2.1
      refine ⟨S_223 hl3, ?_⟩
      rw [hc.2]
      refine m_goesMend hl3 cn.1 m3.2.1 m3.2.2.1 ok.1 m3.2.2.2.1 hc.1 (fun g4 t4 => ⟨S_223 (LX_Fr t4.1 hl3), ?_⟩)
      have md := MDe_MTr (s := dMend (dN d) (dS d) c0) t4 (by rw [rs]; exact m3.2.2.1)
      have hl4 := LX_Fr t4.1 hl3
      have m4 := MP_state (by omega) md m3
      refine m_noted (d := (dN d, dMend (dN d) (dS d) c0, dH d, dI d)) (s0 := dS d) hl4 (by show nvC (dN d) ≤ 40; omega) ok.2.2.1 (by rw [t4.1.2.2.2.2 235 (by omega)]; exact pw) m4 (fun g5 f5 m5 => ⟨S_223 (LX_Fr f5 hl4), m_lostNow (s := dMend (dN d) (dS d) c0) (LX_Fr f5 hl4) cn.1 m5.2.1 o2 m5.2.2.2.1 ?_⟩)
      have fz : FrM g2 g5 := FrM_trans (FrM_thrown g2 (nI 0)) (FrM_trans (FrM_Fr (fun b q => ⟨by unfold SM; omega, by omega⟩) f3) (FrM_trans (FrM_MDe md) (FrM_Fr (fun b q => ⟨by unfold SM; omega, by omega⟩) f5)))
      exact k2 _ (st_close ck hl ⟨t1, t2⟩ fall cg2 fz m5 (DOK_done ok o2))
