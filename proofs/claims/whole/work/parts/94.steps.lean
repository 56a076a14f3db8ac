/-! ===== rate, undo ===== -/
theorem dRate_R (v : NV) (s : AS) (r : Nat) : asR (dRate v s r) = r := by
  unfold dRate
  by_cases q : nvMy v r = nvMy v (asR s)
  · rw [if_pos q]; rfl
  · rw [if_neg q]; rfl
theorem ST_rate_c {CV : MH → Prop} (ck : ∀ h h1, CvEq h h1 → CV h → CV h1) : ST_rate (RLY (RRc CV)) := by
  intro y1 h hr P kP
  obtain ⟨hl, t1, t2, d, ok, c, m⟩ := hr
  obtain ⟨c8, pb, f8⟩ := CP_before ck c
  have hl8 := LX_Fr f8 hl
  obtain ⟨⟨a, ca, cn⟩, cs, ⟨hp, ch⟩, ci, cb, cv⟩ := id c8
  have h4 := cn.1.1
  have m8 := MP_SC f8 m
  have m2 := MP_thrown (x := nI 0) m8
  have hl2 : LX (sI (cpS h 149 146) 223 0 (nI 0)) := LX_sI hl8
  have fm := FrM_thrown (cpS h 149 146) (nI 0)
  have l0 : (0 : Int64).toInt = 0 := by decide
  have l9 : (9 : Int64).toInt = 9 := by decide
  refine ⟨S_128 hl, 149, R_128_3 hl, 146, R_128_2 hl, S_149 hl, u_copyFrom hl (by decide) (by decide) (by omega) ⟨S_128 hl8, 197, R_128_6 hl8, a, ca, 146, R_128_2 hl8, S_197 hl8, ?_⟩⟩
  refine n_changeRate hl8 cn ok.1 (by decide) cs cb (fun hc => ⟨S_128 hl8, a, ca, 146, R_128_2 hl8, S_146 hl8, cn.2.1, ?_⟩) (fun r hr er g fg psg hzg => ?_)
  · rw [show hI (cpS h 149 146) 146 0 = nI (asR (dS d)) from cs.1]
    refine n_ringCount cn ok.1.1 ⟨S_128 hl8, fun z => absurd z (by decide), fun _ => kP _ _ (S_223 hl8) (fun P2 k2 => ⟨S_223 hl8, fun _ e => ?_⟩)⟩
    subst e
    refine u_within (fun p1 p2 => absurd hc (by omega)) (fun _ => ⟨fun z => absurd nI_0 z, fun _ => ?_⟩)
    rw [show (-11 : Int32) = (-10 : Int32) - nI 1 from by decide]
    exact k2 _ (st_close ck hl ⟨t1, t2⟩ f8 c8 fm m2 ok)
  · have o2 : AsOK (dN d) (dRate (dN d) (dS d) r) := AsOK_dRate ok.1 hr
    have rs := dRate_R (dN d) (dS d) r
    have hlg := LX_Fr fg hl8
    have cg := CP_state ck fg psg hzg c8
    have e0 : hI g 146 0 = nI r := by
      have := psg.1
      rw [show (encS (dRate (dN d) (dS d) r)).1 = nI (asR (dRate (dN d) (dS d) r)) from rfl, rs] at this
      exact this
    refine ⟨S_128 hlg, a, by rw [fg.2.2.2.1]; exact ca, 146, R_128_2 hlg, S_146 hlg, (NetV_SD (by decide) fg cn).2.1, ?_⟩
    rw [e0]
    refine n_ringCount (NetV_SD (by decide) fg cn) hr ⟨S_128 hlg, fun _ => ⟨S_128 hlg, 165, R_128_5 hlg, 149, R_128_3 hlg, S_165 hlg, n_keep ck (s0 := dS d) hlg (StV_row (fg.2.2.2.2 _ (by unfold SD; omega)) (fg.2.2.2.2 _ (by unfold SD; omega)) (fg.2.2.2.2 _ (by unfold SD; omega)) pb) cg (fun g2 f2 cg2 => kP _ _ (S_223 (LX_Fr f2 hlg)) (fun P2 k2 => ?_))⟩, fun z => absurd nI_0 z⟩
    have fall : Fr SC h g2 := Fr_trans f8 (Fr_trans (Fr_mono (fun b q => by unfold SD at q; unfold SC; omega) fg) f2)
    have hlA := LX_Fr fall hl
    have mA := MP_SC fall m
    have mB := MP_thrown (x := nI 0) mA
    have hlB : LX (sI g2 223 0 (nI 0)) := LX_sI hlA
    refine ⟨S_223 hlA, fun _ e => ?_⟩
    subst e
    subst er
    refine u_within (fun p1 p2 => ⟨fun _ => ⟨S_223 hlB, m_stores hlB (fun g3 f3 w3 => ?_)⟩, fun z => absurd z (by decide)⟩) (fun k => absurd (by rw [nI_toInt (by omega)]; omega) k)
    have hl3 := LX_Fr f3 hlB
    have m3 := MP_235 f3 mB
    have pw := was_StM (by omega) w3 mB.2.2.2.1
    refine ⟨S_223 hl3, m_goesRate hl3 cn.1 m3.2.1 m3.2.2.1 ok.1 m3.2.2.2.1 hr (fun g4 md => ⟨S_223 (LX_Fr md.1 hl3), ?_⟩)⟩
    have hl4 := LX_Fr md.1 hl3
    have m4 := MP_state (by omega) md m3
    refine m_noted (d := (dN d, dRate (dN d) (dS d) r, dH d, dI d)) (s0 := dS d) hl4 (by show nvC (dN d) ≤ 40; omega) ok.2.2.1 (by rw [md.1.2.2.2.2 235 (by unfold SE; omega)]; exact pw) m4 (fun g5 f5 m5 => ⟨S_223 (LX_Fr f5 hl4), ?_⟩)
    have fz : FrM g2 g5 := FrM_trans (FrM_thrown g2 (nI 0)) (FrM_trans (FrM_Fr (fun b q => ⟨by unfold SM; omega, by omega⟩) f3) (FrM_trans (FrM_MDe md) (FrM_Fr (fun b q => ⟨by unfold SM; omega, by omega⟩) f5)))
    have e5 : hI g5 223 23 = nI (bcN (nvMy (dN d) r) (nvC (dN d))) := by
      have : hI g5 223 23 = nI (bcN (nvMy (dN d) (asR (dRate (dN d) (dS d) r))) (nvC (dN d))) := m5.2.2.1.1
      rw [rs] at this
      exact this
    rw [e5]
    exact k2 _ (st_close ck hl ⟨t1, t2⟩ fall cg2 fz m5 (DOK_done ok o2))
theorem Fr_bbH {h : MH} {p n m a : Nat} : Fr (fun x => x = 165 ∨ x = a ∨ x = a + 1 ∨ x = a + 2) h (bbH h p n m a) := by
  unfold bbH
  exact Fr_trans (Fr_trans (Fr_sI (Or.inl rfl)) (Fr_mono (fun x q => Or.inr q) Fr_cpS)) (Fr_sI (Or.inl rfl))
theorem undo46 {Q : Int32 → MH → Prop} {h : MH} {v : NV} {s s2 : AS} {n0 : Nat} (hl : LX h) (hv : NvOK v) (hn : n0 < 10) (e0 : hI h 224 175 = nI n0) (pn : MNet (hI h 224) v) (pr : RgV h v (asR s2)) (ok : AsOK v s) (ok2 : AsOK v s2) (er : hI h 224 114 = nI (asR s2)) (pw : StM v s (fun k => hI h 224 (176 + 126 * n0 + k))) (hq : ∀ g g2, Fr (fun b => b = 235) h g → MDe v g s g2 → Q (nI n0) g2) : ∃ m, wX10_undo_46 Q m 223 (nI 0) h := by
  have h4 := hv.1
  have lp : ∀ n i g, i + n = 126 → Fr (fun b => b = 235) h g → (∀ k, k < i → hI g 235 k = hI h 224 (176 + 126 * n0 + k)) → wX10_undo_46 Q (n + 1) 223 (nI i) g := by
    intro n
    induction n with
    | zero =>
      intro i g hi f p
      have hi : i = 126 := by omega
      subst hi
      have hlg := LX_Fr f hl
      have e224 : hI g 224 = hI h 224 := f.2.2.2.2 _ (by omega)
      unfold wX10_undo_46
      rw [show (nI 175).toNatClampNeg = 175 from by decide]
      refine ⟨fun _ => ⟨S_223 hlg, m_isAgain (s := s) (s2 := s2) hlg hv (by rw [e224]; exact pn) (RgV_row (Fr_I f (by omega) _) (f.2.2.2.2 _ (by omega)) (f.2.2.2.2 _ (by omega)) (f.2.2.2.2 _ (by omega)) (f.2.2.2.2 _ (by omega)) pr) ok ok2 (by rw [e224]; exact er) (StM_cong (by omega) p pw) (fun g2 md => ⟨S_223 (LX_Fr md.1 hlg), 224, R_223_1 (LX_Fr md.1 hlg), 7011, S_224 (LX_Fr md.1 hlg), vp_in_nI (by omega) (by omega), ?_⟩)⟩, fun z => absurd (nI_le (by omega) (by omega)) z⟩
      rw [md.2.2.1 175 (by omega), e224, e0]
      exact hq g g2 f md
    | succ n ih =>
      intro i g hi f p
      have hlg := LX_Fr f hl
      unfold wX10_undo_46
      rw [show (nI 175).toNatClampNeg = 175 from by decide]
      refine ⟨fun z => absurd z (nI_ge (by omega) (by omega)), fun _ => ⟨S_223 hlg, 235, R_223_24 hlg, 224, R_223_1 hlg, 7011, S_224 hlg, vp_in_nI (by omega) (by omega), ?_⟩⟩
      rw [Fr_I f (by omega) 175, e0]
      simp only [nI_mul, nI_add]
      rw [nI_clamp (by omega), nI_clamp (by omega)]
      refine ⟨vp_in_nI (by omega) (by omega), 126, S_235 hlg, vp_in_nI (by omega) (by omega), fun _ e => ?_⟩
      subst e
      refine ih (i + 1) _ (by omega) (Fr_trans f (Fr_sI rfl)) (fun k hk => ?_)
      rw [hI_sI]
      by_cases q : k = i
      · rw [if_pos ⟨rfl, q⟩, q, Fr_I f (by omega)]
      · rw [if_neg (fun z => q z.2)]
        exact p k (by omega)
  exact ⟨127, lp 126 0 h (by omega) (Fr_rfl _ _) (fun k hk => absurd hk (by omega))⟩
theorem ST_undo_c {CV : MH → Prop} (ck : ∀ h h1, CvEq h h1 → CV h → CV h1) : ST_undo (RLY (RRc CV)) := by
  intro y1 h hr P kP
  obtain ⟨hl, t1, t2, d, ok, c, m⟩ := hr
  have cl := rd_close (x := nI 0) ck hl t1 t2 ok c m
  obtain ⟨⟨a, ca, cn⟩, cs, ⟨hp, ch⟩, ci, cb, cv⟩ := id c
  have h4 := cn.1.1
  have m2 := MP_thrown (x := nI 0) m
  have hl2 : LX (sI h 223 0 (nI 0)) := LX_sI hl
  have l1 : (1 : Int64).toInt = 1 := by decide
  have l10 : (10 : Int64).toInt = 10 := by decide
  have hlen := ok.2.2.1
  have esz : hI h 165 2 = nI (dH d).length := by rw [ch.2.2.2.1, List.length_map]
  have bad : ¬ (1 ≤ y1.toInt ∧ y1.toInt ≤ ((dH d).length : Int)) → P (-3) h := fun hb => by
    refine kP _ _ (S_223 hl) (fun P2 k2 => ⟨S_223 hl, fun _ e => ?_⟩)
    subst e
    refine u_within (fun p1 p2 => ⟨fun z => absurd z (by decide), fun _ => ⟨S_223 hl2, 224, R_223_1 hl2, 7011, S_224 hl2, vp_in_nI (by omega) (by omega), ?_⟩⟩) (fun _ => ⟨fun _ => k2 _ cl, fun z => absurd nI_0 z⟩)
    rw [nI_clamp (by omega), m2.2.2.2.2.1]
    refine ⟨fun z => ?_, fun _ => k2 _ cl⟩
    exfalso
    rw [Int32.le_iff_toInt_le, nI_toInt (by omega)] at z
    omega
  unfold wX9_undo
  refine ⟨fun z => bad ?_, fun z => ⟨S_128 hl, 165, R_128_5 hl, S_165 hl, ?_⟩⟩
  · rw [Int32.lt_iff_toInt_lt, nI_toInt (by omega)] at z
    omega
  · rw [esz]
    rw [Int32.lt_iff_toInt_lt, nI_toInt (by omega)] at z
    refine ⟨fun z2 => ⟨146, R_128_2 hl, ?_⟩, fun z2 => bad ?_⟩
    · rw [Int32.le_iff_toInt_le, nI_toInt (by omega)] at z2
      obtain ⟨n, hn1, hn2, en⟩ : ∃ n, 1 ≤ n ∧ n ≤ (dH d).length ∧ y1 = nI n := ⟨y1.toInt.toNat, by omega, by omega, by
        apply Int32.toInt_inj.mp
        rw [nI_toInt (by omega)]
        omega⟩
      subst en
      have hlen2 : ((dH d).map encS).length = (dH d).length := List.length_map _
      have hlt : n - 1 < (dH d).length := by omega
      obtain ⟨s, hs⟩ : ∃ s, (dH d)[n - 1]? = some s := ⟨_, List.getElem?_eq_getElem hlt⟩
      have oks : AsOK (dN d) s := ok.2.1 s (List.mem_of_getElem? hs)
      have hsm : ((dH d).map encS)[n - 1]? = some (encS s) := by rw [List.getElem?_map, hs]; rfl
      refine u_bringBack hl ch hn1 (by omega) (by decide) (by omega) ?_
      have fb : Fr (fun x => x = 165 ∨ x = 146 ∨ x = 146 + 1 ∨ x = 146 + 2) h (bbH h hp n ((dH d).map encS).length 146) := Fr_bbH
      have hlb := LX_Fr fb hl
      have nb : ∀ b, b ≠ 165 → b ≠ 146 → b ≠ 147 → b ≠ 148 → hI (bbH h hp n ((dH d).map encS).length 146) b = hI h b := fun b b1 b2 b3 b4 => fb.2.2.2.2 b (by omega)
      have qb : CvEq h (bbH h hp n ((dH d).map encS).length 146) := CvEq_Fr (fun b hb => by omega) fb
      have hv1 := bbH_V (a := 146) ch hn1 (by omega) (by omega)
      have hv2 := bbH_new (a := 146) ch hn1 hsm (by omega)
      have fSC : Fr SC h (bbH h hp n ((dH d).map encS).length 146) := Fr_mono (fun x q => by unfold SC; omega) fb
      have cb2 : CP CV (bbH h hp n ((dH d).map encS).length 146) (dN d, s, (dH d).drop n, dI d) := by
        refine ⟨⟨a, by rw [fb.2.2.2.1]; exact ca, NetV_keep (CvEq_net qb) cn⟩, hv2, ⟨(hp + 10 - n) % 10, ?_⟩, fun t ht => ImC_cong ht (CvEq_net qb) (by rw [fb.2.2.2.1]) (fun b b1 b2 => nb b (by omega) (by omega) (by omega) (by omega)) (ci t ht), fun k hk => ?_, ck _ _ qb cv⟩
        · show HiV _ _ (((dH d).drop n).map encS)
          rw [List.map_drop]
          exact hv1
        · rw [nb 198 (by omega) (by omega) (by omega) (by omega)]
          exact cb k hk
      refine ⟨S_128 hlb, 165, R_128_5 hlb, S_165 hlb, ?_⟩
      have e165 : hI (bbH h hp n ((dH d).map encS).length 146) 165 2 = nI ((dH d).length - n) := hv1.2.2.2.1.trans (by rw [List.length_drop, hlen2])
      rw [e165]
      refine kP _ _ (S_223 hlb) (fun P2 k2 => ⟨S_223 hlb, fun _ e => ?_⟩)
      subst e
      have mb := MP_thrown (x := nI 0) (MP_SC fSC m)
      have hlc : LX (sI (bbH h hp n ((dH d).map encS).length 146) 223 0 (nI 0)) := LX_sI hlb
      refine u_within (fun p1 p2 => ⟨fun z => absurd z (by decide), fun _ => ⟨S_223 hlc, 224, R_223_1 hlc, 7011, S_224 hlc, vp_in_nI (by omega) (by omega), ?_⟩⟩) (fun k => absurd (by rw [nI_toInt (by omega)]; omega) k)
      rw [show (nI 175).toNatClampNeg = 175 from by decide, mb.2.2.2.2.1]
      refine ⟨fun _ => ⟨vp_in_nI (by omega) (by omega), vp_in_nI (by omega) (by omega), fun g0 e => ?_⟩, fun k => absurd (nI_le (by omega) (by omega)) k⟩
      rw [nI_subN hn2] at e
      obtain ⟨b1, b2, b3, b4, b5, b6, b7⟩ := mb
      have f0 : Fr (fun b => b = 224) (sI (bbH h hp n ((dH d).map encS).length 146) 223 0 (nI 0)) g0 := by rw [e]; exact Fr_sI rfl
      have r0 : ∀ k, k ≠ 175 → hI g0 224 k = hI (sI (bbH h hp n ((dH d).map encS).length 146) 223 0 (nI 0)) 224 k := fun k hk => by rw [e, hI_sI, if_neg (by omega)]
      have e175 : hI g0 224 175 = nI ((dH d).length - n) := by rw [e, hI_sI, if_pos ⟨rfl, rfl⟩]
      have hl0 := LX_Fr f0 hlc
      have rg0 : RgV g0 (dN d) (asR (dS d)) := RgV_row (Fr_I f0 (by omega) _) (f0.2.2.2.2 _ (by omega)) (f0.2.2.2.2 _ (by omega)) (f0.2.2.2.2 _ (by omega)) (f0.2.2.2.2 _ (by omega)) b3
      have pw0 : StM (dN d) s (fun k => hI g0 224 (176 + 126 * ((dH d).length - n) + k)) := by
        refine StM_cong (by omega) (fun k hk => ?_) (b6 (n - 1) s hs)
        rw [r0 _ (by omega), show (dH d).length - 1 - (n - 1) = (dH d).length - n from by omega]
      refine undo46 (s := s) (s2 := dS d) hl0 cn.1 (by omega) e175 (MNet_cong (fun k hk => r0 k (by omega)) b1 b2) rg0 oks ok.1 ((r0 114 (by omega)).trans (StM_R b4)) pw0 (fun g g2 fg md => k2 _ ?_)
      have m235 : ∀ k, hI g 224 k = hI g0 224 k := fun k => Fr_I fg (by omega) k
      have fz : FrM (bbH h hp n ((dH d).map encS).length 146) g2 := FrM_trans (FrM_thrown _ (nI 0)) (FrM_trans (FrM_Fr (fun b q => ⟨by unfold SM; omega, by omega⟩) f0) (FrM_trans (FrM_Fr (fun b q => ⟨by unfold SM; omega, by omega⟩) fg) (FrM_MDe md)))
      refine st_close ck hl ⟨t1, t2⟩ fSC cb2 fz ?_ ⟨oks, fun w hw => ok.2.1 w (List.mem_of_mem_drop hw), by show ((dH d).drop n).length ≤ 10; rw [List.length_drop]; omega, ok.2.2.2⟩
      have row : ∀ k, (k < 49 ∨ 176 ≤ k) → hI g2 224 k = hI (sI (bbH h hp n ((dH d).map encS).length 146) 223 0 (nI 0)) 224 k := fun k hk => (md.2.2.1 k (by omega)).trans ((m235 k).trans (r0 k (by omega)))
      refine ⟨b1, MNet_cong (fun k hk => row k (by omega)) b1 b2, md.2.2.2.2, md.2.2.2.1, ?_, fun i w hw => ?_, fun t ht => ImM_row ?_ (fun k hk => row k (by omega)) (b7 t ht)⟩
      · show hI g2 224 175 = nI ((dH d).drop n).length
        rw [md.2.2.1 175 (by omega), m235, e175, List.length_drop]
      · have hw2 : (dH d)[n + i]? = some w := by rw [← List.getElem?_drop]; exact hw
        have hlt2 : n + i < (dH d).length := (List.getElem?_eq_some_iff.mp hw2).1
        refine StM_cong (by show nvC (dN d) ≤ 40; omega) (fun k hk => ?_) (b6 (n + i) w hw2)
        show hI g2 224 (176 + 126 * (((dH d).drop n).length - 1 - i) + k) = _
        rw [row _ (by omega), List.length_drop, show (dH d).length - n - 1 - i = (dH d).length - 1 - (n + i) from by omega]
      · rw [md.1.2.2.2.2 225 (by unfold SE; omega), fg.2.2.2.2 225 (by omega), f0.2.2.2.2 225 (by omega)]
    · rw [Int32.le_iff_toInt_le, nI_toInt (by omega)] at z2
      omega
