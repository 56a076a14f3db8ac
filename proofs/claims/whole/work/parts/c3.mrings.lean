/-! Part c3: the reference lays its rings; sides; a told net's row. -/
section ML
variable {v : TN} {cs : CD}
theorem m_lays {Q : MH → Prop} {h : MH} {r : Nat} (hl : LX h) (h900 : cs.1 ≤ 900) (mt : MTold h v cs) (ok : TnOK v cs) (hr : r < 10) (er : hI h 224 114 = nI r) (hq : ∀ h1, FrL h h1 → RgV h1 (nvOf v cs) r → Q h1) : wX10_laysRings 223 h Q := by
  have lk := ok.2.1
  have L10 := lk.1
  have C40 : ofC v ≤ 40 := forty lk ok.2.2.1
  have p2L : 2 ^ tnL v ≤ 2 ^ 10 := Nat.pow_le_pow_right (by omega) L10
  have p2p : 0 < 2 ^ tnL v := Nat.two_pow_pos _
  have c2 : (nI 2).toNatClampNeg = 2 := by decide
  have c114 : (nI 114).toNatClampNeg = 114 := by decide
  have eM : nvMy (nvOf v cs) r = myN (fun c => mbC v cs r (ofOn v c) (ofCh v (ofOn v c))) (ofC v) := rfl
  have mono : ∀ D, D ≤ 2 ^ tnL v → nS (cyB (tnF v) (tnT v) (tnL v)) D ≤ ofC v := fun D hD => by
    have := nS_mono (p := cyB (tnF v) (tnT v) (tnL v)) (2 ^ tnL v - D) D
    rw [show D + (2 ^ tnL v - D) = 2 ^ tnL v from by omega] at this
    exact this
  have loop : ∀ n D g, D + n = 2 ^ tnL v → FrL h g → hI g 223 23 = nI (bcN (nvMy (nvOf v cs) r) (nS (cyB (tnF v) (tnT v) (tnL v)) D)) → (∀ c, c < nS (cyB (tnF v) (tnT v) (tnL v)) D → bt (nvMy (nvOf v cs) r) c = 1 → hI g 230 (bcN (nvMy (nvOf v cs) r) c) = nI (ofOn v c) ∧ hI g 231 (bcN (nvMy (nvOf v cs) r) c) = nI (ofCh v (ofOn v c)) ∧ hI g 232 (bcN (nvMy (nvOf v cs) r) c) = nI (ofNd v (ofOn v c)) ∧ hI g 233 (bcN (nvMy (nvOf v cs) r) c) = nI (nvPc (nvOf v cs) r c)) → wX10_laysRings_7 Q (n + 1) 223 (nI D) g := by
    intro n
    induction n with
    | zero =>
      intro D g hn fr e23 rows
      have hn : D = 2 ^ tnL v := by omega
      have lg := LX_Fr fr.1 hl
      have mg := MTold_keep mt (fr.1.2.2.2.2 224 (by omega))
      unfold wX10_laysRings_7
      rw [c2]
      refine ⟨S_223 lg, 224, R_223_1 lg, 7011, S_224 lg, vp_in_nI (by omega) (by omega), ?_⟩
      rw [mg.1.2.2, nI_shl _ (by omega)]
      rw [hn] at e23 rows ⊢
      exact ⟨fun _ => hq g fr ⟨e23, rows⟩, fun z => absurd (nI_le (Nat.le_refl _) (by omega)) z⟩
    | succ n ih =>
      intro D g hn fr e23 rows
      have hD : D < 2 ^ tnL v := by omega
      have lg := LX_Fr fr.1 hl
      have mg := MTold_keep mt (fr.1.2.2.2.2 224 (by omega))
      have ef : ∀ l, l < tnL v → hI g 224 (9 + 2 * l) = nI (tnF v l) ∧ hI g 224 (9 + 2 * l + 1) = nI (tnT v l) := fun l hl => ⟨(mg.2.2.1 l hl).1, (mg.2.2.1 l hl).2.1⟩
      have es : nS (cyB (tnF v) (tnT v) (tnL v)) (D + 1) = nS (cyB (tnF v) (tnT v) (tnL v)) D + (if cyB (tnF v) (tnT v) (tnL v) D = true then 1 else 0) := rfl
      have m1 := mono (D + 1) (by omega)
      have r1 := ih (D + 1)
      have N8 := onS_lt lk (D := D) (tnL v) (Nat.le_refl _)
      unfold wX10_laysRings_7
      rw [c2, c114]
      refine ⟨S_223 lg, 224, R_223_1 lg, 7011, S_224 lg, vp_in_nI (by omega) (by omega), ?_⟩
      rw [mg.1.2.2, nI_shl _ (by omega), nI_add D 1]
      refine ⟨fun z => absurd z (nI_ge (by omega) (by omega)), fun _ => m_roundOf lk lg mg.1.2.2 ef hD ?_⟩
      by_cases cy : cyB (tnF v) (tnT v) (tnL v) D = true
      · rw [if_pos cy]
        rw [if_pos cy] at es
        have ec : ofOn v (nS (cyB (tnF v) (tnT v) (tnL v)) D) = D := at_D cy _ hD
        have hc : nS (cyB (tnF v) (tnT v) (tnL v)) D < ofC v := by omega
        have on0 : onS (tnF v) (tnT v) D (tnL v) ≠ 0 := fun z => by
          have b3 := (cyB_def.mp cy).1
          obtain ⟨l, _, a, b⟩ := bc_ex hD (by omega) L10
          have := dg_ge (f := tnF v) (g := tnT v) (n := tnF v l) b (tnL v) a
          rw [e01_s] at this
          have := (bt_on lk (D := D) (n := tnF v l) (tnL v) (Nat.le_refl _)).mpr (by omega)
          rw [z, bt_zz] at this
          omega
        refine ⟨fun _ => ⟨S_223 lg, u_chordsOf lg L10 mg.1.2.2 (fun l hl => ⟨(ef l hl).1, (ef l hl).2, (lk.2 l hl).1, (lk.2 l hl).2.1⟩) (by omega) (by omega) ?_⟩, fun z => absurd ((nI_eq0 (by omega)).mp z) on0⟩
        have ch1 : chN (tnF v) (tnT v) D (onS (tnF v) (tnT v) D (tnL v)) (tnL v) < 1024 := lt_of_pow (chN_lt _ _ _ _ _) L10
        have e114 : hI g 224 114 = nI r := by rw [fr.1.2.2.2.2 224 (by omega)]; exact er
        refine ⟨S_223 lg, m_may (r := r) lg h900 mg ok (by omega) ch1 e114 (fun g2 f2 => ?_)⟩
        have fr2 : FrL h g2 := ⟨Fr_trans fr.1 (Fr_mono (fun b hb => by omega) f2), fun k hk => (Fr_I f2 (by omega) k).trans (fr.2 k hk)⟩
        have lg2 := LX_Fr f2 lg
        have i2 : ∀ b, b ≠ 228 → b ≠ 229 → hI g2 b = hI g b := fun b b1 b2 => f2.2.2.2.2 b (by omega)
        have eb : bt (nvMy (nvOf v cs) r) (nS (cyB (tnF v) (tnT v) (tnL v)) D) = if mbC v cs r D (chN (tnF v) (tnT v) D (onS (tnF v) (tnT v) D (tnL v)) (tnL v)) = true then 1 else 0 := by
          rw [eM, bt_my]
          show (if nS (cyB (tnF v) (tnT v) (tnL v)) D < ofC v ∧ mbC v cs r (ofOn v (nS (cyB (tnF v) (tnT v) (tnL v)) D)) (ofCh v (ofOn v (nS (cyB (tnF v) (tnT v) (tnL v)) D))) = true then 1 else 0) = _
          rw [ec]
          show (if nS (cyB (tnF v) (tnT v) (tnL v)) D < ofC v ∧ mbC v cs r D (chN (tnF v) (tnT v) D (onS (tnF v) (tnT v) D (tnL v)) (tnL v)) = true then 1 else 0) = _
          by_cases x : mbC v cs r D (chN (tnF v) (tnT v) D (onS (tnF v) (tnT v) D (tnL v)) (tnL v)) = true
          · rw [if_pos ⟨hc, x⟩, if_pos x]
          · rw [if_neg (fun w => x w.2), if_neg x]
        have ebc : bcN (nvMy (nvOf v cs) r) (nS (cyB (tnF v) (tnT v) (tnL v)) D + 1) = bcN (nvMy (nvOf v cs) r) (nS (cyB (tnF v) (tnT v) (tnL v)) D) + bt (nvMy (nvOf v cs) r) (nS (cyB (tnF v) (tnT v) (tnL v)) D) := rfl
        have kl := bcN_le (nvMy (nvOf v cs) r) (nS (cyB (tnF v) (tnT v) (tnL v)) D)
        rw [es] at r1
        by_cases x : mbC v cs r D (chN (tnF v) (tnT v) D (onS (tnF v) (tnT v) D (tnL v)) (tnL v)) = true
        · rw [if_pos x]
          rw [if_pos x] at eb
          rw [eb] at ebc
          rw [ebc] at r1
          have e23b : hI g2 223 23 = nI (bcN (nvMy (nvOf v cs) r) (nS (cyB (tnF v) (tnT v) (tnL v)) D)) := by rw [i2 223 (by omega) (by omega)]; exact e23
          have k31 : bcN (nvMy (nvOf v cs) r) (nS (cyB (tnF v) (tnT v) (tnL v)) D) < 2 ^ 31 := by omega
          refine ⟨fun _ => ⟨S_223 lg2, 230, R_223_18 lg2, 64, S_230 lg2, ?_⟩, fun y => absurd y (by decide)⟩
          rw [e23b, nI_clamp k31]
          refine ⟨vp_in_nI (by omega) (by omega), fun h23 x23 => ?_⟩
          have f23 : Fr (fun b => 228 ≤ b ∧ b ≤ 233) g2 h23 := by rw [x23]; exact Fr_sI (by omega)
          have l23 := LX_Fr f23 lg2
          rw [show hI h23 223 23 = nI (bcN (nvMy (nvOf v cs) r) (nS (cyB (tnF v) (tnT v) (tnL v)) D)) from (Fr_I f23 (by omega) _).trans e23b, nI_clamp k31]
          refine ⟨231, R_223_19 l23, 64, S_231 l23, vp_in_nI (by omega) (by omega), fun h29 x29 => ?_⟩
          have f29 : Fr (fun b => 228 ≤ b ∧ b ≤ 233) g2 h29 := Fr_trans f23 (by rw [x29]; exact Fr_sI (by omega))
          have l29 := LX_Fr f29 lg2
          rw [show hI h29 223 23 = nI (bcN (nvMy (nvOf v cs) r) (nS (cyB (tnF v) (tnT v) (tnL v)) D)) from (Fr_I f29 (by omega) _).trans e23b, nI_clamp k31]
          refine ⟨232, R_223_20 l29, 64, S_232 l29, vp_in_nI (by omega) (by omega), fun h35 x35 => ?_⟩
          have f35 : Fr (fun b => 228 ≤ b ∧ b ≤ 233) g2 h35 := Fr_trans f29 (by rw [x35]; exact Fr_sI (by omega))
          have l35 := LX_Fr f35 lg2
          have m35 := MTold_keep mg ((f35.2.2.2.2 224 (by omega)).trans (i2 224 (by omega) (by omega)))
          rw [show hI h35 223 23 = nI (bcN (nvMy (nvOf v cs) r) (nS (cyB (tnF v) (tnT v) (tnL v)) D)) from (Fr_I f35 (by omega) _).trans e23b, nI_clamp k31]
          refine ⟨233, R_223_21 l35, 224, R_223_1 l35, 7011, S_224 l35, vp_in_nI (by omega) (by omega), ?_⟩
          rw [show hI h35 224 114 = nI r from (Fr_I f35 (by omega) _).trans ((Fr_I f2 (by omega) _).trans e114)]
          refine m_cost l35 h900 m35 ok (by omega) hr (fun h44 f44 => ⟨64, S_233 (LX_Fr f44 l35), vp_in_nI (by omega) (by omega), fun h48 x48 => ?_⟩)
          have f48 : Fr (fun b => 228 ≤ b ∧ b ≤ 233) g2 h48 := Fr_trans f35 (Fr_trans (Fr_mono (fun b hb => by omega) f44) (by rw [x48]; exact Fr_sI (by omega)))
          have l48 := LX_Fr f48 lg2
          refine ⟨S_223 l48, fun h50 x50 => ?_⟩
          rw [show hI h48 223 23 = nI (bcN (nvMy (nvOf v cs) r) (nS (cyB (tnF v) (tnT v) (tnL v)) D)) from (Fr_I f48 (by omega) _).trans e23b, nI_add] at x50
          have j0 : ∀ k, hI h50 230 k = if k = bcN (nvMy (nvOf v cs) r) (nS (cyB (tnF v) (tnT v) (tnL v)) D) then nI D else hI g 230 k := fun k => by
            rw [x50, hI_sI, if_neg (by omega), x48, hI_sI, if_neg (by omega), Fr_I f44 (by omega), x35, hI_sI, if_neg (by omega), x29, hI_sI, if_neg (by omega), x23, hI_sI, i2 230 (by omega) (by omega)]
            simp only [true_and]
          have j1 : ∀ k, hI h50 231 k = if k = bcN (nvMy (nvOf v cs) r) (nS (cyB (tnF v) (tnT v) (tnL v)) D) then nI (chN (tnF v) (tnT v) D (onS (tnF v) (tnT v) D (tnL v)) (tnL v)) else hI g 231 k := fun k => by
            rw [x50, hI_sI, if_neg (by omega), x48, hI_sI, if_neg (by omega), Fr_I f44 (by omega), x35, hI_sI, if_neg (by omega), x29, hI_sI, x23, hI_sI_row (show (231 : Nat) ≠ 230 by omega), i2 231 (by omega) (by omega)]
            simp only [true_and]
          have j2 : ∀ k, hI h50 232 k = if k = bcN (nvMy (nvOf v cs) r) (nS (cyB (tnF v) (tnT v) (tnL v)) D) then nI (onS (tnF v) (tnT v) D (tnL v)) else hI g 232 k := fun k => by
            rw [x50, hI_sI, if_neg (by omega), x48, hI_sI, if_neg (by omega), Fr_I f44 (by omega), x35, hI_sI, x29, hI_sI_row (show (232 : Nat) ≠ 231 by omega), x23, hI_sI_row (show (232 : Nat) ≠ 230 by omega), i2 232 (by omega) (by omega)]
            simp only [true_and]
          have j3 : ∀ k, hI h50 233 k = if k = bcN (nvMy (nvOf v cs) r) (nS (cyB (tnF v) (tnT v) (tnL v)) D) then nI (smN (prC v cs r) D (tnL v)) else hI g 233 k := fun k => by
            rw [x50, hI_sI, if_neg (by omega), x48, hI_sI, f44.2.2.2.2 233 (by omega), x35, hI_sI_row (show (233 : Nat) ≠ 232 by omega), x29, hI_sI_row (show (233 : Nat) ≠ 231 by omega), x23, hI_sI_row (show (233 : Nat) ≠ 230 by omega), i2 233 (by omega) (by omega)]
            simp only [true_and]
          refine r1 h50 (by omega) ⟨Fr_trans fr2.1 (Fr_trans (Fr_mono (fun b hb => by omega) f48) (by rw [x50]; exact Fr_sI (Or.inl rfl))), fun k hk => ?_⟩ (by rw [x50, hI_sI, if_pos ⟨rfl, rfl⟩]) (fun c hc2 hb => ?_)
          · rw [x50, hI_sI, if_neg (fun w => hk w.2), Fr_I f48 (by omega)]; exact fr2.2 k hk
          · rw [j0, j1, j2, j3]
            by_cases q : c = nS (cyB (tnF v) (tnT v) (tnL v)) D
            · rw [q, if_pos rfl, if_pos rfl, if_pos rfl, if_pos rfl, ec]
              refine ⟨rfl, rfl, rfl, ?_⟩
              show _ = nI (smN (prC v cs r) (ofOn v (nS (cyB (tnF v) (tnT v) (tnL v)) D)) (tnL v))
              rw [ec]
            · have lt := bcN_lt (m := nvMy (nvOf v cs) r) (c := c) (n := nS (cyB (tnF v) (tnT v) (tnL v)) D) (by omega) hb
              rw [if_neg (by omega), if_neg (by omega), if_neg (by omega), if_neg (by omega)]
              exact rows c (by omega) hb
        · rw [if_neg x]
          rw [if_neg x] at eb
          rw [eb, Nat.add_zero] at ebc
          rw [ebc] at r1
          refine ⟨fun y => absurd nI_0 y, fun _ => r1 g2 (by omega) fr2 (by rw [i2 223 (by omega) (by omega)]; exact e23) (fun c hc2 hb => ?_)⟩
          have q : c ≠ nS (cyB (tnF v) (tnT v) (tnL v)) D := fun q => by rw [q, eb] at hb; omega
          rw [i2 230 (by omega) (by omega), i2 231 (by omega) (by omega), i2 232 (by omega) (by omega), i2 233 (by omega) (by omega)]
          exact rows c (by omega) hb
      · rw [if_neg cy]
        rw [if_neg cy, Nat.add_zero] at es
        rw [es] at r1
        exact ⟨fun y => absurd nI_0 y, fun _ => r1 g (by omega) fr e23 rows⟩
  have m7 := nS_7 (f := tnF v) (g := tnT v) (L := tnL v) 1 (by omega)
  refine ⟨S_223 hl, fun h2 e2 => ⟨_, loop (2 ^ tnL v - 1) 1 h2 (by omega) ⟨by rw [e2]; exact Fr_sI (Or.inl rfl), fun k hk => by rw [e2, hI_sI, if_neg (fun w => hk w.2)]⟩ ?_ (fun c hc => absurd hc (by omega))⟩⟩
  rw [e2, hI_sI, if_pos ⟨rfl, rfl⟩, m7]
  rfl
theorem m_side {Q : Int32 → MH → Prop} {h : MH} {rr D l y : Nat} (hl : LX h) (mt : MTold h v cs) (ok : TnOK v cs) (hrr : rr < 64) (hD : D < 1024) (hl2 : l < tnL v) (eD : hI h 230 rr = nI D) (ey : tnT v l = y) (hq : (wk (tnF v) (tnT v) (tnL v) y (tnL v) D (tnF v l)).2 = y) (kq : Q (nI (dfN D (wk (tnF v) (tnT v) (tnL v) y (tnL v) D (tnF v l)).1)) h) : wX10_sideOf 223 (nI rr) (nI l) h Q := by
  have lk := ok.2.1
  have L10 := lk.1
  have el := lk.2 l hl2
  have ml := mt.2.2.1 l hl2
  have loop : ∀ k X n, X < 1024 → (∀ i, bt X i = 1 → bt D i = 1) → n < 8 → n ≠ y → (wk (tnF v) (tnT v) (tnL v) y k X n).2 = y → Q (nI (dfN D (wk (tnF v) (tnT v) (tnL v) y k X n).1)) h → wX10_sideOf_10 Q (k + 2) 223 (nI rr) (nI l) (nI (dfN D X)) (nI n) h := by
    intro k
    induction k with
    | zero => intro X n _ _ _ hn hw; exact absurd hw hn
    | succ k ih =>
      intro X n hX sub hn8 hn hw kq
      unfold wk at hw kq
      cases e : lkF (tnF v) (tnT v) X n (tnL v) 0 with
      | none => rw [e] at hw; exact absurd hw hn
      | some i =>
        rw [e] at hw kq
        have hw : (if tnF v i + tnT v i - n = y then (dfN X (2 ^ i), y) else wk (tnF v) (tnT v) (tnL v) y k (dfN X (2 ^ i)) (tnF v i + tnT v i - n)).2 = y := hw
        have kq : Q (nI (dfN D (if tnF v i + tnT v i - n = y then (dfN X (2 ^ i), y) else wk (tnF v) (tnT v) (tnL v) y k (dfN X (2 ^ i)) (tnF v i + tnT v i - n)).1)) h := kq
        obtain ⟨_, i1, i2, i3, i4⟩ := lkF_some _ _ _ e
        have ei := lk.2 i (by omega)
        have mi := mt.2.2.1 i (by omega)
        have dS : dfN D X < 2 ^ 10 := dfN_lt hD
        have dX : dfN D (dfN D X) = X := by
          refine mask_ext (n := 10) (dfN_lt hD) hX (fun c _ => ?_)
          have b1 := bt_dfN D X c
          have b2 := bt01 (dfN D X) c
          have b3 := bt01 X c
          have b4 := sub c
          rw [bt_dfN]
          omega
        have dX2 : dfN X (2 ^ i) < 2 ^ 10 := dfN_lt hX
        have pi := pow_le10 (show i < 10 by omega)
        have eS : dfN D X ||| 2 ^ i = dfN D (dfN X (2 ^ i)) := by
          refine mask_ext (n := 10) (Nat.or_lt_two_pow dS pi) (dfN_lt hD) (fun c _ => ?_)
          have b1 := bt_dfN D X c
          have b5 := bt_df X i c
          have bD := sub i i2
          rw [bt_or1, bt_pw, b1, bt_dfN D (dfN X (2 ^ i)) c, b5]
          by_cases q : c = i
          · subst q; rw [if_pos rfl]; omega
          · rw [if_neg q]; omega
        have sub2 : ∀ j, bt (dfN X (2 ^ i)) j = 1 → bt D j = 1 := fun j z => sub j ((bt_dfN _ _ _).mp z).1
        have next : wX10_sideOf_10 Q (k + 2) 223 (nI rr) (nI l) (nI (dfN D (dfN X (2 ^ i)))) (nI (tnF v i + tnT v i - n)) h := by
          by_cases q : tnF v i + tnT v i - n = y
          · rw [if_pos q] at kq
            unfold wX10_sideOf_10
            refine ⟨S_223 hl, u_endOf (k := 1) hl (by omega) (by omega) ?_⟩
            rw [ml.2.1, ey, q]
            exact ⟨fun _ => kq, fun z => absurd rfl z⟩
          · rw [if_neg q] at hw kq
            exact ih _ _ dX2 sub2 (by omega) q hw kq
        have inner : ∀ j i0, i0 + j = i → wX10_sideOf_24 Q (wX10_sideOf_10 Q (k + 2)) (j + 1) 223 (nI rr) (nI l) (nI (dfN D X)) (nI n) (nI i0) h := by
          intro j
          induction j with
          | zero =>
            intro i0 hi
            have hi : i0 = i := by omega
            subst hi
            unfold wX10_sideOf_24
            rw [nI_clamp (show rr < 2 ^ 31 by omega)]
            refine ⟨S_223 hl, 230, R_223_18 hl, 64, S_230 hl, vp_in_nI (by omega) (by omega), ?_⟩
            rw [eD, nI_andn (by omega) (by omega)]
            have so : D ^^^ (D &&& dfN D X) = dfN D (dfN D X) := rfl
            rw [so, dX]
            refine u_isIn (by omega) (by omega) ?_
            rw [i2]
            refine ⟨fun z => absurd z (by decide), fun _ => ⟨S_223 hl, u_endsOfN hl (by omega) mi.1 mi.2.1 ei.1 ei.2.1 ?_⟩⟩
            have le := enS_lt (f := tnF v) (g := tnT v) (l := i0) ei.1 ei.2.1
            refine u_isIn (by omega) (by omega) ?_
            rw [(bt_en i0 n).mpr (by omega)]
            refine ⟨fun _ => ⟨S_223 hl, u_endOf (k := 0) hl (by omega) (by omega) ?_⟩, fun z => absurd z (by decide)⟩
            rw [show 9 + 2 * i0 + 0 = 9 + 2 * i0 from rfl, mi.1, nI_eq (by omega) (by omega), nI_shl i0 (by omega), nI_or (by omega) (by omega), eS]
            refine ⟨fun z => ⟨S_223 hl, u_endOf (k := 0) hl (by omega) (by omega) ?_⟩, fun z => ⟨S_223 hl, u_endOf (k := 1) hl (by omega) (by omega) ?_⟩⟩
            · rw [show 9 + 2 * i0 + 0 = 9 + 2 * i0 from rfl, mi.1, show tnF v i0 = tnF v i0 + tnT v i0 - n from by omega]
              exact next
            · rw [mi.2.1, show tnT v i0 = tnF v i0 + tnT v i0 - n from by omega]
              exact next
          | succ j ihj =>
            intro i0 hi
            have ei0 := lk.2 i0 (by omega)
            have mi0 := mt.2.2.1 i0 (by omega)
            have no := i4 i0 (by omega) (by omega)
            have b01 := bt01 X i0
            have r1 := ihj (i0 + 1) (by omega)
            unfold wX10_sideOf_24
            rw [nI_clamp (show rr < 2 ^ 31 by omega)]
            refine ⟨S_223 hl, 230, R_223_18 hl, 64, S_230 hl, vp_in_nI (by omega) (by omega), ?_⟩
            rw [eD, nI_andn (by omega) (by omega)]
            have so : D ^^^ (D &&& dfN D X) = dfN D (dfN D X) := rfl
            rw [so, dX, nI_add i0 1]
            refine u_isIn (by omega) (by omega) ?_
            rw [nI_eq0 (by omega)]
            refine ⟨fun _ => r1, fun z => ⟨S_223 hl, u_endsOfN hl (by omega) mi0.1 mi0.2.1 ei0.1 ei0.2.1 ?_⟩⟩
            have le := enS_lt (f := tnF v) (g := tnT v) (l := i0) ei0.1 ei0.2.1
            refine u_isIn (by omega) (by omega) ?_
            have be := bt01 (enS (tnF v) (tnT v) i0) n
            have ie := bt_en (f := tnF v) (g := tnT v) i0 n
            rw [nI_eq0 (by omega)]
            refine ⟨fun w => absurd ⟨by omega, ?_⟩ no, fun _ => r1⟩
            have := ie.mp (by omega)
            omega
        unfold wX10_sideOf_10
        refine ⟨S_223 hl, u_endOf (k := 1) hl (by omega) (by omega) ?_⟩
        rw [ml.2.1, ey, nI_eq (by omega) (by omega)]
        exact ⟨fun z => absurd z hn, fun _ => ⟨_, inner i 0 (by omega)⟩⟩
  unfold wX10_sideOf
  refine ⟨S_223 hl, u_endOf (k := 0) hl (by omega) (by omega) ⟨tnL v + 2, ?_⟩⟩
  rw [show 9 + 2 * l + 0 = 9 + 2 * l from rfl, ml.1]
  have d0 : dfN D D = 0 := by
    unfold dfN
    rw [Nat.and_self, Nat.xor_self]
  have g := loop (tnL v) D (tnF v l) hD (fun _ z => z) el.1 (by omega) hq kq
  rw [d0] at g
  exact g
/-- the row of a told net, as the other calls use it -/
theorem MNet_of {f : Nat → Int32} (h900 : cs.1 ≤ 900) (ok : TnOK v cs) (e0 : f 0 = nI (tnN v) ∧ f 1 = nI (tnK v) ∧ f 2 = nI (tnL v)) (e3 : ∀ m, m < 2 → f (3 + m) = (if tnB v m < tnE v m then nI 1 else 0) ∧ f (5 + m) = nI (tnB v m) ∧ f (7 + m) = nI (tnE v m - tnB v m)) (e9 : ∀ l, l < tnL v → f (9 + 2 * l) = nI (tnF v l) ∧ f (9 + 2 * l + 1) = nI (tnT v l) ∧ f (29 + l) = nI (tnO v l) ∧ f (39 + l) = nI (tnW v l)) (ec : ∀ i, i < cs.1 → f (1437 + i) = nI (cs.2 i)) : MNet f (nvOf v cs) := by
  have L10 := ok.2.1.1
  have told : ∀ h, MRow f h → MTold h v cs := fun h mr => by
    refine ⟨?_, fun m hm => ?_, fun l hl => ?_, fun i hi => ?_⟩
    · rw [mr 0 (by omega), mr 1 (by omega), mr 2 (by omega)]; exact e0
    · rw [mr _ (by omega), mr _ (by omega), mr _ (by omega)]; exact e3 m hm
    · rw [mr _ (by omega), mr _ (by omega), mr _ (by omega), mr _ (by omega)]; exact e9 l hl
    · rw [mr _ (by omega)]; exact ec i hi
  refine ⟨e0.1, e0.2.1, e0.2.2, e9, fun h r hl hr mr er Q hq => m_lays hl h900 (told h mr) ok hr er hq, fun h c r hl mr hc hr Q hq => ?_, fun h r c l hl mr hr hc hl2 eD hb Q hq => ?_⟩
  · have cy := of_cyc ok hc
    exact m_cost hl h900 (told h mr) ok (lt_of_pow cy.1 L10) hr hq
  · have cy := of_cyc ok hc
    have ch := chord_ok ok hc hl2 hb
    have D1 := lt_of_pow cy.1 L10
    have b0 : bt (ofOn v c) l = 0 := ((bt_ch _).mp hb).2.1
    have pc := pa_ch (f := tnF v) (g := tnT v) (L := tnL v) b0 hb
    have ls : sidN (tnF v) (tnT v) (tnL v) (ofOn v c) l < 2 ^ 10 := dfN_lt D1
    refine m_side hl (told h mr) ok hr D1 hl2 eD rfl ch.1 (hq (sidN (tnF v) (tnT v) (tnL v) (ofOn v c) l) (dfN (ofOn v c) (sidN (tnF v) (tnT v) (tnL v) (ofOn v c) l)) ?_ ?_)
    · have p0 : nvPa (nvOf v cs) c l 0 = min (sidN (tnF v) (tnT v) (tnL v) (ofOn v c) l) (dfN (ofOn v c) (sidN (tnF v) (tnT v) (tnL v) (ofOn v c) l)) := pc.1
      have p1 : nvPa (nvOf v cs) c l 1 = max (sidN (tnF v) (tnT v) (tnL v) (ofOn v c) l) (dfN (ofOn v c) (sidN (tnF v) (tnT v) (tnL v) (ofOn v c) l)) := pc.2
      rw [p0, p1]
      omega
    · show (nI (ofOn v c) &&& (nI (sidN (tnF v) (tnT v) (tnL v) (ofOn v c) l) ^^^ (-1 : Int32))) = _
      exact nI_andn (by omega) (by omega)
end ML
