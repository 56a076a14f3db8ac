/-! Part a2: covers. -/
theorem m_covers29 {Q : Int32 → MH → Prop} {h : MH} {v : NV} {r w : Nat} (hl : LX h) (hv : NvOK v) (pn : MNet (hI h 224) v) (p : RgV h v r) (p3 : ∀ l, l < 10 → hI h 238 l = nI (3 ^ l)) (hw : w ≤ 3) (hq : Q (nI (wyN v r w 0 (nvW v))) h) : ∀ n l, l + n = nvL v → wX10_covers_29 Q (n + 1) 223 (nI w) (nI (lakN v (nvW v) l)) (nI l) h := by
  have h4 := hv.1
  intro n
  induction n with
  | zero =>
    intro l hn
    have hn : l = nvL v := by omega
    subst hn
    unfold wX10_covers_29
    refine ⟨S_223 hl, 224, R_223_1 hl, 7011, S_224 hl, vp_in_nI (by omega) (by omega), ?_⟩
    rw [nI_clamp (by omega), pn.2.2.1]
    refine ⟨fun _ => ?_, fun z => absurd (nI_le (Nat.le_refl _) (by omega)) z⟩
    have e := lakN_top (v := v) (f := nvW v) (10 - nvL v)
    rw [show nvL v + (10 - nvL v) = 10 from by omega] at e
    rw [← e]
    exact m_coversFrom hv w 300 0 (nvW v) h _ (by omega) (by omega) hl pn p p3 (by omega) (fun l hl => (hv.2.1 l hl).2.2.2.2) hq
  | succ n ih =>
    intro l hn
    have hlL : l < nvL v := by omega
    have g := ih (l + 1) (by omega)
    unfold wX10_covers_29
    refine ⟨S_223 hl, 224, R_223_1 hl, 7011, S_224 hl, vp_in_nI (by omega) (by omega), ?_⟩
    rw [nI_clamp (by omega), pn.2.2.1]
    refine ⟨fun z => absurd z (nI_ge hlL (by omega)), fun _ => ⟨by rw [nI_add]; exact vp_in_nI (by omega) (by omega), 238, R_223_29 hl, 10, S_238 hl, vp_in_nI (by omega) (by omega), fun v22 e22 => ?_⟩⟩
    rw [nI_add, nI_clamp (by omega), nI_clamp (by omega), (pn.2.2.2.1 l hlL).2.2.2, p3 l (by omega), nI_mul, nI_add] at e22
    rw [show lakN v (nvW v) (l + 1) = lakN v (nvW v) l + nvW v l * 3 ^ l from by
      show lakN v (nvW v) l + (if l < nvL v then nvW v l else 0) * 3 ^ l = _
      rw [if_pos hlL]] at g
    rw [e22, nI_add]
    exact g
def ST2_covers (R R2 : MH → Prop) : Prop := ∀ (y1 : Int32) (h : MH), R h → ∀ P : Int32 → MH → Prop, (∀ (r : Int32) (h1 : MH), hS h1 223 = (1, 10) → (∀ P2 : Int32 → MH → Prop, (∀ h2 : MH, R2 h2 → P2 r h2) → wX10_covers 223 y1 h1 P2) → P r h1) → wX9_covers 128 y1 h P
theorem ST2_covers_c {lp : NV → Nat → Nat → Nat} {A : Nat} (hA : A < 2 ^ 40) : ST2_covers (RLY (RRc (CVA lp A))) (RLY (RRc (CVA lp (A + 1)))) := by
  intro y1 h hr P kP
  obtain ⟨hl, t1, t2, d, ok, c, m⟩ := hr
  obtain ⟨⟨a, ca, cn⟩, cs, _, _, _, cv⟩ := id c
  have h4 := cn.1.1
  have j : JB lp A d h := ⟨hl, ⟨t1, t2⟩, c, m⟩
  have bad : ¬ (0 ≤ y1.toInt ∧ y1.toInt ≤ 3) → P (-3 : Int32) h := fun z =>
    kP _ _ (S_223 hl) (fun P2 k2 => ⟨S_223 hl, fun g2 e2 => u_within (fun z1 z2 => absurd ⟨z1, z2⟩ z) (fun _ => ⟨fun z => absurd nI_0 z, fun _ => k2 _ (by rw [e2]; exact JB_end ok (JB_le (by omega) j))⟩)⟩)
  rcases nI_cases y1 3 (by omega) with ⟨w, hw, ew⟩ | z
  · subst ew
    refine ⟨fun z => absurd z (nI_nn (by omega)), fun _ => ⟨fun _ => ?_, fun z => absurd (nI_le hw (by omega)) z⟩⟩
    refine ⟨S_128 hl, 199, R_128_7 hl, a, ca, 146, R_128_2 hl, S_146 hl, S_199 hl, S_199 hl, ?_⟩
    rw [show hI h 146 0 = nI (asR (dS d)) from cs.1]
    refine n_lookAt hl cv hA cn ok.1.1 (fun g f cg ag ig cr => ?_)
    have jg : JB lp (A + 1) d g := lk_at hl t1 t2 c m f cg
    have cng : NetV g a (dN d) := NetV_keep (NetEq_LkF f) cn
    refine ⟨S_199 jg.1, a, ag, cng.2.1, n_working cng (by omega) ⟨S_199 jg.1, a, ag, cng.2.1, n_working cng (by omega) ⟨S_199 jg.1, ?_⟩⟩⟩
    refine n_waysFrom cn.1 w 300 0 (nvW (dN d)) g _ (by omega) (by omega) jg.1 cr (by omega) (fun l hl => (cn.1.2.1 l hl).2.2.2.2) ?_
    refine kP _ _ (S_223 jg.1) (fun P2 k2 => ⟨S_223 jg.1, fun g2 e2 => u_within (fun _ _ => ⟨fun _ => ?_, fun z => absurd z (by decide)⟩) (fun z => absurd (show 0 ≤ (nI w).toInt ∧ (nI w).toInt ≤ 3 from by rw [nI_tI (by omega)]; omega) z)⟩)
    have m2 : MP g2 d := by rw [e2]; exact MP_thrown jg.2.2.2
    have f2 : FrM g g2 := by rw [e2]; exact FrM_thrown _ _
    have hl2 := LX_Fr f2.1 jg.1
    refine ⟨S_223 hl2, m_lackNow hl2 cn.1 m2.2.1 m2.2.2.1 (CpM_of (by omega) ok.1 m2.2.2.2.1) (cp9 cn.1 ok.1) (fun g3 f3 pw => ?_)⟩
    have m3 := MP_238 f3 m2
    exact ⟨_, m_covers29 (LX_Fr f3 hl2) cn.1 m3.2.1 m3.2.2.1 pw hw (k2 _ (st_close2 (CVA_keep lp (A + 1)) jg.1 jg.2.1 jg.2.2.1 (FrM_trans f2 (FrM_238 f3)) m3 ok)) (nvL (dN d)) 0 (by omega)⟩
  · refine ⟨fun _ => bad z, fun z1 => ⟨fun z2 => ?_, fun _ => bad z⟩⟩
    refine absurd ⟨?_, ?_⟩ z
    · exact Int32.le_iff_toInt_le.mp (Int32.not_lt.mp z1)
    · exact Int32.le_iff_toInt_le.mp z2
