/-! Part a8: the reference's least price. -/
theorem m_firstLack {Q : Int32 → MH → Prop} {h : MH} {v : NV} {f : Nat → Nat} (hl : LX h) (hv : NvOK v) (p3 : ∀ l, l < 10 → hI h 238 l = nI (3 ^ l)) (hf : ∀ l, l < nvL v → f l ≤ 2) (q : ¬ nedB f 1 (nvL v) = 0) (hq : Q (nI (fsB f (nvL v))) h) : wX10_firstLack 223 (nI (lakN v f 10)) h Q := by
  have z := ned_fs q
  have h4 := hv.1
  obtain ⟨_, i2, _⟩ := fsB_spec f (nvL v)
  have lp : ∀ n l, l + n = fsB f (nvL v) → wX10_firstLack_2 Q (n + 1) 223 (nI (lakN v f 10)) (nI l) h := by
    intro n
    induction n with
    | zero =>
      intro l hn
      have hn : l = fsB f (nvL v) := by omega
      subst hn
      have := hf _ z.1
      exact ⟨S_223 hl, m_lackOf hl hv p3 hf z.1 ⟨fun _ => hq, fun y => absurd ((nI_eq0 (by omega)).mp y) z.2⟩⟩
    | succ n ih =>
      intro l hn
      have g := ih (l + 1) (by omega)
      have e := i2 l (by omega)
      unfold wX10_firstLack_2
      refine ⟨S_223 hl, m_lackOf hl hv p3 hf (by omega) ⟨fun y => absurd ((nI_eq0 (by omega)).mpr e) y, fun _ => ?_⟩⟩
      rw [nI_add]
      exact g
  exact ⟨_, lp (fsB f (nvL v)) 0 (by omega)⟩
theorem m_pz {Q : Int32 → MH → Prop} {h : MH} {v : NV} {r c aim : Nat} (hl : LX h) (hv : NvOK v) (haim : aim < 2) (p : RgV h v r) (hc : c < nvC v) (hb : bt (nvMy v r) c = 1) (hq : Q (nI (pz v r aim c)) h) : wX10_priceOf 223 (nI (bcN (nvMy v r) c)) (nI aim) h Q := by
  have h4 := hv.1
  have hC := bcN_le (nvMy v r) (nvC v)
  have hlt := bcN_lt hc hb
  unfold pz at hq
  refine ⟨fun y => ?_, fun y => ⟨S_223 hl, 233, R_223_21 hl, 64, S_233 hl, vp_in_nI (by omega) (by omega), ?_⟩⟩
  · rw [if_neg (fun x => y ((nI_eq0 (by omega)).mpr x))] at hq
    exact hq
  · rw [if_pos ((nI_eq0 (by omega)).mp y)] at hq
    rw [nI_clamp (by omega), (p.2 c hc hb).2.2.2]
    exact hq
def FR : Nat := 268435456
theorem FR_i : (268435456 : Int32) = nI FR := by decide
/-- the reference's table: unknown, or right -/
def TbV (h : MH) (v : NV) (r aim : Nat) : Prop := ∀ f, (∀ l, l < nvL v → f l ≤ 2) → hI h 236 (lakN v f 10) = -1 ∨ hI h 236 (lakN v f 10) = nI (lq v r aim FR f)
def KnV (h : MH) (v : NV) (r aim : Nat) (f : Nat → Nat) : Prop := hI h 236 (lakN v f 10) = nI (lq v r aim FR f)
def MsH (v : NV) (r aim : Nat) (h : MH) : Prop := LX h ∧ MNet (hI h 224) v ∧ RgV h v r ∧ (∀ l, l < 10 → hI h 238 l = nI (3 ^ l)) ∧ TbV h v r aim
def Fr36 (h g : MH) : Prop := Fr (fun b => b = 236) h g
theorem MsH_up {v : NV} {r aim : Nat} {h g : MH} (f : Fr (fun b => b = 236 ∨ b = 237) h g) (s : MsH v r aim h) (tb : TbV g v r aim) : MsH v r aim g := by
  obtain ⟨s1, s2, s3, s4, _⟩ := s
  refine ⟨LX_Fr f s1, by rw [f.2.2.2.2 224 (by omega)]; exact s2, RgV_row (Fr_I f (by omega) _) (f.2.2.2.2 _ (by omega)) (f.2.2.2.2 _ (by omega)) (f.2.2.2.2 _ (by omega)) (f.2.2.2.2 _ (by omega)) s3, by rw [f.2.2.2.2 238 (by omega)]; exact s4, tb⟩
theorem lakN_inj {v : NV} {f g : Nat → Nat} (hv : NvOK v) (hf : ∀ l, l < nvL v → f l ≤ 2) (hg : ∀ l, l < nvL v → g l ≤ 2) (e : lakN v f 10 = lakN v g 10) : ∀ l, l < nvL v → f l = g l := fun l hl => by
  have h4 := hv.1
  have d1 := lakN_dig hf hl (9 - l)
  have d2 := lakN_dig hg hl (9 - l)
  rw [show l + 1 + (9 - l) = 10 from by omega] at d1 d2
  rw [← d1, ← d2, e]
theorem FR_lt : FR < 2 ^ 29 := by decide
theorem m_least115 {v : NV} {r aim : Nat} {f : Nat → Nat} {h : MH} {x3 : Int32} {Q : Int32 → MH → Prop} {P : Nat → Int32 → Int32 → MH → (Int32 → MH → Prop) → Prop} (hv : NvOK v) (hf : ∀ l, l < nvL v → f l ≤ 2) (s : MsH v r aim h) (e3 : x3 = nI (lq v r aim FR f)) (hq : ∀ g, Fr36 h g → MsH v r aim g → KnV g v r aim f → (∀ f', (∀ l, l < nvL v → f' l ≤ 2) → KnV h v r aim f' → KnV g v r aim f') → Q (nI (lq v r aim FR f)) g) : wX10_leastFor_115 Q P 223 (nI (lakN v f 10)) x3 h := by
  have h4 := hv.1
  have b1 := lakN_lt hf 10
  subst e3
  refine ⟨S_223 s.1, 236, R_223_27 s.1, 59049, S_236 s.1, vp_in_nI (by omega) (by omega), fun h14 e14 => ?_⟩
  rw [nI_clamp (by omega)] at e14
  have at1 : ∀ f', (∀ l, l < nvL v → f' l ≤ 2) → (KnV h v r aim f' ∨ hI h 236 (lakN v f' 10) = -1) → (KnV h14 v r aim f' ∨ (hI h14 236 (lakN v f' 10) = -1 ∧ hI h 236 (lakN v f' 10) = -1)) := fun f' hf' y => by
    unfold KnV
    rw [e14, hI_sI]
    by_cases x : lakN v f' 10 = lakN v f 10
    · rw [if_pos ⟨rfl, x⟩]
      have : lq v r aim FR f = lq v r aim FR f' := lqF_congf 20 _ _ (lakN_inj hv hf hf' x.symm)
      rw [this]
      exact Or.inl rfl
    · rw [if_neg (fun u => x u.2)]
      rcases y with y | y
      · exact Or.inl y
      · exact Or.inr ⟨y, y⟩
  have fr : Fr36 h h14 := by rw [e14]; exact Fr_sI rfl
  refine hq h14 fr (MsH_up (Fr_mono (fun b z => Or.inl z) fr) s (fun f' hf' => ?_)) (by unfold KnV; rw [e14, hI_sI, if_pos ⟨rfl, rfl⟩]) (fun f' hf' y => ?_)
  · rcases at1 f' hf' ((s.2.2.2.2 f' hf').symm) with y | y
    · exact Or.inr y
    · exact Or.inl y.1
  · rcases at1 f' hf' (Or.inl y) with x | x
    · exact x
    · unfold KnV at y
      rw [x.2] at y
      have := lq_le v r aim FR f'
      have := FR_lt
      exact absurd y.symm (nI_nm (by omega))
theorem m_least {v : NV} {r aim : Nat} (hv : NvOK v) (hr : r < 10) (haim : aim < 2) : ∀ n d f h (Q : Int32 → MH → Prop), sumC f (nvL v) ≤ n → n + 4 ≤ d → (∀ l, l < nvL v → f l ≤ 2) → MsH v r aim h → (∀ g, Fr36 h g → MsH v r aim g → KnV g v r aim f → (∀ f', (∀ l, l < nvL v → f' l ≤ 2) → KnV h v r aim f' → KnV g v r aim f') → Q (nI (lq v r aim FR f)) g) → Cm MX10_leastFor d 0 0 [.ref 223, .int (nI (lakN v f 10)), .int (nI aim)] h (pI Q) := by
  have h4 := hv.1
  have hC := bcN_le (nvMy v r) (nvC v)
  have hFR := FR_lt
  have none : ∀ d f h (Q : Int32 → MH → Prop), 4 ≤ d → (∀ l, l < nvL v → f l ≤ 2) → nedB f 1 (nvL v) = 0 → MsH v r aim h → (∀ g, Fr36 h g → MsH v r aim g → KnV g v r aim f → (∀ f', (∀ l, l < nvL v → f' l ≤ 2) → KnV h v r aim f' → KnV g v r aim f') → Q (nI (lq v r aim FR f)) g) → Cm MX10_leastFor d 0 0 [.ref 223, .int (nI (lakN v f 10)), .int (nI aim)] h (pI Q) := by
    intro d f h Q hd hf q s hq
    have b1 := lakN_lt hf 10
    have e0 := (lak_ned hv).mpr q
    have el := lq_zero (r := r) (aim := aim) (F := FR) q
    refine gX10_leastFor (PX10_leastFor := fun _ _ _ _ _ => False) (d2 := 0) (by omega) (by omega) (fun _ _ _ _ _ q => q.elim) _ _ _ h Q ⟨S_223 s.1, 236, R_223_27 s.1, 59049, S_236 s.1, vp_in_nI (by omega) (by omega), fun _ => ⟨fun y => absurd ((nI_eq0 (by omega)).mpr e0) y, fun _ => ⟨1, ?_⟩⟩, fun y => ⟨vp_in_nI (by omega) (by omega), ?_⟩⟩
    · have k := m_least115 (P := fun _ _ _ _ _ => False) (x3 := nI 0) hv hf s (by rw [el]) hq
      exact ⟨S_223 s.1, fun _ => k, fun _ => ⟨fun _ => k, fun y => absurd ((nI_le0 (by omega)).mpr e0) y⟩⟩
    · rw [nI_clamp (by omega)] at y ⊢
      rcases s.2.2.2.2 f hf with x | x
      · exact absurd x y
      · rw [x]
        exact hq h (Fr_rfl _ _) s x (fun _ _ y => y)
  intro n
  induction n with
  | zero =>
    intro d f h Q hs hd hf s hq
    exact none d f h Q (by omega) hf (nedB_zero.mpr (sumM_zero (nvL v) (by omega))) s hq
  | succ n ih =>
    intro d f h Q hs hd hf s hq
    by_cases q : nedB f 1 (nvL v) = 0
    · exact none d f h Q (by omega) hf q s hq
    have z := ned_fs q
    have b1 := lakN_lt hf 10
    have e0 : ¬ lakN v f 10 = 0 := fun y => q ((lak_ned hv).mp y)
    have est := lq_step (v := v) (r := r) (aim := aim) (F := FR) q (sumC_20 hv hf)
    refine gX10_leastFor (PX10_leastFor := fun y0 y1 y2 h Q => Cm MX10_leastFor (d - 1) 0 0 [.ref y0, .int y1, .int y2] h (pI Q)) (d2 := d - 1) (by omega) (by omega) (fun _ _ _ _ _ q => q) _ _ _ h Q ⟨S_223 s.1, 236, R_223_27 s.1, 59049, S_236 s.1, vp_in_nI (by omega) (by omega), fun _ => ⟨fun _ => ?_, fun y => absurd ((nI_eq0 (by omega)).mp y) e0⟩, fun y => ⟨vp_in_nI (by omega) (by omega), ?_⟩⟩
    · have lp : ∀ m c g, c + m = nvC v → Fr36 h g → MsH v r aim g → (∀ f', (∀ l, l < nvL v → f' l ≤ 2) → KnV h v r aim f' → KnV g v r aim f') → wX10_leastFor_32 Q (fun y0 y1 y2 h Q => Cm MX10_leastFor (d - 1) 0 0 [.ref y0, .int y1, .int y2] h (pI Q)) (bcN (nvMy v r) (nvC v) - bcN (nvMy v r) c + 1) 223 (nI (lakN v f 10)) (nI aim) (nI (mnF v r (fsB f (nvL v)) FR (lqP v r aim FR f) c)) (nI (bcN (nvMy v r) c)) g := by
        intro m
        induction m with
        | zero =>
          intro c g hm fg sg kg
          have hm : c = nvC v := by omega
          subst hm
          rw [Nat.sub_self]
          unfold wX10_leastFor_32
          rw [sg.2.2.1.1, ← est]
          exact ⟨S_223 sg.1, fun _ => m_least115 hv hf sg rfl (fun g2 f2 s2 k2 kk => hq g2 (Fr_trans fg f2) s2 k2 (fun f' hf' y => kk f' hf' (kg f' hf' y))), fun y => absurd (nI_le (Nat.le_refl _) (by omega)) y⟩
        | succ m im =>
          intro c g hm fg sg kg
          have eb : bcN (nvMy v r) (c + 1) = bcN (nvMy v r) c + bt (nvMy v r) c := rfl
          have em : mnF v r (fsB f (nvL v)) FR (lqP v r aim FR f) (c + 1) = if bt (nvMy v r) c = 1 ∧ usN v c (fsB f (nvL v)) ≠ 0 ∧ lqP v r aim FR f c < mnF v r (fsB f (nvL v)) FR (lqP v r aim FR f) c then lqP v r aim FR f c else mnF v r (fsB f (nvL v)) FR (lqP v r aim FR f) c := rfl
          have g0 := im (c + 1)
          rcases bt01 (nvMy v r) c with b | b
          · rw [em, if_neg (fun y => by omega), eb, b] at g0
            exact g0 g (by omega) fg sg kg
          · have hcc : c < nvC v := by omega
            have hlt := bcN_lt hcc b
            rw [eb, b] at g0
            rw [show bcN (nvMy v r) (nvC v) - bcN (nvMy v r) c + 1 = (bcN (nvMy v r) (nvC v) - (bcN (nvMy v r) c + 1) + 1) + 1 from by omega]
            unfold wX10_leastFor_32
            rw [sg.2.2.1.1, nI_add]
            have uc := (us_cases hv hcc z.1).1
            refine ⟨S_223 sg.1, fun y => absurd y (nI_ge hlt (by omega)), fun _ => ⟨fun y => absurd ((nI_le0 (by omega)).mp y) e0, fun _ => m_firstLack sg.1 hv sg.2.2.2.1 hf q ⟨S_223 sg.1, m_useOf sg.1 hv sg.2.2.1 hcc b z.1 ⟨fun u => ?_, fun u => ?_⟩⟩⟩⟩
            · replace u : usN v c (fsB f (nvL v)) ≠ 0 := fun y => u ((nI_eq0 (by omega)).mpr y)
              have sb := sumC_bh z.1 z.2 u
              refine ⟨S_223 sg.1, m_lackWith sg.1 hv sg.2.1 sg.2.2.1 hcc b sg.2.2.2.1 hf ⟨S_223 sg.1, ?_⟩⟩
              refine ih (d - 1) (fBh v c f) g _ (by omega) (by omega) (fBh_2 hf) sg (fun g2 f2 s2 _ kk => ?_)
              have hp := pz_le hv (aim := aim) (c := c) hr
              have hq2 := lq_le v r aim FR (fBh v c f)
              have hm2 := mnF_le (v := v) (r := r) (l := fsB f (nvL v)) (F := FR) (p := lqP v r aim FR f) c
              have g3 := g0 g2 (by omega) (Fr_trans fg f2) s2 (fun f' hf' y => kk f' hf' (kg f' hf' y))
              have ep : lq v r aim FR (fBh v c f) + pz v r aim c = lqP v r aim FR f c := Nat.add_comm _ _
              rw [FR_i]
              by_cases y : lqP v r aim FR f c < mnF v r (fsB f (nvL v)) FR (lqP v r aim FR f) c
              · rw [em, if_pos ⟨b, u, y⟩] at g3
                refine ⟨fun x => absurd x (nI_ge (by omega) (by omega)), fun _ => ⟨S_223 s2.1, m_pz s2.1 hv haim s2.2.2.1 hcc b ?_⟩⟩
                rw [nI_add, ep]
                refine ⟨fun x => absurd x (nI_ge y (by omega)), fun _ => ⟨S_223 s2.1, m_pz s2.1 hv haim s2.2.2.1 hcc b ?_⟩⟩
                rw [nI_add, ep]
                exact g3
              · rw [em, if_neg (fun x => y x.2.2)] at g3
                refine ⟨fun _ => g3, fun x => ⟨S_223 s2.1, m_pz s2.1 hv haim s2.2.2.1 hcc b ?_⟩⟩
                rw [nI_add, ep]
                exact ⟨fun _ => g3, fun x => absurd (nI_le (by omega) (by omega)) x⟩
            · replace u : usN v c (fsB f (nvL v)) = 0 := (nI_eq0 (by omega)).mp u
              rw [em, if_neg (fun y => y.2.1 u)] at g0
              exact g0 g (by omega) fg sg kg
      have k0 := lp (nvC v) 0 h (by omega) (Fr_rfl _ _) s (fun _ _ y => y)
      rw [FR_i]
      exact ⟨_, k0⟩
    · rw [nI_clamp (by omega)] at y ⊢
      rcases s.2.2.2.2 f hf with x | x
      · exact absurd x y
      · rw [x]
        exact hq h (Fr_rfl _ _) s x (fun _ _ y => y)
