/-! Part a9: what is to be laid yet: the reference. -/
def F67 (b : Nat) : Prop := b = 236 ∨ b = 237
def LdV (h : MH) (v : NV) (r : Nat) (ld : Nat → Nat) : Prop := ∀ c, c < nvC v → bt (nvMy v r) c = 1 → hI h 237 (bcN (nvMy v r) c) = nI (ld c)
theorem KnV_row {h g : MH} {v : NV} {r aim : Nat} {f : Nat → Nat} (e : hI g 236 = hI h 236) (k : KnV h v r aim f) : KnV g v r aim f := by
  unfold KnV
  rw [e]
  exact k
theorem FR_ge : 20000 ≤ FR := by decide
theorem lq_FG {v : NV} (hv : NvOK v) {r aim : Nat} (hr : r < 10) {f : Nat → Nat} (us : usF v r f) (hf : ∀ l, l < nvL v → f l ≤ 2) : lq v r aim FR f = lq v r aim 30000 f := lqF_FG hv hr FR_ge (by omega) 20 f (sumC_20 hv hf) (by omega) us
theorem lqP_FG {v : NV} (hv : NvOK v) {r aim c : Nat} (hr : r < 10) {f : Nat → Nat} (us : usF v r f) (hf : ∀ l, l < nvL v → f l ≤ 2) : lqP v r aim FR f c = lqP v r aim 30000 f c := by
  unfold lqP
  rw [lq_FG hv hr (usF_bh us) (fBh_2 hf)]
theorem m_lays61 {v : NV} {r aim : Nat} {h : MH} {Q : Int32 → MH → Prop} (hv : NvOK v) (hr : r < 10) (haim : aim < 2) : ∀ n f ld g, sumC f (nvL v) ≤ n → usF v r f → (∀ l, l < nvL v → f l ≤ 2) → MsH v r aim g → KnV g v r aim f → LdV g v r ld → Fr F67 h g → (∀ g2, MsH v r aim g2 → Fr F67 h g2 → LdV g2 v r (slF v r aim n f ld) → Q (nI 1) g2) → wX10_laysYet_61 Q (n + 1) 223 (nI aim) (nI (lakN v f 10)) g := by
  have h4 := hv.1
  have hC := bcN_le (nvMy v r) (nvC v)
  have hFR := FR_lt
  have hFG := FR_ge
  intro n
  induction n with
  | zero =>
    intro f ld g hs us hf sg kg lg fg hq
    have e0 := (lak_ned hv).mpr (nedB_zero.mpr (sumM_zero (nvL v) (show sumC f (nvL v) = 0 by omega)))
    have b1 := lakN_lt hf 10
    exact ⟨fun _ => hq g sg fg lg, fun y => absurd ((nI_le0 (by omega)).mpr e0) y⟩
  | succ n ih =>
    intro f ld g hs us hf sg kg lg fg hq
    have b1 := lakN_lt hf 10
    by_cases q : nedB f 1 (nvL v) = 0
    · have e : slF v r aim (n + 1) f ld = ld := by unfold slF; rw [if_pos q]
      rw [e] at hq
      exact ⟨fun _ => hq g sg fg lg, fun y => absurd ((nI_le0 (by omega)).mpr ((lak_ned hv).mpr q)) y⟩
    · have e : slF v r aim (n + 1) f ld = slF v r aim n (fBh v (mnA v r (fsB f (nvL v)) 30000 (lqP v r aim 30000 f) (nvC v)) f) (incF ld (mnA v r (fsB f (nvL v)) 30000 (lqP v r aim 30000 f) (nvC v))) := by
        show (if _ then _ else _) = _
        rw [if_neg q]
      rw [e] at hq
      have z := ned_fs q
      have s20 := sumC_20 hv hf
      have e0 : ¬ lakN v f 10 = 0 := fun y => q ((lak_ned hv).mp y)
      obtain ⟨a1, a2, a3, a4, a5⟩ := mnF_arg (nvC v) (least_ok hv (aim := aim) hr us hf q)
      have est := lq_step (v := v) (r := r) (aim := aim) (F := 30000) q s20
      rw [← est, ← lq_FG hv hr us hf] at a4
      have a5' : ∀ c, c < mnA v r (fsB f (nvL v)) 30000 (lqP v r aim 30000 f) (nvC v) → bt (nvMy v r) c = 1 → usN v c (fsB f (nvL v)) ≠ 0 → lq v r aim FR f < lqP v r aim FR f c := fun c c1 c2 c3 => by
        have := a5 c c1 c2 c3
        rw [← est, ← lq_FG hv hr us hf, ← lqP_FG hv hr us hf] at this
        exact this
      rw [← lqP_FG hv hr us hf] at a4
      generalize mnA v r (fsB f (nvL v)) 30000 (lqP v r aim 30000 f) (nvC v) = cs at a1 a2 a3 a4 a5' hq
      have sbs := sumC_bh z.1 z.2 a3
      have lp : ∀ m c g, c + m = cs → MsH v r aim g → KnV g v r aim f → LdV g v r ld → Fr F67 h g → wX10_laysYet_67 Q (wX10_laysYet_61 Q (n + 1)) (bcN (nvMy v r) cs - bcN (nvMy v r) c + 1) 223 (nI aim) (nI (lakN v f 10)) (nI (bcN (nvMy v r) c)) g := by
        intro m
        induction m with
        | zero =>
          intro c g hm sg kg lg fg
          have hm : c = cs := by omega
          subst hm
          rw [Nat.sub_self]
          have hlt := bcN_lt a1 a2
          have uc := (us_cases hv a1 z.1).1
          refine ⟨S_223 sg.1, m_firstLack sg.1 hv sg.2.2.2.1 hf q ⟨S_223 sg.1, m_useOf sg.1 hv sg.2.2.1 a1 a2 z.1 ⟨fun y => absurd ((nI_eq0 (by omega)).mp y) a3, fun _ => ⟨S_223 sg.1, m_lackWith sg.1 hv sg.2.1 sg.2.2.1 a1 a2 sg.2.2.2.1 hf ⟨S_223 sg.1, ?_⟩⟩⟩⟩⟩
          refine m_least hv hr haim 20 300 (fBh v c f) g _ (by omega) (by omega) (fBh_2 hf) sg (fun g2 f2 s2 kc kk => ⟨S_223 s2.1, m_pz s2.1 hv haim s2.2.2.1 a1 a2 ?_⟩)
          have kf := kk f hf kg
          have l2 : LdV g2 v r ld := fun x hx bx => by rw [Fr_I f2 (by omega)]; exact lg x hx bx
          have ep : lq v r aim FR (fBh v c f) + pz v r aim c = lqP v r aim FR f c := Nat.add_comm _ _
          have vp : vp_in (nI (bcN (nvMy v r) c)) 64 := vp_in_nI (by omega) (by omega)
          refine ⟨S_223 s2.1, 236, R_223_27 s2.1, 59049, S_236 s2.1, vp_in_nI (by omega) (by omega), fun _ => ⟨237, R_223_28 s2.1, 64, S_237 s2.1, vp, vp, fun g3 e3 => ?_⟩, fun y => ?_⟩
          · rw [nI_clamp (by omega), l2 c a1 a2, nI_add] at e3
            have f3 : Fr F67 g2 g3 := by rw [e3]; exact Fr_sI (Or.inr rfl)
            have r3 : hI g3 236 = hI g2 236 := by rw [e3]; exact hI_sI_row (by omega)
            have s3 : MsH v r aim g3 := MsH_up f3 s2 (by unfold TbV; rw [r3]; exact s2.2.2.2.2)
            refine m_lackWith s3.1 hv s3.2.1 s3.2.2.1 a1 a2 s3.2.2.2.1 hf ?_
            refine ih (fBh v c f) (incF ld c) g3 (by omega) (usF_bh us) (fBh_2 hf) s3 (KnV_row r3 kc) (fun x hx bx => ?_) (Fr_trans fg (Fr_trans (Fr_mono (fun b z => Or.inl z) f2) f3)) hq
            rw [e3, hI_sI]
            by_cases y : x = c
            · rw [if_pos ⟨rfl, by rw [y]⟩]
              unfold incF
              rw [if_pos y, y]
            · rw [if_neg (fun u => y (ring_inj bx a2 u.2))]
              unfold incF
              rw [if_neg y]
              exact l2 x hx bx
          · refine absurd ?_ y
            unfold KnV at kf
            rw [nI_clamp (by omega), kf, nI_add, ep, a4]
        | succ m im =>
          intro c g hm sg kg lg fg
          have eb : bcN (nvMy v r) (c + 1) = bcN (nvMy v r) c + bt (nvMy v r) c := rfl
          have g0 := im (c + 1)
          rcases bt01 (nvMy v r) c with b | b
          · rw [eb, b] at g0
            exact g0 g (by omega) sg kg lg fg
          · have hcc : c < nvC v := by omega
            have hlt := bcN_lt hcc b
            have hlt2 := bcN_lt (show c < cs by omega) b
            have uc := (us_cases hv hcc z.1).1
            rw [eb, b] at g0
            rw [show bcN (nvMy v r) cs - bcN (nvMy v r) c + 1 = (bcN (nvMy v r) cs - (bcN (nvMy v r) c + 1) + 1) + 1 from by omega]
            unfold wX10_laysYet_67
            rw [nI_add]
            refine ⟨S_223 sg.1, m_firstLack sg.1 hv sg.2.2.2.1 hf q ⟨S_223 sg.1, m_useOf sg.1 hv sg.2.2.1 hcc b z.1 ⟨fun _ => g0 g (by omega) sg kg lg fg, fun u => ⟨S_223 sg.1, m_lackWith sg.1 hv sg.2.1 sg.2.2.1 hcc b sg.2.2.2.1 hf ⟨S_223 sg.1, ?_⟩⟩⟩⟩⟩
            replace u : usN v c (fsB f (nvL v)) ≠ 0 := fun y => u ((nI_eq0 (by omega)).mpr y)
            have sb := sumC_bh z.1 z.2 u
            refine m_least hv hr haim 20 300 (fBh v c f) g _ (by omega) (by omega) (fBh_2 hf) sg (fun g2 f2 s2 kc kk => ⟨S_223 s2.1, m_pz s2.1 hv haim s2.2.2.1 hcc b ?_⟩)
            have kf := kk f hf kg
            have l2 : LdV g2 v r ld := fun x hx bx => by rw [Fr_I f2 (by omega)]; exact lg x hx bx
            have ep : lq v r aim FR (fBh v c f) + pz v r aim c = lqP v r aim FR f c := Nat.add_comm _ _
            have lt := a5' c (by omega) b u
            have hp := pz_le hv (aim := aim) (c := c) hr
            have hq2 := lq_le v r aim FR (fBh v c f)
            refine ⟨S_223 s2.1, 236, R_223_27 s2.1, 59049, S_236 s2.1, vp_in_nI (by omega) (by omega), fun y => ?_, fun _ => g0 g2 (by omega) s2 kf l2 (Fr_trans fg (Fr_mono (fun b z => Or.inl z) f2))⟩
            exfalso
            unfold KnV at kf
            rw [nI_clamp (by omega), kf, nI_add, ep] at y
            have := (nI_eq (by omega) (by omega)).mp y
            omega
      have k0 := lp cs 0 g (by omega) sg kg lg fg
      exact ⟨fun y => absurd ((nI_le0 (by omega)).mp y) e0, fun _ => ⟨_, k0⟩⟩
def F678 (b : Nat) : Prop := b = 236 ∨ b = 237 ∨ b = 238
theorem MP_678 {h g : MH} {d : DV} (f : Fr F678 h g) (m : MP h d) : MP g d := MP_cong (Fr_I f (by unfold F678; omega) _) (f.2.2.2.2 _ (by unfold F678; omega)) (f.2.2.2.2 _ (by unfold F678; omega)) (fun b b1 b2 => f.2.2.2.2 _ (by unfold F678; omega)) m
theorem FrM_678 {h g : MH} (f : Fr F678 h g) : FrM h g := FrM_Fr (fun b q => ⟨by unfold SM; unfold F678 at q; omega, by unfold F678 at q; omega⟩) f
theorem m_laysYet {d : DV} {h : MH} {aim : Nat} {Q : Int32 → MH → Prop} (haim : aim < 2) (hl : LX h) (hv : NvOK (dN d)) (ok : AsOK (dN d) (dS d)) (m : MP h d) (k0 : ¬ usF (dN d) (asR (dS d)) (dF d) → ∀ g, FrM h g → MP g d → Q (nI 0) g) (k1 : usF (dN d) (asR (dS d)) (dF d) → ∀ g, FrM h g → MP g d → LdV g (dN d) (asR (dS d)) (dLd d aim) → Q (nI 1) g) : wX10_laysYet 223 (nI aim) h Q := by
  have h4 := hv.1
  have hFR := FR_lt
  have hFG := FR_ge
  have hC := bcN_le (nvMy (dN d) (asR (dS d))) (nvC (dN d))
  have hr := ok.1
  have lp2 : ∀ n k g, k + n = 64 → Fr F678 h g → (∀ j, j < 59049 → hI g 236 j = -1) → (∀ j, j < k → hI g 237 j = nI 0) → wX10_laysYet_23 Q (n + 1) 223 (nI aim) (nI k) g := by
    intro n
    induction n with
    | zero =>
      intro k g hn fg t1 t2
      have hn : k = 64 := by omega
      subst hn
      have hlg := LX_Fr fg hl
      have mg := MP_678 fg m
      refine ⟨fun _ => ⟨S_223 hlg, m_lackNow hlg hv mg.2.1 mg.2.2.1 (CpM_of (by omega) ok mg.2.2.2.1) (cp9 hv ok) (fun g2 f2 p3 => ⟨S_223 (LX_Fr f2 hlg), ?_⟩)⟩, fun y => absurd (nI_le (Nat.le_refl _) (by omega)) y⟩
      have fg2 : Fr F678 h g2 := Fr_trans fg (Fr_mono (fun b z => by unfold F678; omega) f2)
      have m2 := MP_678 fg2 m
      have s2 : MsH (dN d) (asR (dS d)) aim g2 := ⟨LX_Fr f2 hlg, m2.2.1, m2.2.2.1, p3, fun f hf => Or.inl (by rw [Fr_I f2 (by omega)]; exact t1 _ (lakN_lt hf 10))⟩
      refine m_least hv hr haim 20 300 (dF d) g2 _ (sumC_20 hv (dF_2 hv)) (by omega) (dF_2 hv) s2 (fun g3 f3 s3 kc kk => ?_)
      have fg3 : Fr F678 h g3 := Fr_trans fg2 (Fr_mono (fun b z => Or.inl z) f3)
      rw [FR_i]
      by_cases us : usF (dN d) (asR (dS d)) (dF d)
      · have bd := lqF_bd hv (aim := aim) (F := FR) hr 20 (dF d) (sumC_20 hv (dF_2 hv)) us
        have s20 := sumC_20 hv (dF_2 (d := d) hv)
        have bd : lq (dN d) (asR (dS d)) aim FR (dF d) ≤ 990 * sumC (dF d) (nvL (dN d)) := bd
        refine ⟨fun _ => ⟨21, m_lays61 (h := g3) hv hr haim 20 (dF d) (fun _ => 0) g3 s20 us (dF_2 hv) s3 kc (fun c hc hb => ?_) (Fr_rfl _ _) (fun g4 s4 f4 l4 => ?_)⟩, fun y => ?_⟩
        · have := bcN_lt hc hb
          rw [Fr_I f3 (by omega), Fr_I f2 (by omega)]
          exact t2 _ (by omega)
        · have fg4 : Fr F678 h g4 := Fr_trans fg3 (Fr_mono (fun b z => by unfold F67 at z; unfold F678; omega) f4)
          exact k1 us g4 (FrM_678 fg4) (MP_678 fg4 m) l4
        · have := (nI_eq (by omega) (by omega)).mp y
          omega
      · have nu : ∃ l, l < nvL (dN d) ∧ dF d l ≠ 0 ∧ ∀ c, c < nvC (dN d) → bt (nvMy (dN d) (asR (dS d))) c = 1 → usN (dN d) c l = 0 := by
          refine Decidable.byContradiction (fun y => us (fun l hl hf => ?_))
          refine Decidable.byContradiction (fun x => y ⟨l, hl, hf, fun c hc hb => ?_⟩)
          refine Decidable.byContradiction (fun w => x ⟨c, hc, hb, w⟩)
        obtain ⟨l, l1, l2, l3⟩ := nu
        have e : lq (dN d) (asR (dS d)) aim FR (dF d) = FR := lqF_far l1 l3 20 (dF d) (sumC_20 hv (dF_2 hv)) l2
        rw [e]
        exact ⟨fun y => absurd rfl y, fun _ => k0 us g3 (FrM_678 fg3) (MP_678 fg3 m)⟩
    | succ n ih =>
      intro k g hn fg t1 t2
      have hlg := LX_Fr fg hl
      unfold wX10_laysYet_23
      refine ⟨fun y => absurd y (nI_ge (by omega) (by omega)), fun _ => ⟨S_223 hlg, 237, R_223_28 hlg, 64, S_237 hlg, vp_in_nI (by omega) (by omega), fun g2 e2 => ?_⟩⟩
      rw [nI_clamp (by omega)] at e2
      rw [nI_add]
      refine ih (k + 1) g2 (by omega) (Fr_trans fg (by rw [e2]; exact Fr_sI (Or.inr (Or.inl rfl)))) (fun j hj => by rw [e2, hI_sI, if_neg (by omega)]; exact t1 j hj) (fun j hj => ?_)
      rw [e2, hI_sI]
      by_cases y : j = k
      · rw [if_pos ⟨rfl, y⟩]
      · rw [if_neg (fun u => y u.2)]
        exact t2 j (by omega)
  have lp1 : ∀ n k g, k + n = 59049 → Fr F678 h g → (∀ j, j < k → hI g 236 j = -1) → wX10_laysYet_2 Q (n + 1) 223 (nI aim) (nI k) g := by
    intro n
    induction n with
    | zero =>
      intro k g hn fg t1
      have hn : k = 59049 := by omega
      subst hn
      exact ⟨fun _ => ⟨_, lp2 64 0 g (by omega) fg t1 (fun j hj => absurd hj (by omega))⟩, fun y => absurd (by decide) y⟩
    | succ n ih =>
      intro k g hn fg t1
      have hlg := LX_Fr fg hl
      unfold wX10_laysYet_2
      refine ⟨fun y => absurd (show nI 59049 ≤ nI k from y) (nI_ge (by omega) (by omega)), fun _ => ⟨S_223 hlg, 236, R_223_27 hlg, 59049, S_236 hlg, vp_in_nI (by omega) (by omega), fun g2 e2 => ?_⟩⟩
      rw [nI_clamp (by omega)] at e2
      rw [nI_add]
      refine ih (k + 1) g2 (by omega) (Fr_trans fg (by rw [e2]; exact Fr_sI (Or.inl rfl))) (fun j hj => ?_)
      rw [e2, hI_sI]
      by_cases y : j = k
      · rw [if_pos ⟨rfl, y⟩]
      · rw [if_neg (fun u => y u.2)]
        exact t1 j (by omega)
  exact ⟨_, lp1 59049 0 h (by omega) (Fr_rfl _ _) (fun j hj => absurd hj (by omega))⟩
