/-! Part a5: the class's least price. -/
def MmF (w : Nat) (h g : MH) : Prop := hN g = hN h ∧ hS g = hS h ∧ hI g = hI h ∧ hR g = hR h ∧ ∀ b, b ≠ w → hL g b = hL h b
theorem MmF_rfl (w : Nat) (h : MH) : MmF w h h := ⟨rfl, rfl, rfl, rfl, fun _ _ => rfl⟩
theorem MmF_trans {w : Nat} {h g k : MH} (p : MmF w h g) (q : MmF w g k) : MmF w h k := ⟨q.1.trans p.1, q.2.1.trans p.2.1, q.2.2.1.trans p.2.2.1, q.2.2.2.1.trans p.2.2.2.1, fun b hb => (q.2.2.2.2 b hb).trans (p.2.2.2.2 b hb)⟩
/-- the covers' object while it solves -/
def SvH (v : NV) (r w age : Nat) (h : MH) : Prop := LX h ∧ CvR h v r ∧ hL h 199 8 = lN age ∧ hR h 199 7 = some w ∧ (244 ≤ w ∧ hS h w = (3, 2048)) ∧ (∀ k, k < 2048 → (hL h w k).toBitVec.toNat / 2 ^ 37 ≤ age) ∧ MemV lpC h w age v r
theorem LX_MmF {w : Nat} {h g : MH} (f : MmF w h g) (hl : LX h) : LX g := by
  unfold LX
  rw [f.1, f.2.1, f.2.2.2.1]
  exact hl
theorem SvH_put {v : NV} {r w age k n x : Nat} {h : MH} (s : SvH v r w age h) (hk : k < 2048) (hn : n < 2 ^ 21) (hx : x < 2 ^ 16) (hage : age < 2 ^ 20) (e : x = lpC v r n) : SvH v r w age (sL h w k (lN ((age * 2 ^ 21 + n) * 2 ^ 16 + x))) := by
  obtain ⟨s1, s2, s3, s4, s5, s6, s7⟩ := s
  have tn : (lN ((age * 2 ^ 21 + n) * 2 ^ 16 + x)).toBitVec.toNat = (age * 2 ^ 21 + n) * 2 ^ 16 + x := lN_toNat (by omega)
  refine ⟨LX_sL s1, s2, by rw [hL_sL, if_neg (by omega)]; exact s3, s4, s5, fun j hj => ?_, fun j hj m hm q => ?_⟩
  · rw [hL_sL]
    by_cases z : w = w ∧ j = k
    · rw [if_pos z, tn]
      omega
    · rw [if_neg z]
      exact s6 j hj
  · rw [hL_sL] at q ⊢
    by_cases z : w = w ∧ j = k
    · rw [if_pos z, tn] at q ⊢
      have : m = n := by omega
      rw [this, ← e]
      omega
    · rw [if_neg z] at q ⊢
      exact s7 j hj m hm q
theorem n_paidOf {v : NV} {r w age aim c d d2 dep : Nat} {f : Nat → Nat} {h : MH} {Q : Int32 → MH → Prop} (hv : NvOK v) (haim : aim < 2) (hd : 2 ≤ d) (hd2 : d2 < d) (hc : c < nvC v) (hb : bt (nvMy v r) c = 1) (hf : ∀ l, l < nvL v → f l ≤ 2) (s : SvH v r w age h) (hleast : Cm MX0_leastPrice d2 0 0 [.ref 199, .int (nI (nedB (fBh v c f) 1 (nvL v))), .int (nI (nedB (fBh v c f) 2 (nvL v))), .int (nI aim), .int (nI (dep + 1))] h (pI fun r8 h9 => Q (nI (pz v r aim c) + r8) h9)) : Cm MX0_paidFrom d 0 0 [.ref 199, .int (nI (bcN (nvMy v r) c)), .int (nI (nedB f 1 (nvL v))), .int (nI (nedB f 2 (nvL v))), .int (nI aim), .int (nI dep)] h (pI Q) := by
  have h4 := hv.1
  have b1 := bcN_lt hc hb
  have b2 := bcN_le (nvMy v r) (nvC v)
  have hl := s.1
  have p := s.2.1
  have last : ∀ s0, s0 = nI (pz v r aim c) → wX0_paidFrom_24 Q (fun y0 y1 y2 y3 y4 h Q => Cm MX0_leastPrice d2 0 0 [.ref y0, .int y1, .int y2, .int y3, .int y4] h (pI Q)) 199 (nI (bcN (nvMy v r) c)) (nI (nedB f 2 (nvL v))) (nI aim) (nI dep) (nI (nedB (fBh v c f) 1 (nvL v))) s0 h := by
    intro s0 e
    rw [e]
    refine ⟨S_199 hl, n_twiceBehind hl hv p hc hb hf ⟨S_199 hl, ?_⟩⟩
    rw [nI_add]
    exact hleast
  refine gX0_paidFrom (PX0_leastPrice := fun y0 y1 y2 y3 y4 h Q => Cm MX0_leastPrice d2 0 0 [.ref y0, .int y1, .int y2, .int y3, .int y4] h (pI Q)) hd hd2 (fun _ _ _ _ _ _ _ q => q) _ _ _ _ _ _ h Q ⟨S_199 hl, n_onceBehind hl hv p hc hb hf ⟨fun z => last _ ?_, fun z => ⟨S_199 hl, 202, R_199_5 hl, 40, S_202 hl, vp_in_nI (by omega) (by omega), last _ ?_⟩⟩⟩
  · unfold pz
    rw [if_neg (fun y => z ((nI_eq0 (by omega)).mpr y))]
  · unfold pz
    rw [if_pos ((nI_eq0 (by omega)).mp z), nI_clamp (by omega)]
    exact (p.2.2 c hc hb).2.2
theorem n_least {v : NV} {r w age aim : Nat} (hv : NvOK v) (hr : r < 10) (haim : aim < 2) (hage : age < 2 ^ 20) : ∀ n d f dep h (Q : Int32 → MH → Prop), sumC f (nvL v) ≤ n → n + dep ≤ 20 → 2 * n + 4 ≤ d → (∀ l, l < nvL v → f l ≤ 2) → SvH v r w age h → (∀ g, MmF w h g → SvH v r w age g → Q (nI (lq v r aim 30000 f)) g) → Cm MX0_leastPrice d 0 0 [.ref 199, .int (nI (nedB f 1 (nvL v))), .int (nI (nedB f 2 (nvL v))), .int (nI aim), .int (nI dep)] h (pI Q) := by
  have h4 := hv.1
  have hC := bcN_le (nvMy v r) (nvC v)
  have none : ∀ d f dep h (Q : Int32 → MH → Prop), 4 ≤ d → nedB f 1 (nvL v) = 0 → SvH v r w age h → (∀ g, MmF w h g → SvH v r w age g → Q (nI (lq v r aim 30000 f)) g) → Cm MX0_leastPrice d 0 0 [.ref 199, .int (nI (nedB f 1 (nvL v))), .int (nI (nedB f 2 (nvL v))), .int (nI aim), .int (nI dep)] h (pI Q) := by
    intro d f dep h Q hd q s hq
    have k := hq h (MmF_rfl _ _) s
    rw [lq_zero q] at k
    refine gX0_leastPrice (PX0_paidFrom := fun _ _ _ _ _ _ _ _ => False) (d2 := 0) (by omega) (by omega) (fun _ _ _ _ _ _ _ _ q => q.elim) _ _ _ _ _ h Q ⟨fun z => absurd ((nI_eq0 (by omega)).mpr q) z, fun _ => k⟩
  intro n
  induction n with
  | zero =>
    intro d f dep h Q hs _ hd hf s hq
    exact none d f dep h Q (by omega) (nedB_zero.mpr (sumM_zero (nvL v) (by omega))) s hq
  | succ n ih =>
    intro d f dep h Q hs hdep hd hf s hq
    by_cases q : nedB f 1 (nvL v) = 0
    · exact none d f dep h Q (by omega) q s hq
    have z := ned_fs q
    have g1 := lt_of_pow (nedB_lt f 1 (nvL v)) (by omega)
    have g2 := lt_of_pow (nedB_lt f 2 (nvL v)) (by omega)
    have est := lq_step (v := v) (r := r) (aim := aim) (F := 30000) q (sumC_20 hv hf)
    have tl := tgN_lt (f := f) hv haim
    have tg := lpC_tg (r := r) hv haim hf
    have far := lq_le v r aim 30000 f
    have lp : ∀ k, k < 2048 → ∀ m c g, c + m = nvC v → MmF w h g → SvH v r w age g → wX0_leastPrice_104 Q (fun y0 y1 y2 y3 y4 y5 h Q => Cm MX0_paidFrom (d - 1) 0 0 [.ref y0, .int y1, .int y2, .int y3, .int y4, .int y5] h (pI Q)) (bcN (nvMy v r) (nvC v) - bcN (nvMy v r) c + 1) 199 (nI (nedB f 1 (nvL v))) (nI (nedB f 2 (nvL v))) (nI aim) (nI dep) (nI k) (lN (age * 2 ^ 21 + tgN v f aim)) (nI (2 ^ fsB f (nvL v))) (nI (mnF v r (fsB f (nvL v)) 30000 (lqP v r aim 30000 f) c)) (nI (bcN (nvMy v r) c)) g := by
      intro k hk m
      induction m with
      | zero =>
        intro c g hm mf sg
        have hm : c = nvC v := by omega
        subst hm
        rw [Nat.sub_self]
        unfold wX0_leastPrice_104
        rw [sg.2.1.1, ← est]
        refine ⟨S_199 sg.1, fun _ => ⟨w, sg.2.2.2.1, 2048, sg.2.2.2.2.1.2, fun y => absurd y (nI_ge hk (by omega)), fun _ => ⟨vp_in_nI (by omega) (by omega), fun h15 e15 => ?_⟩⟩, fun y => absurd (nI_le (Nat.le_refl _) (by omega)) y⟩
        rw [nI_clamp (by omega), nI_lN (show lq v r aim 30000 f < 2 ^ 31 by omega), lN_shlor (k := 16) (by omega) (by omega) (by omega) (by omega) (by omega)] at e15
        have s15 := SvH_put sg hk tl (show lq v r aim 30000 f < 2 ^ 16 by omega) hage tg.symm
        rw [← e15] at s15
        refine hq h15 (MmF_trans mf ?_) s15
        rw [e15]
        exact ⟨rfl, rfl, rfl, rfl, fun b hb => funext (fun j => by rw [hL_sL, if_neg (fun y => hb y.1)])⟩
      | succ m im =>
        intro c g hm mf sg
        have eb : bcN (nvMy v r) (c + 1) = bcN (nvMy v r) c + bt (nvMy v r) c := rfl
        have em : mnF v r (fsB f (nvL v)) 30000 (lqP v r aim 30000 f) (c + 1) = if bt (nvMy v r) c = 1 ∧ usN v c (fsB f (nvL v)) ≠ 0 ∧ lqP v r aim 30000 f c < mnF v r (fsB f (nvL v)) 30000 (lqP v r aim 30000 f) c then lqP v r aim 30000 f c else mnF v r (fsB f (nvL v)) 30000 (lqP v r aim 30000 f) c := rfl
        have g0 := im (c + 1)
        rcases bt01 (nvMy v r) c with b | b
        · rw [em, if_neg (fun y => by omega), eb, b] at g0
          exact g0 g (by omega) mf sg
        · have hcc : c < nvC v := by omega
          have hlt := bcN_lt hcc b
          rw [eb, b] at g0
          rw [show bcN (nvMy v r) (nvC v) - bcN (nvMy v r) c + 1 = (bcN (nvMy v r) (nvC v) - (bcN (nvMy v r) c + 1) + 1) + 1 from by omega]
          have cr := sg.2.1.2.2 c hcc b
          unfold wX0_leastPrice_104
          rw [sg.2.1.1, nI_add, nI_clamp (show bcN (nvMy v r) c < 2 ^ 31 by omega)]
          refine ⟨S_199 sg.1, fun y => absurd y (nI_ge hlt (by omega)), fun _ => ⟨200, R_199_3 sg.1, 40, S_200 sg.1, vp_in_nI (by omega) (by omega), 201, R_199_4 sg.1, 40, S_201 sg.1, vp_in_nI (by omega) (by omega), ?_⟩⟩
          rw [cr.1, cr.2.1, has_link hv hcc z.1]
          refine ⟨fun u => ?_, fun u => ?_⟩
          · rw [em, if_neg (fun y => y.2.1 u)] at g0
            exact g0 g (by omega) mf sg
          · have sb := sumC_bh z.1 z.2 u
            refine n_paidOf hv haim (by omega) (show d - 2 < d - 1 by omega) hcc b hf sg (ih (d - 2) (fBh v c f) (dep + 1) g _ (by omega) (by omega) (by omega) (fBh_2 hf) sg (fun g2 mf2 s2 => ?_))
            have hp := pz_le hv (aim := aim) (c := c) hr
            have hq2 := lq_le v r aim 30000 (fBh v c f)
            have hm2 := mnF_le (v := v) (r := r) (l := fsB f (nvL v)) (F := 30000) (p := lqP v r aim 30000 f) c
            have g3 := g0 g2 (by omega) (MmF_trans mf mf2) s2
            have ep : pz v r aim c + lq v r aim 30000 (fBh v c f) = lqP v r aim 30000 f c := rfl
            rw [nI_add, ep]
            by_cases y : lqP v r aim 30000 f c < mnF v r (fsB f (nvL v)) 30000 (lqP v r aim 30000 f) c
            · rw [em, if_pos ⟨b, u, y⟩] at g3
              rw [if_pos (nI_lt y (by omega))]
              exact g3
            · rw [em, if_neg (fun x => y x.2.2)] at g3
              rw [if_neg (nI_nlt (by omega) (by omega))]
              exact g3
    obtain ⟨s1, s2, s3, s4, s5, s6, s7⟩ := id s
    refine gX0_leastPrice (PX0_paidFrom := fun y0 y1 y2 y3 y4 y5 h Q => Cm MX0_paidFrom (d - 1) 0 0 [.ref y0, .int y1, .int y2, .int y3, .int y4, .int y5] h (pI Q)) (d2 := d - 1) (by omega) (by omega) (fun _ _ _ _ _ _ _ _ q => q) _ _ _ _ _ h Q ⟨fun _ => ⟨fun _ => ?_, fun y => absurd (nI_le (by omega) (by omega)) y⟩, fun y => absurd ((nI_eq0 (by omega)).mp y) q⟩
    intro v1 e1 v2 e2
    rw [need_nI g1 g2] at e1
    obtain ⟨k, hk, ek⟩ := slot_ex (v1 * (-1640531535 : Int32))
    rw [ek] at e2
    refine ⟨S_199 s1, fun v4 e4 => ?_⟩
    have et : (nedB f 1 (nvL v) * 1024 + nedB f 2 (nvL v)) * 2 + aim = tgN v f aim := rfl
    rw [s3, e1, et, nI_lN (show tgN v f aim < 2 ^ 31 by omega), lN_shlor (k := 21) (by omega) (by omega) (by omega) (by omega) (by omega)] at e4
    subst e2
    subst e4
    have miss : wX0_leastPrice_90 Q (fun y0 y1 y2 y3 y4 y5 h Q => Cm MX0_paidFrom (d - 1) 0 0 [.ref y0, .int y1, .int y2, .int y3, .int y4, .int y5] h (pI Q)) 199 (nI (nedB f 1 (nvL v))) (nI (nedB f 2 (nvL v))) (nI aim) (nI dep) (nI k) (lN (age * 2 ^ 21 + tgN v f aim)) h := by
      have k0 := lp k hk (nvC v) 0 h (by omega) (MmF_rfl _ _) s
      unfold wX0_leastPrice_90
      rw [low_ned hv q]
      exact ⟨_, k0⟩
    refine ⟨w, s4, 2048, s5.2, fun y => absurd y (nI_ge hk (by omega)), fun _ => ⟨vp_in_nI (by omega) (by omega), fun _ => miss, fun y => ⟨vp_in_nI (by omega) (by omega), ?_⟩⟩⟩
    rw [nI_clamp (by omega), tag_eq (by omega)] at y
    rw [nI_clamp (by omega), price_of, s7 k hk _ tl y, tg]
    exact hq h (MmF_rfl _ _) s
