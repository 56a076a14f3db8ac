/-! Part a7: solve. -/
theorem wuN_bt {v : NV} {r l : Nat} : ∀ n, bt (wuN v r n) l = 1 ↔ ∃ c, c < n ∧ bt (nvMy v r) c = 1 ∧ usN v c l ≠ 0
  | 0 => by
    constructor
    · intro h
      rw [show wuN v r 0 = 0 from rfl, show bt 0 l = 0 from by unfold bt; rw [Nat.zero_div]] at h
      omega
    · rintro ⟨c, hc, _⟩
      omega
  | n + 1 => by
    have ih := wuN_bt (v := v) (r := r) (l := l) n
    have ew : wuN v r (n + 1) = if bt (nvMy v r) n = 1 then wuN v r n ||| (nvOn v n ||| nvCh v n) else wuN v r n := rfl
    have eu : (bt (nvOn v n ||| nvCh v n) l = 1) ↔ usN v n l ≠ 0 := by
      rw [bt_orN]
      unfold usN
      rcases bt01 (nvOn v n) l with a | a <;> rcases bt01 (nvCh v n) l with b | b <;> rw [a, b] <;> simp
    rw [ew]
    by_cases q : bt (nvMy v r) n = 1
    · rw [if_pos q, bt_orN]
      constructor
      · intro h
        by_cases x : bt (wuN v r n) l = 1
        · obtain ⟨c, c1, c2⟩ := ih.mp x
          exact ⟨c, by omega, c2⟩
        · by_cases y : bt (nvOn v n ||| nvCh v n) l = 1
          · exact ⟨n, by omega, q, eu.mp y⟩
          · rw [if_neg (fun z => z.elim x y)] at h
            omega
      · rintro ⟨c, c1, c2, c3⟩
        by_cases e : c = n
        · rw [e] at c3
          rw [if_pos (Or.inr (eu.mpr c3))]
        · rw [if_pos (Or.inl (ih.mpr ⟨c, by omega, c2, c3⟩))]
    · rw [if_neg q]
      constructor
      · intro h
        obtain ⟨c, c1, c2⟩ := ih.mp h
        exact ⟨c, by omega, c2⟩
      · rintro ⟨c, c1, c2, c3⟩
        by_cases e : c = n
        · rw [e] at c2; exact absurd c2 q
        · exact ih.mpr ⟨c, by omega, c2, c3⟩
theorem us_wu {v : NV} {r : Nat} {f : Nat → Nat} : (nedB f 1 (nvL v) &&& wuN v r (nvC v)) = nedB f 1 (nvL v) ↔ usF v r f := by
  constructor
  · intro h l hl hf
    have b1 : (nedB f 1 (nvL v)).testBit l = true := by rw [nedB_tb]; exact decide_eq_true ⟨hl, by omega⟩
    rw [← h, Nat.testBit_and, Bool.and_eq_true] at b1
    exact (wuN_bt (nvC v)).mp ((bt_tb _ _).mpr b1.2)
  · intro h
    apply Nat.eq_of_testBit_eq
    intro i
    rw [Nat.testBit_and]
    cases e : (nedB f 1 (nvL v)).testBit i with
    | false => rfl
    | true =>
      rw [nedB_tb] at e
      have := of_decide_eq_true e
      rw [(bt_tb _ _).mp ((wuN_bt (nvC v)).mpr (h i this.1 (by omega)))]
      rfl
theorem lpC_fun {h : MH} {a r : Nat} {v u : NV} (hr : r < 10) (p : NetV h a v) (q : NetV h a u) (n : Nat) : lpC v r n = lpC u r n := by
  obtain ⟨e1, e2, e3, e4, e5, _⟩ := NetV_fun p q
  unfold lpC lq
  exact lqF_congv e1 e2 (e3 r hr) e4 (fun c hc => e5 r c hr hc) 20 _
theorem lpC_0 (v : NV) (r : Nat) : lpC v r 0 = 0 := by
  unfold lpC
  refine lq_zero (nedB_zero.mpr (fun l _ => ?_))
  show bt (0 / 2048) l + bt (0 / 2 % 1024) l = 0
  unfold bt
  simp
theorem n_solve75 {v : NV} {r w age aim b t : Nat} {h : MH} {Q : Int32 → MH → Prop} {f : Nat → Nat} (hv : NvOK v) (hr : r < 10) (haim : aim < 2) (hage : age < 2 ^ 20) (us : usF v r f) (hf : ∀ l, l < nvL v → f l ≤ 2) (hq : ∀ g, SvH v r w age g → ChV g v r (slF v r aim 20 f (fun _ => 0)) → SlF w h g → (∀ c, slF v r aim 20 f (fun _ => 0) c ≤ 20) → Q (nI 1) g) : ∀ n c g, c + n = nvC v → SvH v r w age g → SlF w h g → hI g 199 10 = nI 0 → hI g 199 11 = nI 0 → (∀ k, k < c → bt (nvMy v r) k = 1 → hI g 204 (bcN (nvMy v r) k) = nI 0) → wX0_solve_75 Q (bcN (nvMy v r) (nvC v) - bcN (nvMy v r) c + 1) b t 199 (nI aim) (nI (nedB f 1 (nvL v))) (nI (nedB f 2 (nvL v))) (nI (bcN (nvMy v r) c)) g := by
  have h4 := hv.1
  have hC := bcN_le (nvMy v r) (nvC v)
  intro n
  induction n with
  | zero =>
    intro c g hn sg fg i10 i11 rows
    have hn : c = nvC v := by omega
    subst hn
    rw [Nat.sub_self]
    unfold wX0_solve_75
    rw [sg.2.1.1]
    refine ⟨S_199 sg.1, fun _ => ⟨21, n_solve101 hv hr haim hage 20 f 0 (fun _ => 0) g (sumC_20 hv hf) (by omega) us hf sg ⟨by rw [sLd_0]; exact i10, by rw [sLd_0]; exact i11, rows⟩ fg (fun _ => Nat.le_refl _) hq⟩, fun y => absurd (nI_le (Nat.le_refl _) (by omega)) y⟩
  | succ n ih =>
    intro c g hn sg fg i10 i11 rows
    have eb : bcN (nvMy v r) (c + 1) = bcN (nvMy v r) c + bt (nvMy v r) c := rfl
    have g0 := ih (c + 1)
    rcases bt01 (nvMy v r) c with b | b
    · rw [eb, b] at g0
      exact g0 g (by omega) sg fg i10 i11 (fun k hk bk => rows k (by
        by_cases q : k = c
        · rw [q] at bk; omega
        · omega) bk)
    · have hcc : c < nvC v := by omega
      have hlt := bcN_lt hcc b
      rw [eb, b] at g0
      rw [show bcN (nvMy v r) (nvC v) - bcN (nvMy v r) c + 1 = (bcN (nvMy v r) (nvC v) - (bcN (nvMy v r) c + 1) + 1) + 1 from by omega]
      unfold wX0_solve_75
      rw [sg.2.1.1, nI_add]
      refine ⟨S_199 sg.1, fun y => absurd y (nI_ge hlt (by omega)), fun _ => ⟨204, R_199_9 sg.1, 40, S_204 sg.1, vp_in_nI (by omega) (by omega), fun g2 e2 => ?_⟩⟩
      rw [nI_clamp (by omega)] at e2
      refine g0 g2 (by omega) (by rw [e2]; exact SvH_204 sg) (SlF_trans fg (by rw [e2]; exact SlF_204)) (by rw [e2, hI_sI, if_neg (by omega)]; exact i10) (by rw [e2, hI_sI, if_neg (by omega)]; exact i11) (fun k hk bk => ?_)
      rw [e2, hI_sI]
      by_cases y : k = c
      · rw [if_pos ⟨rfl, by rw [y]⟩]
      · rw [if_neg (fun u => y (ring_inj bk b u.2))]
        exact rows k (by omega) bk
/-- all else stands behind solve -/
theorem jb_sv {lp : NV → Nat → Nat → Nat} {A B : Nat} {h g : MH} {d : DV} (j : JB lp A d h) (eN : hN h ≤ hN g) (eS : ∀ b, b < hN h → hS g b = hS h b) (eR : ∀ b k, ¬ (b = 199 ∧ k = 7) → hR g b k = hR h b k) (eL : ∀ b, b < hN h → hS h b ≠ (3, 2048) → hL g b = hL h b) (eI : ∀ b, b ≠ 199 → b ≠ 204 → hI g b = hI h b) (cv : CVA lp B g) : JB lp B d g := by
  obtain ⟨hl, ⟨t1, t2⟩, c, m⟩ := j
  have h0 := hl.1
  have q : NetEq h g := ⟨eN, fun b hb => by
    unfold NA at hb
    refine ⟨eS b (by omega), eI b (by omega) (by omega), funext (fun k => eR b k (by omega)), fun z => eL b (by omega) (by rw [z]; decide)⟩⟩
  have lxg : LX g := ⟨by omega, fun p hp => by rw [eS _ (by have := tabS_lt p hp; omega)]; exact hl.2.1 p hp, fun p hp => by rw [eR _ _ (tabR_199_7 p hp)]; exact hl.2.2 p hp⟩
  refine ⟨lxg, ⟨TP_cong (eI _ (by omega) (by omega)) (eI _ (by omega) (by omega)) (eI _ (by omega) (by omega)) (by rw [eI _ (by omega) (by omega)]) (by rw [eI _ (by omega) (by omega)]) (by rw [eI _ (by omega) (by omega)]) t1, ?_⟩, ?_, MP_cong (by rw [eI _ (by omega) (by omega)]) (eI _ (by omega) (by omega)) (eI _ (by omega) (by omega)) (fun b b1 b2 => eI b (by omega) (by omega)) m⟩
  · intro t ht
    have y := t2 t ht
    unfold TY1 at *
    rw [eI (207 + 2 * t) (by omega) (by omega), eI 241 (by omega) (by omega), eI 242 (by omega) (by omega)]
    rcases y with y | ⟨s, m0, y1, y2, y3, y4, y5, y6, y7⟩
    · exact Or.inl y
    · refine Or.inr ⟨s, m0, y1, y2, y3, y4, y5, y6, fun k hk => ?_⟩
      rw [eL (208 + 2 * t) (by omega) (by rw [(tr_S hl ht).2.1]; decide), eL 243 (by omega) (by rw [S_243 hl]; decide)]
      exact y7 k hk
  · obtain ⟨⟨a, ca, cn⟩, cs, ⟨p, ch⟩, ci, cb, _⟩ := c
    refine ⟨⟨a, by rw [eR _ _ (by omega)]; exact ca, NetV_keep q cn⟩, StV_row (eI _ (by omega) (by omega)) (eI _ (by omega) (by omega)) (eI _ (by omega) (by omega)) cs, ⟨p, HiV_row (fun b b1 b2 => eI b (by omega) (by omega)) ch⟩, fun t ht => ImC_cong ht q (eR _ _ (by omega)) (fun b b1 b2 => eI b (by omega) (by omega)) (ci t ht), fun k hk => ?_, cv⟩
    rw [eI 198 (by omega) (by omega)]
    exact cb k hk
def dF (d : DV) : Nat → Nat := lkC (dN d) (asC (dS d))
theorem dF_2 {d : DV} (hv : NvOK (dN d)) : ∀ l, l < nvL (dN d) → dF d l ≤ 2 := fun l hl => by
  have := (hv.2.1 l hl).2.2.2.2
  unfold dF lkC
  omega
def dLd (d : DV) (aim : Nat) : Nat → Nat := slF (dN d) (asR (dS d)) aim 20 (dF d) (fun _ => 0)
theorem n_solve {A a aim : Nat} {d : DV} {h : MH} {Q : Int32 → MH → Prop} (hz : Zh h) (hA : A + 1 < 2 ^ 20) (haim : aim < 2) (j : JB lpC A d h) (ok : DOK d) (ca : hR h 128 1 = some a) (k0 : ¬ usF (dN d) (asR (dS d)) (dF d) → ∀ g, JB lpC (A + 1) d g → (∀ b, 204 < b → hI g b = hI h b) → Q (nI 0) g) (k1 : usF (dN d) (asR (dS d)) (dF d) → ∀ g, JB lpC (A + 1) d g → (∀ b, 204 < b → hI g b = hI h b) → CvR g (dN d) (asR (dS d)) → ChV g (dN d) (asR (dS d)) (dLd d aim) → (∀ c, dLd d aim c ≤ 20) → Q (nI 1) g) : wX0_solve 1 2048 199 a 146 (nI aim) h Q := by
  have cn := JB_net j ca
  obtain ⟨hl, ⟨t1, t2⟩, c, m⟩ := id j
  have cs := c.2.1
  have cv := c.2.2.2.2.2
  have hv := cn.1
  have h4 := hv.1
  have hr := ok.1.1
  refine ⟨S_146 hl, S_199 hl, ?_⟩
  rw [show hI h 146 0 = nI (asR (dS d)) from cs.1]
  refine n_lookAt hl cv (by omega) cn hr (fun g f cg ag ig cr => ?_)
  have jg : JB lpC (A + 1) d g := lk_at hl t1 t2 c m f cg
  have cag : hR g 128 1 = some a := by rw [f.2.2.1 _ _ (by omega)]; exact ca
  have cng := JB_net jg cag
  have csg := jg.2.2.1.2.1
  have c9 := cp9 hv ok.1
  have g1 := lt_of_pow (nedB_lt (dF d) 1 (nvL (dN d))) (by omega)
  have wl := lt_of_pow (wuN_lt hv (asR (dS d)) (nvC (dN d)) (Nat.le_refl _)) (by omega)
  refine ⟨S_199 jg.1, a, ag, cng.2.1, n_lacking jg.1 cng (by decide) csg c9 (by omega) (by omega) ⟨S_199 jg.1, a, ag, cng.2.1, n_lacking jg.1 cng (by decide) csg c9 (by omega) (by omega) ⟨S_199 jg.1, ?_⟩⟩⟩
  rw [lacB_ned, lacB_ned, cr.2.1]
  show ((nI (nedB (dF d) 1 (nvL (dN d))) &&& (nI (wuN (dN d) (asR (dS d)) (nvC (dN d))) ^^^ (-1 : Int32))) = 0 → _) ∧ (¬ ((nI (nedB (dF d) 1 (nvL (dN d))) &&& (nI (wuN (dN d) (asR (dS d)) (nvC (dN d))) ^^^ (-1 : Int32))) = 0) → _)
  rw [nI_sub0 (by omega) (by omega), us_wu]
  refine ⟨fun us => ?_, fun nu => k0 nu g jg (fun b hb => f.2.2.2.2 b (by omega))⟩
  obtain ⟨age, w, c1, c2, c3, c4, c5⟩ := id cg
  have end62 : ∀ b t w2 g2, hR g2 199 7 = some w2 → 244 ≤ w2 ∧ w2 < hN g2 ∧ hS g2 w2 = (3, 2048) → (∀ k, k < 2048 → (hL g2 w2 k).toBitVec.toNat / 2 ^ 37 ≤ age) → MemV lpC g2 w2 age (dN d) (asR (dS d)) → hN g ≤ hN g2 → (∀ b, b < hN g → hS g2 b = hS g b) → (∀ b k, ¬ (b = 199 ∧ k = 7) → hR g2 b k = hR g b k) → hL g2 = hL g → hI g2 = hI g → wX0_solve_62 Q b t 199 (nI aim) (nI (nedB (dF d) 1 (nvL (dN d)))) (nI (nedB (dF d) 2 (nvL (dN d)))) g2 := by
    intro b t w2 g2 e7 ew eb em eN eS eR eL eI
    have lx2 : LX g2 := by
      have := jg.1
      have h0 := this.1
      exact ⟨by omega, fun p hp => by rw [eS _ (by have := tabS_lt p hp; omega)]; exact this.2.1 p hp, fun p hp => by rw [eR _ _ (tabR_199_7 p hp)]; exact this.2.2 p hp⟩
    have s2 : SvH (dN d) (asR (dS d)) w2 age g2 := ⟨lx2, by unfold CvR; rw [eI]; exact cr, by rw [eL]; exact c2, e7, ⟨ew.1, ew.2.2⟩, eb, em⟩
    refine ⟨S_199 lx2, fun h23 e23 h24 e24 => ?_⟩
    have s24 : SvH (dN d) (asR (dS d)) w2 age h24 := by rw [e24, e23]; exact SvH_199 (SvH_199 s2 (Or.inl rfl)) (Or.inr rfl)
    have f24 : SlF w2 g2 h24 := by rw [e24, e23]; exact SlF_trans (SlF_199 (Or.inl rfl)) (SlF_199 (Or.inr rfl))
    refine ⟨_, n_solve75 (h := g2) hv hr haim (by omega) us (dF_2 hv) (fun g3 s3 ch3 f3 l3 => ?_) (nvC (dN d)) 0 h24 (by omega) s24 f24 (by rw [e24, hI_sI, if_neg (by omega), e23, hI_sI, if_pos ⟨rfl, rfl⟩]) (by rw [e24, hI_sI, if_pos ⟨rfl, rfl⟩]) (fun k hk => absurd hk (by omega))⟩
    have eN3 : hN g ≤ hN g3 := by rw [f3.1]; exact eN
    have eS3 : ∀ b, b < hN g → hS g3 b = hS g b := fun b hb => by rw [f3.2.1]; exact eS b hb
    have eR3 : ∀ b k, ¬ (b = 199 ∧ k = 7) → hR g3 b k = hR g b k := fun b k z => by rw [f3.2.2.1]; exact eR b k z
    have eL3 : ∀ b, b < hN g → hS g b ≠ (3, 2048) → hL g3 b = hL g b := fun b hb z => by
      rw [f3.2.2.2.1 b (fun y => z (by rw [← eS b hb, y]; exact ew.2.2)), eL]
    have eI3 : ∀ b, b ≠ 199 → b ≠ 204 → hI g3 b = hI g b := fun b b1 b2 => by rw [f3.2.2.2.2.1 b b1 b2, eI]
    have na := cng.2.2.1
    have q3 : NetEq g g3 := ⟨eN3, fun b hb => by
      have h0 := jg.1.1
      unfold NA at hb
      exact ⟨eS3 b (by omega), eI3 b (by omega) (by omega), funext (fun k => eR3 b k (by omega)), fun z => eL3 b (by omega) (by rw [z]; decide)⟩⟩
    have cv3 : CVA lpC (A + 1) g3 := ⟨age, w2, c1, s3.2.2.1, s3.2.2.2.1, Or.inr ⟨ew.1, by rw [f3.1]; exact ew.2.1, s3.2.2.2.2.1.2, s3.2.2.2.2.2.1⟩, Or.inr ⟨a, dN d, asR (dS d), by rw [eR3 _ _ (by omega)]; exact ag, NetV_keep q3 cng, hr, by rw [f3.2.2.2.2.2 1 (by omega) (by omega), eI]; exact ig, s3.2.1, fun _ => s3.2.2.2.2.2.2⟩⟩
    exact k1 us g3 (jb_sv jg eN3 eS3 eR3 eL3 eI3 cv3) (fun b hb => (eI3 b (by omega) (by omega)).trans (f.2.2.2.2 b (by omega))) s3.2.1 ch3 l3
  have zg : ∀ k, hL g (hN g) k = 0 := fun k => by
    have h0 := jg.1.1
    rw [f.2.2.2.1 _ _ (by omega), f.1]
    exact (hz (hN h) k (Nat.le_refl _)).2.1
  rcases c4 with z | z
  · subst z
    refine ⟨203, c3, 0, S_203 jg.1, fun y => absurd nI_0 y, fun _ => ⟨by omega, by omega, fun a57 e57 h58 e58 => ⟨?_, fun h62 e62 => ?_⟩⟩⟩
    · rw [e58, hS_al, if_neg (by have := jg.1.1; omega)]; exact S_199 jg.1
    · have h0 := jg.1.1
      subst e57
      refine end62 _ _ (hN g) h62 (by rw [e62, hR_sR, if_pos ⟨rfl, rfl⟩]) ⟨h0, by rw [e62, e58]; show hN g < hN g + 1; omega, by rw [e62, hS_sR, e58, hS_al, if_pos rfl]⟩ (fun k hk => ?_) (fun k hk n hn e => ?_) (by rw [e62, e58]; show hN g ≤ hN g + 1; omega) (fun b hb => by rw [e62, hS_sR, e58, hS_al, if_neg (by omega)]) (fun b k y => by rw [e62, hR_sR, if_neg y, e58]; rfl) (by rw [e62, e58]; rfl) (by rw [e62, e58]; rfl)
      · have : hL h62 (hN g) k = 0 := by rw [e62, e58]; exact zg k
        rw [this]
        show (0 : Int64).toBitVec.toNat / 2 ^ 37 ≤ age
        rw [show (0 : Int64).toBitVec.toNat = 0 from rfl, Nat.zero_div]
        exact Nat.zero_le _
      · have x : hL h62 (hN g) k = 0 := by rw [e62, e58]; exact zg k
        rw [x, show (0 : Int64).toBitVec.toNat = 0 from rfl] at e ⊢
        have : n = 0 := by omega
        rw [this, lpC_0]
  · refine ⟨w, c3, 2048, z.2.2.1, fun _ => ?_, fun y => absurd ((nI_eq0 (by omega)).mp y) (by omega)⟩
    have mv : MemV lpC g w age (dN d) (asR (dS d)) := by
      rcases c5 with y | ⟨a', v', r', y1, y2, y3, y4, y5, y6⟩
      · rw [ag] at y; exact absurd y.1 (by simp)
      · rw [ag] at y1
        injection y1 with y1
        subst y1
        have e2 : r' = asR (dS d) := (nI_eq (by omega) (by omega)).mp (y4.symm.trans ig)
        subst e2
        intro k hk n hn e
        rw [y6 (by omega) k hk n hn e]
        exact lpC_fun y3 y2 cng n
    exact end62 _ _ w g c3 ⟨z.1, z.2.1, z.2.2.1⟩ z.2.2.2 mv (Nat.le_refl _) (fun _ _ => rfl) (fun _ _ _ => rfl) rfl rfl
