/-! Part a6: the first ring of least price; solve's loops. -/
theorem n_first {v : NV} {r w age aim : Nat} {f : Nat → Nat} {h : MH} {Q : Int32 → MH → Prop} (hv : NvOK v) (hr : r < 10) (haim : aim < 2) (hage : age < 2 ^ 20) (q : ¬ nedB f 1 (nvL v) = 0) (hf : ∀ l, l < nvL v → f l ≤ 2) (s : SvH v r w age h) (hq : ∀ g, MmF w h g → SvH v r w age g → Q (nI (bcN (nvMy v r) (mnA v r (fsB f (nvL v)) 30000 (lqP v r aim 30000 f) (nvC v)))) g) : wX0_firstOfLeast 199 (nI (nedB f 1 (nvL v))) (nI (nedB f 2 (nvL v))) (nI aim) h Q := by
  have h4 := hv.1
  have hC := bcN_le (nvMy v r) (nvC v)
  have z := ned_fs q
  have lp : ∀ m c g, c + m = nvC v → MmF w h g → SvH v r w age g → wX0_firstOfLeast_17 Q (bcN (nvMy v r) (nvC v) - bcN (nvMy v r) c + 1) 199 (nI (nedB f 1 (nvL v))) (nI (nedB f 2 (nvL v))) (nI aim) (nI (2 ^ fsB f (nvL v))) (nI (mnF v r (fsB f (nvL v)) 30000 (lqP v r aim 30000 f) c)) (nI (bcN (nvMy v r) (mnA v r (fsB f (nvL v)) 30000 (lqP v r aim 30000 f) c))) (nI (bcN (nvMy v r) c)) g := by
    intro m
    induction m with
    | zero =>
      intro c g hm mf sg
      have hm : c = nvC v := by omega
      subst hm
      rw [Nat.sub_self]
      unfold wX0_firstOfLeast_17
      rw [sg.2.1.1]
      exact ⟨S_199 sg.1, fun _ => hq g mf sg, fun y => absurd (nI_le (Nat.le_refl _) (by omega)) y⟩
    | succ m im =>
      intro c g hm mf sg
      have eb : bcN (nvMy v r) (c + 1) = bcN (nvMy v r) c + bt (nvMy v r) c := rfl
      have em : mnF v r (fsB f (nvL v)) 30000 (lqP v r aim 30000 f) (c + 1) = if bt (nvMy v r) c = 1 ∧ usN v c (fsB f (nvL v)) ≠ 0 ∧ lqP v r aim 30000 f c < mnF v r (fsB f (nvL v)) 30000 (lqP v r aim 30000 f) c then lqP v r aim 30000 f c else mnF v r (fsB f (nvL v)) 30000 (lqP v r aim 30000 f) c := rfl
      have ea : mnA v r (fsB f (nvL v)) 30000 (lqP v r aim 30000 f) (c + 1) = if bt (nvMy v r) c = 1 ∧ usN v c (fsB f (nvL v)) ≠ 0 ∧ lqP v r aim 30000 f c < mnF v r (fsB f (nvL v)) 30000 (lqP v r aim 30000 f) c then c else mnA v r (fsB f (nvL v)) 30000 (lqP v r aim 30000 f) c := rfl
      have g0 := im (c + 1)
      rcases bt01 (nvMy v r) c with b | b
      · rw [em, ea, if_neg (fun y => by omega), if_neg (fun y => by omega), eb, b] at g0
        exact g0 g (by omega) mf sg
      · have hcc : c < nvC v := by omega
        have hlt := bcN_lt hcc b
        rw [eb, b] at g0
        rw [show bcN (nvMy v r) (nvC v) - bcN (nvMy v r) c + 1 = (bcN (nvMy v r) (nvC v) - (bcN (nvMy v r) c + 1) + 1) + 1 from by omega]
        have cr := sg.2.1.2.2 c hcc b
        unfold wX0_firstOfLeast_17
        rw [sg.2.1.1, nI_add, nI_clamp (show bcN (nvMy v r) c < 2 ^ 31 by omega)]
        refine ⟨S_199 sg.1, fun y => absurd y (nI_ge hlt (by omega)), fun _ => ⟨200, R_199_3 sg.1, 40, S_200 sg.1, vp_in_nI (by omega) (by omega), 201, R_199_4 sg.1, 40, S_201 sg.1, vp_in_nI (by omega) (by omega), ?_⟩⟩
        rw [cr.1, cr.2.1, has_link hv hcc z.1]
        refine ⟨fun u => ?_, fun u => ?_⟩
        · rw [em, ea, if_neg (fun y => y.2.1 u), if_neg (fun y => y.2.1 u)] at g0
          exact g0 g (by omega) mf sg
        · have sb := sumC_bh z.1 z.2 u
          have s20 := sumC_20 hv hf
          refine n_paidOf hv haim (by omega) (show 290 < 300 by omega) hcc b hf sg (n_least hv hr haim hage 19 290 (fBh v c f) (0 + 1) g _ (by omega) (by omega) (by omega) (fBh_2 hf) sg (fun g2 mf2 s2 => ?_))
          have hp := pz_le hv (aim := aim) (c := c) hr
          have hq2 := lq_le v r aim 30000 (fBh v c f)
          have hm2 := mnF_le (v := v) (r := r) (l := fsB f (nvL v)) (F := 30000) (p := lqP v r aim 30000 f) c
          have g3 := g0 g2 (by omega) (MmF_trans mf mf2) s2
          have ep : pz v r aim c + lq v r aim 30000 (fBh v c f) = lqP v r aim 30000 f c := rfl
          rw [nI_add, ep]
          by_cases y : lqP v r aim 30000 f c < mnF v r (fsB f (nvL v)) 30000 (lqP v r aim 30000 f) c
          · rw [em, ea, if_pos ⟨b, u, y⟩, if_pos ⟨b, u, y⟩] at g3
            exact ⟨fun x => absurd x (nI_ge y (by omega)), fun _ => g3⟩
          · rw [em, ea, if_neg (fun x => y x.2.2), if_neg (fun x => y x.2.2)] at g3
            exact ⟨fun _ => g3, fun x => absurd (nI_le (by omega) (by omega)) x⟩
  have k0 := lp (nvC v) 0 h (by omega) (MmF_rfl _ _) s
  unfold wX0_firstOfLeast
  rw [low_ned hv q]
  exact ⟨_, k0⟩
/-- one more of a ring -/
def incF (ld : Nat → Nat) (c : Nat) : Nat → Nat := fun x => if x = c then ld x + 1 else ld x
/-- how many of each ring are laid yet -/
def slF (v : NV) (r aim : Nat) : Nat → (Nat → Nat) → (Nat → Nat) → Nat → Nat
  | 0, _, ld => ld
  | n + 1, f, ld => if nedB f 1 (nvL v) = 0 then ld else slF v r aim n (fBh v (mnA v r (fsB f (nvL v)) 30000 (lqP v r aim 30000 f) (nvC v)) f) (incF ld (mnA v r (fsB f (nvL v)) 30000 (lqP v r aim 30000 f) (nvC v)))
def sLd (v : NV) (r aim : Nat) (ld : Nat → Nat) : Nat → Nat
  | 0 => 0
  | c + 1 => sLd v r aim ld c + if bt (nvMy v r) c = 1 then ld c * pz v r aim c else 0
theorem sLd_inc {v : NV} {r aim c : Nat} {ld : Nat → Nat} (hb : bt (nvMy v r) c = 1) : ∀ n, sLd v r aim (incF ld c) n = sLd v r aim ld n + if c < n then pz v r aim c else 0
  | 0 => by rw [if_neg (by omega)]; rfl
  | n + 1 => by
    have ih := sLd_inc (aim := aim) (ld := ld) hb n
    show sLd v r aim (incF ld c) n + (if bt (nvMy v r) n = 1 then incF ld c n * pz v r aim n else 0) = sLd v r aim ld n + (if bt (nvMy v r) n = 1 then ld n * pz v r aim n else 0) + _
    rw [ih]
    by_cases e : n = c
    · subst e
      rw [if_neg (by omega), if_pos hb, if_pos hb, if_pos (by omega)]
      have : incF ld n n = ld n + 1 := by unfold incF; rw [if_pos rfl]
      rw [this, Nat.add_mul]
      omega
    · have : incF ld c n = ld n := by unfold incF; rw [if_neg e]
      rw [this]
      by_cases q : c < n
      · rw [show (if c < n then pz v r aim c else 0) = pz v r aim c from if_pos q, show (if c < n + 1 then pz v r aim c else 0) = pz v r aim c from if_pos (by omega)]
        exact Nat.add_right_comm _ _ _
      · rw [show (if c < n then pz v r aim c else 0) = 0 from if_neg q, show (if c < n + 1 then pz v r aim c else 0) = 0 from if_neg (by omega)]
        exact Nat.add_right_comm _ _ _
theorem sLd_0 {v : NV} {r aim : Nat} : ∀ n, sLd v r aim (fun _ => 0) n = 0
  | 0 => rfl
  | n + 1 => by
    show sLd v r aim (fun _ => 0) n + (if bt (nvMy v r) n = 1 then 0 * pz v r aim n else 0) = 0
    rw [sLd_0 n, Nat.zero_mul]
    by_cases q : bt (nvMy v r) n = 1
    · rw [if_pos q]
    · rw [if_neg q]
/-- what the class has chosen -/
def ChV (h : MH) (v : NV) (r : Nat) (ld : Nat → Nat) : Prop := hI h 199 10 = nI (sLd v r 1 ld (nvC v)) ∧ hI h 199 11 = nI (sLd v r 0 ld (nvC v)) ∧ ∀ c, c < nvC v → bt (nvMy v r) c = 1 → hI h 204 (bcN (nvMy v r) c) = nI (ld c)
/-- what solve changes behind lookAt -/
def SlF (w : Nat) (h g : MH) : Prop := hN g = hN h ∧ hS g = hS h ∧ hR g = hR h ∧ (∀ b, b ≠ w → hL g b = hL h b) ∧ (∀ b, b ≠ 199 → b ≠ 204 → hI g b = hI h b) ∧ ∀ k, k ≠ 10 → k ≠ 11 → hI g 199 k = hI h 199 k
theorem SlF_rfl (w : Nat) (h : MH) : SlF w h h := ⟨rfl, rfl, rfl, fun _ _ => rfl, fun _ _ _ => rfl, fun _ _ _ => rfl⟩
theorem SlF_trans {w : Nat} {h g k : MH} (p : SlF w h g) (q : SlF w g k) : SlF w h k := ⟨q.1.trans p.1, q.2.1.trans p.2.1, q.2.2.1.trans p.2.2.1, fun b hb => (q.2.2.2.1 b hb).trans (p.2.2.2.1 b hb), fun b b1 b2 => (q.2.2.2.2.1 b b1 b2).trans (p.2.2.2.2.1 b b1 b2), fun b b1 b2 => (q.2.2.2.2.2 b b1 b2).trans (p.2.2.2.2.2 b b1 b2)⟩
theorem SlF_mm {w : Nat} {h g : MH} (p : MmF w h g) : SlF w h g := ⟨p.1, p.2.1, p.2.2.2.1, p.2.2.2.2, fun b _ _ => by rw [p.2.2.1], fun k _ _ => by rw [p.2.2.1]⟩
theorem SlF_204 {w k : Nat} {h : MH} {x : Int32} : SlF w h (sI h 204 k x) := ⟨rfl, rfl, rfl, fun _ _ => rfl, fun b _ b2 => hI_sI_row b2, fun j _ _ => by rw [hI_sI, if_neg (by omega)]⟩
theorem SlF_199 {w k : Nat} {h : MH} {x : Int32} (hk : k = 10 ∨ k = 11) : SlF w h (sI h 199 k x) := ⟨rfl, rfl, rfl, fun _ _ => rfl, fun b b1 _ => hI_sI_row b1, fun j _ _ => by rw [hI_sI, if_neg (by omega)]⟩
theorem SvH_204 {v : NV} {r w age k : Nat} {h : MH} {x : Int32} (s : SvH v r w age h) : SvH v r w age (sI h 204 k x) := by
  obtain ⟨s1, s2, s3, s4, s5, s6, s7⟩ := s
  refine ⟨LX_sI s1, ?_, s3, s4, s5, s6, s7⟩
  unfold CvR
  rw [hI_sI_row (b := 200) (by omega), hI_sI_row (b := 201) (by omega), hI_sI_row (b := 202) (by omega), hI_sI_row (b := 199) (by omega)]
  exact s2
theorem SvH_199 {v : NV} {r w age k : Nat} {h : MH} {x : Int32} (s : SvH v r w age h) (hk : k = 10 ∨ k = 11) : SvH v r w age (sI h 199 k x) := by
  obtain ⟨s1, s2, s3, s4, s5, s6, s7⟩ := s
  refine ⟨LX_sI s1, ?_, s3, s4, s5, s6, s7⟩
  unfold CvR
  rw [hI_sI_row (b := 200) (by omega), hI_sI_row (b := 201) (by omega), hI_sI_row (b := 202) (by omega), hI_sI, if_neg (by omega), hI_sI, if_neg (by omega)]
  exact s2
theorem ChV_mm {v : NV} {r w : Nat} {h g : MH} {ld : Nat → Nat} (p : MmF w h g) (c : ChV h v r ld) : ChV g v r ld := by
  unfold ChV
  rw [p.2.2.1]
  exact c
theorem least_ok {v : NV} (hv : NvOK v) {r aim : Nat} (hr : r < 10) {f : Nat → Nat} (us : usF v r f) (hf : ∀ l, l < nvL v → f l ≤ 2) (q : ¬ nedB f 1 (nvL v) = 0) : mnF v r (fsB f (nvL v)) 30000 (lqP v r aim 30000 f) (nvC v) < 30000 := by
  have s := sumC_20 hv hf
  have b := lqF_bd hv (aim := aim) (F := 30000) hr 20 f s us
  have e := lq_step (v := v) (r := r) (aim := aim) (F := 30000) q s
  rw [← e]
  have : lq v r aim 30000 f ≤ 990 * sumC f (nvL v) := b
  omega
theorem n_solve101 {v : NV} {r w age aim b t : Nat} {h : MH} {Q : Int32 → MH → Prop} (hv : NvOK v) (hr : r < 10) (haim : aim < 2) (hage : age < 2 ^ 20) : ∀ n f step ld g, sumC f (nvL v) ≤ n → n + step ≤ 20 → usF v r f → (∀ l, l < nvL v → f l ≤ 2) → SvH v r w age g → ChV g v r ld → SlF w h g → (∀ c, ld c ≤ step) → (∀ g, SvH v r w age g → ChV g v r (slF v r aim n f ld) → SlF w h g → (∀ c, slF v r aim n f ld c ≤ 20) → Q (nI 1) g) → wX0_solve_101 Q (n + 1) b t 199 (nI aim) (nI (nedB f 1 (nvL v))) (nI (nedB f 2 (nvL v))) (nI step) g := by
  have h4 := hv.1
  have hC := bcN_le (nvMy v r) (nvC v)
  intro n
  induction n with
  | zero =>
    intro f step ld g hs hn us hf sg cg fg lb hq
    have q := nedB_zero.mpr (sumM_zero (nvL v) (show sumC f (nvL v) = 0 by omega))
    have k := hq g sg cg fg (fun c => by have := lb c; show ld c ≤ 20; omega)
    exact ⟨fun _ => k, fun _ => ⟨fun _ => k, fun y => absurd ((nI_eq0 (by omega)).mpr q) y⟩⟩
  | succ n ih =>
    intro f step ld g hs hn us hf sg cg fg lb hq
    have g1 := lt_of_pow (nedB_lt f 1 (nvL v)) (by omega)
    by_cases q : nedB f 1 (nvL v) = 0
    · have e : slF v r aim (n + 1) f ld = ld := by unfold slF; rw [if_pos q]
      rw [e] at hq
      have k := hq g sg cg fg (fun c => by have := lb c; omega)
      exact ⟨fun _ => k, fun _ => ⟨fun _ => k, fun y => absurd ((nI_eq0 (by omega)).mpr q) y⟩⟩
    · have e : slF v r aim (n + 1) f ld = slF v r aim n (fBh v (mnA v r (fsB f (nvL v)) 30000 (lqP v r aim 30000 f) (nvC v)) f) (incF ld (mnA v r (fsB f (nvL v)) 30000 (lqP v r aim 30000 f) (nvC v))) := by
        show (if _ then _ else _) = _
        rw [if_neg q]
      rw [e] at hq
      have z := ned_fs q
      obtain ⟨a1, a2, a3, _, _⟩ := mnF_arg (nvC v) (least_ok hv (aim := aim) hr us hf q)
      have sb := sumC_bh z.1 z.2 a3
      refine ⟨fun y => absurd y (nI_ge (by omega) (by omega)), fun _ => ⟨fun y => absurd ((nI_eq0 (by omega)).mp y) q, fun _ => ⟨S_199 sg.1, n_first hv hr haim hage q hf sg (fun g2 mf s2 => ?_)⟩⟩⟩
      generalize mnA v r (fsB f (nvL v)) 30000 (lqP v r aim 30000 f) (nvC v) = c at a1 a2 a3 sb hq ⊢
      have hlt := bcN_lt a1 a2
      have c2 := ChV_mm mf cg
      have vp : vp_in (nI (bcN (nvMy v r) c)) 40 := vp_in_nI (by omega) (by omega)
      refine ⟨S_199 s2.1, 204, R_199_9 s2.1, 40, S_204 s2.1, vp, vp, fun h36 e36 h37 e37 => ?_⟩
      rw [nI_clamp (by omega), c2.2.2 c a1 a2, nI_add] at e36
      have s36 : SvH v r w age h36 := by rw [e36]; exact SvH_204 s2
      have i10 : hI h36 199 10 = nI (sLd v r 1 ld (nvC v)) := by rw [e36, hI_sI, if_neg (by omega)]; exact c2.1
      rw [i10, nI_add] at e37
      have s37 : SvH v r w age h37 := by rw [e37]; exact SvH_199 s36 (Or.inl rfl)
      refine ⟨202, R_199_5 s37.1, 40, S_202 s37.1, vp, fun h43 e43 => ?_⟩
      have i11 : hI h37 199 11 = nI (sLd v r 0 ld (nvC v)) := by rw [e37, hI_sI, if_neg (by omega), e36, hI_sI, if_neg (by omega)]; exact c2.2.1
      rw [nI_clamp (by omega), i11, (s37.2.1.2.2 c a1 a2).2.2, nI_add] at e43
      have s43 : SvH v r w age h43 := by rw [e43]; exact SvH_199 s37 (Or.inr rfl)
      refine n_onceBehind s43.1 hv s43.2.1 a1 a2 hf ⟨S_199 s43.1, n_twiceBehind s43.1 hv s43.2.1 a1 a2 hf ?_⟩
      rw [nI_add]
      refine ih (fBh v c f) (step + 1) (incF ld c) h43 (by omega) (by omega) (usF_bh us) (fBh_2 hf) s43 ⟨?_, ?_, fun x hx bx => ?_⟩ ?_ (fun x => ?_) hq
      · rw [e43, hI_sI, if_neg (by omega), e37, hI_sI, if_pos ⟨rfl, rfl⟩, sLd_inc a2, if_pos a1]
        rfl
      · rw [e43, hI_sI, if_pos ⟨rfl, rfl⟩, sLd_inc a2, if_pos a1]
        rfl
      · rw [e43, hI_sI, if_neg (by omega), e37, hI_sI, if_neg (by omega), e36, hI_sI]
        by_cases y : x = c
        · rw [if_pos ⟨rfl, by rw [y]⟩]
          unfold incF
          rw [if_pos y, y]
        · rw [if_neg (fun u => y (ring_inj bx a2 u.2))]
          unfold incF
          rw [if_neg y]
          exact c2.2.2 x hx bx
      · refine SlF_trans fg (SlF_trans (SlF_mm mf) ?_)
        rw [e43, e37, e36]
        exact SlF_trans SlF_204 (SlF_trans (SlF_199 (Or.inl rfl)) (SlF_199 (Or.inr rfl)))
      · have := lb x
        unfold incF
        by_cases y : x = c
        · rw [if_pos y]; omega
        · rw [if_neg y]; omega
