/-! ===== cost, count, runs, path ===== -/
theorem cost_n {Q : Int32 → MH → Prop} {h : MH} {v : NV} {s : AS} {a : Nat} (hl : LX h) (ca : hR h 128 1 = some a) (p : NetV h a v) (ok : AsOK v s) (ps : StV h 146 (encS s)) (hq : Q (nI (sumC (fun c => asC s c * nvPc v (asR s) c) (nvC v))) h) : ∀ n c, c + n = nvC v → wX9_cost_4 Q (n + 1) 128 (nI (sumC (fun c => asC s c * nvPc v (asR s) c) c)) (nI c) h := by
  have h4 := p.1.1
  have e0 : hI h 146 0 = nI (asR s) := ps.1
  intro n
  induction n with
  | zero =>
    intro c hc
    have hc : c = nvC v := by omega
    subst hc
    unfold wX9_cost_4
    refine ⟨S_128 hl, a, ca, p.2.1, ?_⟩
    rw [p.2.2.2.2.2.2.1]
    exact ⟨fun _ => hq, fun z => absurd (nI_le (Nat.le_refl _) (by omega)) z⟩
  | succ n ih =>
    intro c hc
    have g := ih (c + 1) (by omega)
    unfold wX9_cost_4
    refine ⟨S_128 hl, a, ca, p.2.1, ?_⟩
    rw [p.2.2.2.2.2.2.1, nI_clamp (by omega)]
    refine ⟨fun z => absurd z (nI_ge (by omega) (by omega)), fun _ => ⟨146, R_128_2 hl, S_146 hl, 147, R_146_2 hl, 40, S_147 hl, vp_in_nI (by omega) (by omega), ?_⟩⟩
    rw [e0]
    refine n_priceOf p (by omega) ok.1 (fun _ e => ?_)
    have es : hI h 147 c = nI (asC s c) := ps.2.2.1 c (by omega)
    rw [es, nI_mul, nI_add] at e
    subst e
    rw [nI_add]
    exact g
theorem cost_m {Q : Int32 → MH → Prop} {h : MH} {v : NV} {s : AS} (hl : LX h) (hv : NvOK v) (ok : AsOK v s) (p : RgV h v (asR s)) (ps : StM v s (fun k => hI h 224 (49 + k))) (hq : Q (nI (sumC (fun c => asC s c * nvPc v (asR s) c) (nvC v))) h) : ∀ n c, c + n = nvC v → wX10_cost_9 Q (bcN (asM v s) (nvC v) - bcN (asM v s) c + 1) 223 (nI (sumC (fun c => asC s c * nvPc v (asR s) c) c)) (nI (bcN (asM v s) c)) h := by
  have h4 := hv.1
  have hC := bcN_le (asM v s) (nvC v)
  have p1 : hI h 223 23 = nI (bcN (asM v s) (nvC v)) := p.1
  intro n
  induction n with
  | zero =>
    intro c hc
    have hc : c = nvC v := by omega
    subst hc
    rw [Nat.sub_self]
    unfold wX10_cost_9
    rw [p1]
    exact ⟨S_223 hl, fun _ => hq, fun z => absurd (nI_le (Nat.le_refl _) (by omega)) z⟩
  | succ n ih =>
    intro c hc
    have g := ih (c + 1) (by omega)
    have e1 : bcN (asM v s) (c + 1) = bcN (asM v s) c + bt (asM v s) c := rfl
    have e2 : sumC (fun c => asC s c * nvPc v (asR s) c) (c + 1) = sumC (fun c => asC s c * nvPc v (asR s) c) c + asC s c * nvPc v (asR s) c := rfl
    rcases bt01 (asM v s) c with b | b
    · have z := (ok.2.2.1 c (by omega)).2 b
      rw [e1, b, e2, z, Nat.zero_mul, Nat.add_zero, Nat.add_zero] at g
      exact g
    · have hlt := bcN_lt (show c < nvC v by omega) b
      have hlt2 := bcN_le (asM v s) c
      rw [e1, b, e2] at g
      rw [show bcN (asM v s) (nvC v) - bcN (asM v s) c + 1 = (bcN (asM v s) (nvC v) - (bcN (asM v s) c + 1) + 1) + 1 from by omega]
      unfold wX10_cost_9
      rw [p1, nI_add, nI_add, nI_clamp (by omega), nI_clamp (by omega)]
      refine ⟨S_223 hl, fun z => absurd z (nI_ge hlt (by omega)), fun _ => ⟨224, R_223_1 hl, 7011, S_224 hl, vp_in_nI (by omega) (by omega), 233, R_223_21 hl, 64, S_233 hl, vp_in_nI (by omega) (by omega), fun _ e => ?_⟩⟩
      have es : hI h 224 (49 + bcN (asM v s) c) = nI (asC s c) := ps.1 c (by omega) b
      have ep : hI h 233 (bcN (asM v s) c) = nI (nvPc v (asR s) c) := (p.2 c (by omega) b).2.2.2
      rw [es, ep, nI_mul, nI_add] at e
      subst e
      exact g
theorem ST_cost_c {CV : MH → Prop} (ck : ∀ h h1, CvEq h h1 → CV h → CV h1) : ST_cost (RLY (RRc CV)) := by
  intro h hr P kP
  obtain ⟨hl, t1, t2, d, ok, c, m⟩ := hr
  have cl := rd_close (x := nI 0) ck hl t1 t2 ok c m
  obtain ⟨⟨a, ca, cn⟩, cs, _⟩ := c
  refine ⟨_, cost_n hl ca cn ok.1 cs (kP _ _ (S_223 hl) (fun P2 k2 => ⟨S_223 hl, fun _ e => ?_⟩)) (nvC (dN d)) 0 (by omega)⟩
  subst e
  have m2 := MP_thrown (x := nI 0) m
  exact ⟨_, cost_m (LX_sI hl) cn.1 ok.1 m2.2.2.1 m2.2.2.2.1 (k2 _ cl) (nvC (dN d)) 0 (by omega)⟩
/-! count -/
theorem suN_sumC (f : Nat → Nat) : ∀ n, suN f n = sumC f n
  | 0 => rfl
  | n + 1 => by
    show suN f n + f n = sumC f n + f n
    rw [suN_sumC f n]
theorem sumC_hi {f : Nat → Nat} {n : Nat} : ∀ k, (∀ j, n ≤ j → j < n + k → f j = 0) → sumC f (n + k) = sumC f n
  | 0, _ => rfl
  | k + 1, h => by
    show sumC f (n + k) + f (n + k) = sumC f n
    rw [sumC_hi k (fun j a b => h j a (by omega)), h (n + k) (by omega) (by omega)]
    rfl
theorem copies_sum {v : NV} {s : AS} (hv : NvOK v) (ok : AsOK v s) : suN (asC s) 40 = sumC (asC s) (nvC v) := by
  have h4 := hv.1
  rw [suN_sumC, show 40 = nvC v + (40 - nvC v) from by omega]
  exact sumC_hi _ (fun j a b => (ok.2.2.1 j (by omega)).2 (btz_hi (hv.2.2.2.2.2.2 _ ok.1) a))
theorem count82 {Q : Int32 → MH → Prop} {h : MH} {v : NV} {s : AS} (hl : LX h) (hv : NvOK v) (ok : AsOK v s) (p : RgV h v (asR s)) (ps : StM v s (fun k => hI h 224 (49 + k))) (hq : Q (nI (sumC (asC s) (nvC v))) h) : ∀ n c, c + n = nvC v → wX10_count_82 Q (bcN (asM v s) (nvC v) - bcN (asM v s) c + 1) 223 (nI (sumC (asC s) c)) (nI (bcN (asM v s) c)) h := by
  have h4 := hv.1
  have hC := bcN_le (asM v s) (nvC v)
  have p1 : hI h 223 23 = nI (bcN (asM v s) (nvC v)) := p.1
  intro n
  induction n with
  | zero =>
    intro c hc
    have hc : c = nvC v := by omega
    subst hc
    rw [Nat.sub_self]
    unfold wX10_count_82
    rw [p1]
    exact ⟨S_223 hl, fun _ => hq, fun z => absurd (nI_le (Nat.le_refl _) (by omega)) z⟩
  | succ n ih =>
    intro c hc
    have g := ih (c + 1) (by omega)
    have e1 : bcN (asM v s) (c + 1) = bcN (asM v s) c + bt (asM v s) c := rfl
    have e2 : sumC (asC s) (c + 1) = sumC (asC s) c + asC s c := rfl
    rcases bt01 (asM v s) c with b | b
    · have z := (ok.2.2.1 c (by omega)).2 b
      rw [e1, b, e2, z, Nat.add_zero, Nat.add_zero] at g
      exact g
    · have hlt := bcN_lt (show c < nvC v by omega) b
      have hlt2 := bcN_le (asM v s) c
      rw [e1, b, e2] at g
      rw [show bcN (asM v s) (nvC v) - bcN (asM v s) c + 1 = (bcN (asM v s) (nvC v) - (bcN (asM v s) c + 1) + 1) + 1 from by omega]
      unfold wX10_count_82
      rw [p1, nI_add, nI_add, nI_clamp (by omega)]
      refine ⟨S_223 hl, fun z => absurd z (nI_ge hlt (by omega)), fun _ => ⟨224, R_223_1 hl, 7011, S_224 hl, vp_in_nI (by omega) (by omega), fun _ e => ?_⟩⟩
      have es : hI h 224 (49 + bcN (asM v s) c) = nI (asC s c) := ps.1 c (by omega) b
      rw [es, nI_add] at e
      subst e
      exact g
theorem m1_bit : ∀ k, k < 10 → (((-1 : Int32) >>> (nI k &&& 31)) &&& nI 1) = nI 1 := by decide
theorem allWork_loop {Q : Int32 → MH → Prop} {h : MH} {a r l : Nat} {f : Nat → Nat} (hs : hS h a = (1, 4)) (hl : l ≤ 10) (e : hI h a 3 = nI l) (hr : hS h r = (2, 10)) (hf : ∀ k, k < l → hI h r k = nI (f k)) (hq : Q (nI (sumC f l)) h) : ∀ n i, i + n = l → wX4_sumOf_5 Q (n + 1) a r (-1) (nI (sumC f i)) (nI i) h := by
  intro n
  induction n with
  | zero =>
    intro i hi
    have hi : i = l := by omega
    subst hi
    unfold wX4_sumOf_5
    rw [e]
    exact ⟨hs, fun _ => hq, fun c => absurd (nI_le (by omega) (by omega)) c⟩
  | succ n ih =>
    intro i hi
    unfold wX4_sumOf_5
    rw [e, nI_clamp (by omega), hf i (by omega), m1_bit i (by omega)]
    refine ⟨hs, fun c => absurd c (nI_ge (by omega) (by omega)), fun _ => ⟨10, hr, vp_in_nI (by omega) (by omega), fun _ e2 => ?_⟩⟩
    rw [nI_mul, Nat.one_mul, nI_add] at e2
    subst e2
    rw [nI_add]
    exact ih (i + 1) (by omega)
theorem count122 {Q : Int32 → MH → Prop} {h : MH} {v : NV} (hl : LX h) (hv : NvOK v) (pn : MNet (hI h 224) v) (hq : Q (nI (sumC (nvW v) (nvL v))) h) : ∀ n l, l + n = nvL v → wX10_count_122 Q (n + 1) 223 (nI (sumC (nvW v) l)) (nI l) h := by
  have h4 := hv.1
  intro n
  induction n with
  | zero =>
    intro l hn
    have hn : l = nvL v := by omega
    subst hn
    unfold wX10_count_122
    rw [show (nI 2).toNatClampNeg = 2 from by decide]
    refine ⟨S_223 hl, 224, R_223_1 hl, 7011, S_224 hl, vp_in_nI (by omega) (by omega), ?_⟩
    rw [pn.2.2.1]
    exact ⟨fun _ => hq, fun z => absurd (nI_le (Nat.le_refl _) (by omega)) z⟩
  | succ n ih =>
    intro l hn
    have g := ih (l + 1) (by omega)
    unfold wX10_count_122
    rw [show (nI 2).toNatClampNeg = 2 from by decide, nI_add, nI_add, nI_clamp (by omega)]
    refine ⟨S_223 hl, 224, R_223_1 hl, 7011, S_224 hl, vp_in_nI (by omega) (by omega), ?_⟩
    rw [pn.2.2.1, (pn.2.2.2.1 l (by omega)).2.2.2]
    refine ⟨fun z => absurd z (nI_ge (by omega) (by omega)), fun _ => ⟨vp_in_nI (by omega) (by omega), fun _ e => ?_⟩⟩
    rw [nI_add] at e
    subst e
    exact g
theorem ST_count_c {CV : MH → Prop} (ck : ∀ h h1, CvEq h h1 → CV h → CV h1) : ST_count (RLY (RRc CV)) := by
  intro y1 h hr P kP
  obtain ⟨hl, t1, t2, d, ok, c, m⟩ := hr
  have cl := rd_close (x := nI 0) ck hl t1 t2 ok c m
  obtain ⟨⟨a, ca, cn⟩, cs, ⟨hp, ch⟩, _⟩ := c
  have m2 := MP_thrown (x := nI 0) m
  have hl2 : LX (sI h 223 0 (nI 0)) := LX_sI hl
  have h4 := cn.1.1
  have emr : ∀ {A : Int32}, (∀ P2 : Int32 → MH → Prop, P2 A (sI h 223 0 (nI 0)) → wX10_count 223 y1 h P2) → P A h := fun hm => kP _ _ (S_223 hl) (fun P2 k2 => hm P2 (k2 _ cl))
  unfold wX9_count
  rcases i32_split y1 8 (by omega) with ⟨j, hj, e⟩ | e
  · subst e
    have q : j = 0 ∨ j = 1 ∨ j = 2 ∨ j = 3 ∨ j = 4 ∨ j = 5 ∨ j = 6 ∨ j = 7 ∨ j = 8 := by omega
    rcases q with q | q | q | q | q | q | q | q | q <;> subst q
    · refine sw8 (Or.inr (Or.inl ⟨rfl, S_128 hl, a, ca, cn.2.1, ?_⟩))
      rw [cn.2.2.2.1]
      refine emr (fun P2 k2 => ⟨S_223 hl, fun _ e => ?_⟩)
      subst e
      refine sw8 (Or.inr (Or.inl ⟨rfl, 224, R_223_1 hl2, 7011, S_224 hl2, vp_in_nI (by omega) (by omega), ?_⟩))
      rw [nI_clamp (by omega), m2.2.1.2.1]
      exact k2
    · refine sw8 (Or.inr (Or.inr (Or.inl ⟨rfl, S_128 hl, a, ca, cn.2.1, ?_⟩)))
      rw [cn.2.2.2.2.2.1]
      refine emr (fun P2 k2 => ⟨S_223 hl, fun _ e => ?_⟩)
      subst e
      refine sw8 (Or.inr (Or.inr (Or.inl ⟨rfl, 224, R_223_1 hl2, 7011, S_224 hl2, vp_in_nI (by omega) (by omega), ?_⟩)))
      rw [nI_clamp (by omega), m2.2.1.2.2.1]
      exact k2
    · refine sw8 (Or.inr (Or.inr (Or.inr (Or.inl ⟨rfl, S_128 hl, 146, R_128_2 hl, S_146 hl, ?_⟩))))
      rw [show hI h 146 0 = nI (asR (dS d)) from cs.1]
      refine emr (fun P2 k2 => ⟨S_223 hl, fun _ e => ?_⟩)
      subst e
      refine sw8 (Or.inr (Or.inr (Or.inr (Or.inl ⟨rfl, 224, R_223_1 hl2, 7011, S_224 hl2, vp_in_nI (by omega) (by omega), ?_⟩))))
      rw [nI_clamp (by omega), StM_R m2.2.2.2.1]
      exact k2
    · refine sw8 (Or.inr (Or.inr (Or.inr (Or.inr (Or.inl ⟨rfl, S_128 hl, 146, R_128_2 hl, S_146 hl, u_allCopies (f := asC (dS d)) hl (by decide) (fun k hk => cs.2.2.1 k hk) ?_⟩)))))
      rw [copies_sum cn.1 ok.1]
      refine emr (fun P2 k2 => ⟨S_223 hl, fun _ e => ?_⟩)
      subst e
      exact sw8 (Or.inr (Or.inr (Or.inr (Or.inr (Or.inl ⟨rfl, _, count82 hl2 cn.1 ok.1 m2.2.2.1 m2.2.2.2.1 k2 (nvC (dN d)) 0 (by omega)⟩)))))
    · refine sw8 (Or.inr (Or.inr (Or.inr (Or.inr (Or.inr (Or.inl ⟨rfl, S_128 hl, 146, R_128_2 hl, S_146 hl, ?_⟩))))))
      rw [show hI h 146 1 = nI (asF (dS d)) from cs.2.1]
      refine emr (fun P2 k2 => ⟨S_223 hl, fun _ e => ?_⟩)
      subst e
      refine sw8 (Or.inr (Or.inr (Or.inr (Or.inr (Or.inr (Or.inl ⟨rfl, 224, R_223_1 hl2, 7011, S_224 hl2, vp_in_nI (by omega) (by omega), ?_⟩))))))
      rw [nI_clamp (by omega), StM_F m2.2.2.2.1]
      exact k2
    · obtain ⟨w, w1, w2, w3, w4, w5, w6, w7⟩ := id cn.2.2.2.2.2.2.2
      refine sw8 (Or.inr (Or.inr (Or.inr (Or.inr (Or.inr (Or.inr (Or.inl ⟨rfl, S_128 hl, a, ca, cn.2.1, cn.2.1, w 7, (w1 7 (by omega) (by omega) (by omega)).1, _, allWork_loop cn.2.1 (by omega) cn.2.2.2.2.2.1 w2.2.2.2.1 (fun k hk => (w3 k hk).2.2.2) ?_ (nvL (dN d)) 0 (by omega)⟩)))))))
      refine emr (fun P2 k2 => ⟨S_223 hl, fun _ e => ?_⟩)
      subst e
      exact sw8 (Or.inr (Or.inr (Or.inr (Or.inr (Or.inr (Or.inr (Or.inl ⟨rfl, _, count122 hl2 cn.1 m2.2.1 k2 (nvL (dN d)) 0 (by omega)⟩)))))))
    · refine sw8 (Or.inr (Or.inr (Or.inr (Or.inr (Or.inr (Or.inr (Or.inr (Or.inl ⟨rfl, S_128 hl, 165, R_128_5 hl, S_165 hl, ?_⟩))))))))
      rw [ch.2.2.2.1, List.length_map]
      refine emr (fun P2 k2 => ⟨S_223 hl, fun _ e => ?_⟩)
      subst e
      refine sw8 (Or.inr (Or.inr (Or.inr (Or.inr (Or.inr (Or.inr (Or.inr (Or.inl ⟨rfl, 224, R_223_1 hl2, 7011, S_224 hl2, vp_in_nI (by omega) (by omega), ?_⟩))))))))
      rw [nI_clamp (by omega), m2.2.2.2.2.1]
      exact k2
    · obtain ⟨n, n1, n2, n3, n4⟩ := id t1
      refine sw8 (Or.inr (Or.inr (Or.inr (Or.inr (Or.inr (Or.inr (Or.inr (Or.inr (Or.inl ⟨rfl, S_128 hl, 129, R_128_0 hl, S_129 hl, ?_⟩)))))))))
      rw [n2]
      refine emr (fun P2 k2 => ⟨S_223 hl, fun _ e => ?_⟩)
      subst e
      refine sw8 (Or.inr (Or.inr (Or.inr (Or.inr (Or.inr (Or.inr (Or.inr (Or.inr (Or.inl ⟨rfl, ?_⟩)))))))))
      rw [hI_sI, if_neg (by omega), n3]
      exact k2
    · refine sw8 (Or.inr (Or.inr (Or.inr (Or.inr (Or.inr (Or.inr (Or.inr (Or.inr (Or.inr ⟨rfl, S_128 hl, a, ca, cn.2.1, ?_⟩)))))))))
      rw [cn.2.2.2.2.1]
      refine emr (fun P2 k2 => ⟨S_223 hl, fun _ e => ?_⟩)
      subst e
      refine sw8 (Or.inr (Or.inr (Or.inr (Or.inr (Or.inr (Or.inr (Or.inr (Or.inr (Or.inr ⟨rfl, 224, R_223_1 hl2, 7011, S_224 hl2, vp_in_nI (by omega) (by omega), ?_⟩)))))))))
      rw [nI_clamp (by omega), m2.2.1.1]
      exact k2
  · refine sw8 (Or.inl ⟨e, emr (fun P2 k2 => ⟨S_223 hl, fun _ e2 => ?_⟩)⟩)
    subst e2
    exact sw8 (Or.inl ⟨e, k2⟩)
