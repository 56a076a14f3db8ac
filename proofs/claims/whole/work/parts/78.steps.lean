/-! ===== steps that only read ===== -/
theorem MP_thrown {h : MH} {d : DV} {x : Int32} (m : MP h d) : MP (sI h 223 0 x) d := MP_cong (by rw [hI_sI, if_neg (by omega)]) (hI_sI_row (by omega)) (hI_sI_row (by omega)) (fun b b1 b2 => hI_sI_row (by omega)) m
theorem FrM_thrown (h : MH) (x : Int32) : FrM h (sI h 223 0 x) := FrM_sI (Or.inl rfl) (fun _ => Or.inl rfl)
/-- the end of a step that only reads -/
theorem rd_close {CV : MH → Prop} (ck : ∀ h h1, CvEq h h1 → CV h → CV h1) {h : MH} {d : DV} {x : Int32} (hl : LX h) (t1 : TP h) (t2 : TY h) (ok : DOK d) (c : CP CV h d) (m : MP h d) : RLY (RRc CV) (sI h 223 0 x) :=
  st_close ck hl ⟨t1, t2⟩ (Fr_rfl _ _) c (FrM_thrown h x) (MP_thrown m) ok
theorem ST_rings_c {CV : MH → Prop} (ck : ∀ h h1, CvEq h h1 → CV h → CV h1) : ST_rings (RLY (RRc CV)) := by
  intro h hr P kP
  obtain ⟨hl, t1, t2, d, ok, c, m⟩ := hr
  have cl := rd_close (x := nI 0) ck hl t1 t2 ok c m
  obtain ⟨⟨a, ca, cn⟩, cs, _⟩ := c
  have e0 : hI h 146 0 = nI (asR (dS d)) := cs.1
  refine ⟨S_128 hl, a, ca, 146, R_128_2 hl, S_146 hl, cn.2.1, ?_⟩
  rw [e0]
  refine n_ringCount cn ok.1.1 (kP _ _ (S_223 hl) (fun P2 k2 => ⟨S_223 hl, fun _ e => ?_⟩))
  subst e
  have m2 := MP_thrown (x := nI 0) m
  rw [m2.2.2.1.1]
  exact k2 _ cl
theorem ST_lost_c {CV : MH → Prop} (ck : ∀ h h1, CvEq h h1 → CV h → CV h1) : ST_lost (RLY (RRc CV)) := by
  intro h hr P kP
  obtain ⟨hl, t1, t2, d, ok, c, m⟩ := hr
  have cl := rd_close (x := nI 0) ck hl t1 t2 ok c m
  obtain ⟨⟨a, ca, cn⟩, cs, _⟩ := c
  refine ⟨S_128 hl, 197, R_128_6 hl, a, ca, 146, R_128_2 hl, S_197 hl, n_lostUnits hl cn ok.1 (by decide) cs (kP _ _ (S_223 hl) (fun P2 k2 => ⟨S_223 hl, fun _ e => ?_⟩))⟩
  subst e
  have m2 := MP_thrown (x := nI 0) m
  exact m_lostNow (LX_sI hl) cn.1 m2.2.1 ok.1 m2.2.2.2.1 (k2 _ cl)
theorem ST_use_c {CV : MH → Prop} (ck : ∀ h h1, CvEq h h1 → CV h → CV h1) : ST_use (RLY (RRc CV)) := by
  intro y1 y2 h hr P kP
  obtain ⟨hl, t1, t2, d, ok, c, m⟩ := hr
  have cl := rd_close (x := nI 0) ck hl t1 t2 ok c m
  obtain ⟨⟨a, ca, cn⟩, cs, _⟩ := c
  have e0 : hI h 146 0 = nI (asR (dS d)) := cs.1
  have m2 := MP_thrown (x := nI 0) m
  have hl2 : LX (sI h 223 0 (nI 0)) := LX_sI hl
  have h4 := cn.1.1
  refine ⟨S_128 hl, a, ca, 146, R_128_2 hl, S_146 hl, cn.2.1, ?_⟩
  rw [e0]
  rcases Classical.em (∃ c, isRg (dN d) (asR (dS d)) y1 c) with ⟨c, hc⟩ | hc
  · have hlt := isRg_lt cn.1 hc
    have c40 := hc.1
    refine n_cycleOf1 cn ok.1.1 hc ⟨fun z => absurd z (nI_pos (by omega)), fun _ => ⟨S_128 hl, a, ca, cn.2.1, ?_⟩⟩
    rcases Classical.em (∃ l, isLk (dN d) y2 l) with ⟨l, hk⟩ | hk
    · refine n_hasLink1 cn hk ⟨fun _ => ⟨S_128 hl, a, ca, cn.2.1, ?_⟩, fun z => absurd z (by decide)⟩
      have hk1 := hk.1
      rw [hk.2]
      refine n_useOf cn hc.1 (by omega) (kP _ _ (S_223 hl) (fun P2 k2 => ⟨S_223 hl, fun _ e => ?_⟩))
      subst e
      refine m_isRing1 hl2 cn.1 m2.2.2.1 hc ⟨fun z => absurd z (by decide), fun _ => ⟨S_223 hl2, m_isLink1 hl2 (by omega) m2.2.1 hk ⟨fun z => absurd z (by decide), fun _ => ⟨S_223 hl2, ?_⟩⟩⟩⟩
      rw [hc.2.2, hk.2]
      exact m_useOf hl2 cn.1 m2.2.2.1 hc.1 hc.2.1 hk.1 (k2 _ cl)
    · refine n_hasLink0 cn hk ⟨fun z => absurd nI_0 z, fun _ => kP _ _ (S_223 hl) (fun P2 k2 => ⟨S_223 hl, fun _ e => ?_⟩)⟩
      subst e
      exact m_isRing1 hl2 cn.1 m2.2.2.1 hc ⟨fun z => absurd z (by decide), fun _ => ⟨S_223 hl2, m_isLink0 hl2 (by omega) m2.2.1 hk ⟨fun _ => k2 _ cl, fun z => absurd nI_0 z⟩⟩⟩
  · refine n_cycleOf0 cn ok.1.1 hc ⟨fun _ => kP _ _ (S_223 hl) (fun P2 k2 => ⟨S_223 hl, fun _ e => ?_⟩), fun z => absurd (by decide) z⟩
    subst e
    exact m_isRing0 hl2 cn.1 m2.2.2.1 hc ⟨fun _ => k2 _ cl, fun z => absurd nI_0 z⟩
theorem i32_split (x : Int32) (n : Nat) (hn : n < 2 ^ 31) : (∃ j, j ≤ n ∧ x = nI j) ∨ (x.toInt < 0 ∨ (n : Int) < x.toInt) := by
  rcases nI_cases x n hn with q | q
  · exact Or.inl q
  · exact Or.inr (by omega)
theorem ne_nI {x : Int32} {n k : Nat} (hn : n < 2 ^ 31) (q : x.toInt < 0 ∨ (n : Int) < x.toInt) (hk : k ≤ n) : x ≠ nI k := by
  intro e
  rw [e, nI_toInt (by omega)] at q
  omega
theorem sw_no {j k : Nat} (hj : j < 2 ^ 31) (hk : k < 2 ^ 31) (hjk : j ≠ k) {A : Prop} (e : nI j = nI k) : A := absurd ((nI_eq hj hk).mp e) hjk
theorem sw_out {j n : Nat} (hj : j ≤ n) (hn : n < 2 ^ 31) {A : Prop} (e : (nI j).toInt < 0 ∨ (n : Int) < (nI j).toInt) : A := by
  rw [nI_toInt (by omega)] at e
  omega
theorem ST_ring_c {CV : MH → Prop} (ck : ∀ h h1, CvEq h h1 → CV h → CV h1) : ST_ring (RLY (RRc CV)) := by
  intro y1 y2 h hr P kP
  obtain ⟨hl, t1, t2, d, ok, c, m⟩ := hr
  have cl := rd_close (x := nI 0) ck hl t1 t2 ok c m
  obtain ⟨⟨a, ca, cn⟩, cs, _⟩ := c
  have e0 : hI h 146 0 = nI (asR (dS d)) := cs.1
  have m2 := MP_thrown (x := nI 0) m
  have hl2 : LX (sI h 223 0 (nI 0)) := LX_sI hl
  have h4 := cn.1.1
  refine ⟨S_128 hl, a, ca, 146, R_128_2 hl, S_146 hl, cn.2.1, ?_⟩
  rw [e0]
  rcases Classical.em (∃ c, isRg (dN d) (asR (dS d)) y1 c) with ⟨c, hc⟩ | hc
  · have hlt := isRg_lt cn.1 hc
    have c40 := hc.1
    have e1 := m2.2.2.1.2 c hc.1 hc.2.1
    have e2 := m2.2.2.2.1.1 c hc.1 hc.2.1
    obtain ⟨w, w1, w2, w3, w4, w5, w6, w7⟩ := id cn.2.2.2.2.2.2.2
    have w6c := w6 c hc.1
    have emr : ∀ {A : Int32}, (∀ P2 : Int32 → MH → Prop, P2 A (sI h 223 0 (nI 0)) → wX10_ring 223 y1 y2 h P2) → P A h := fun hm => kP _ _ (S_223 hl) (fun P2 k2 => hm P2 (k2 _ cl))
    have hvp : vp_in (nI (bcN (nvMy (dN d) (asR (dS d))) c)) 64 := vp_in_nI (by omega) (by omega)
    have opn : ∀ {P2 : Int32 → MH → Prop}, (((y2).toInt < 0 ∨ 5 < (y2).toInt → P2 ((-2 : Int32)) (sI h 223 0 (nI 0))) ∧ (y2 = nI 0 → P2 (nI (nvOn (dN d) c)) (sI h 223 0 (nI 0))) ∧ (y2 = nI 1 → P2 (nI (nvNd (dN d) c)) (sI h 223 0 (nI 0))) ∧ (y2 = nI 2 → P2 (nI (nvCh (dN d) c)) (sI h 223 0 (nI 0))) ∧ (y2 = nI 3 → P2 (nI (nvPc (dN d) (asR (dS d)) c)) (sI h 223 0 (nI 0))) ∧ (y2 = nI 4 → P2 (nI (bcN (nvOn (dN d) c) 10 + 2 * bcN (nvCh (dN d) c) 10)) (sI h 223 0 (nI 0))) ∧ (y2 = nI 5 → P2 (nI (asC (dS d) c)) (sI h 223 0 (nI 0)))) → wX10_ring 223 y1 y2 h P2 := by
      intro P2 k
      refine ⟨S_223 hl, fun _ e => ?_⟩
      subst e
      refine m_isRing1 hl2 cn.1 m2.2.2.1 hc ⟨fun _ => ⟨k.1, fun z => ⟨S_223 hl2, 230, R_223_18 hl2, 64, S_230 hl2, ?_, ?_⟩, fun z => ⟨S_223 hl2, 232, R_223_20 hl2, 64, S_232 hl2, ?_, ?_⟩, fun z => ⟨S_223 hl2, 231, R_223_19 hl2, 64, S_231 hl2, ?_, ?_⟩, fun z => ⟨S_223 hl2, 233, R_223_21 hl2, 64, S_233 hl2, ?_, ?_⟩, fun z => ⟨S_223 hl2, ?_⟩, fun z => ⟨S_223 hl2, 224, R_223_1 hl2, 7011, S_224 hl2, ?_, ?_⟩⟩, fun z => absurd z (by decide)⟩
      · rw [hc.2.2]; exact hvp
      · rw [hc.2.2, nI_clamp (by omega), e1.1]; exact k.2.1 z
      · rw [hc.2.2]; exact hvp
      · rw [hc.2.2, nI_clamp (by omega), e1.2.2.1]; exact k.2.2.1 z
      · rw [hc.2.2]; exact hvp
      · rw [hc.2.2, nI_clamp (by omega), e1.2.1]; exact k.2.2.2.1 z
      · rw [hc.2.2]; exact hvp
      · rw [hc.2.2, nI_clamp (by omega), e1.2.2.2]; exact k.2.2.2.2.1 z
      · rw [hc.2.2]
        exact m_usesOf hl2 cn.1 m2.2.2.1 hc.1 hc.2.1 (k.2.2.2.2.2.1 z)
      · rw [hc.2.2, nI_add]; exact vp_in_nI (by omega) (by omega)
      · rw [hc.2.2, nI_add, nI_clamp (by omega)]
        have e3 : hI (sI h 223 0 (nI 0)) 224 (49 + bcN (nvMy (dN d) (asR (dS d))) c) = nI (asC (dS d) c) := e2
        rw [e3]
        exact k.2.2.2.2.2.2 z
    refine n_cycleOf1 cn ok.1.1 hc ⟨fun _ => ⟨fun z => emr (fun P2 k2 => opn ⟨fun _ => k2, fun e => absurd e (ne_nI (n := 5) (by omega) z (by omega)), fun e => absurd e (ne_nI (n := 5) (by omega) z (by omega)), fun e => absurd e (ne_nI (n := 5) (by omega) z (by omega)), fun e => absurd e (ne_nI (n := 5) (by omega) z (by omega)), fun e => absurd e (ne_nI (n := 5) (by omega) z (by omega)), fun e => absurd e (ne_nI (n := 5) (by omega) z (by omega))⟩), ?_, ?_, ?_, ?_, ?_, ?_⟩, fun z => absurd (nI_pos' (by omega)) z⟩
    · intro z
      refine ⟨S_128 hl, a, ca, cn.2.1, w 11, (w1 11 (by omega) (by omega) (by omega)).1, nvC (dN d), w2.2.2.2.2.2.2.1, vp_in_nI hc.1 (by omega), ?_⟩
      rw [nI_clamp (by omega), w6c.1]
      subst z
      exact emr (fun P2 k2 => opn ⟨fun q => sw_out (n := 5) (by omega) (by omega) q, fun _ => k2, fun q => sw_no (by omega) (by omega) (by omega) q, fun q => sw_no (by omega) (by omega) (by omega) q, fun q => sw_no (by omega) (by omega) (by omega) q, fun q => sw_no (by omega) (by omega) (by omega) q, fun q => sw_no (by omega) (by omega) (by omega) q⟩)
    · intro z
      refine ⟨S_128 hl, a, ca, cn.2.1, w 12, (w1 12 (by omega) (by omega) (by omega)).1, nvC (dN d), w2.2.2.2.2.2.2.2.1, vp_in_nI hc.1 (by omega), ?_⟩
      rw [nI_clamp (by omega), w6c.2.1]
      subst z
      exact emr (fun P2 k2 => opn ⟨fun q => sw_out (n := 5) (by omega) (by omega) q, fun q => sw_no (by omega) (by omega) (by omega) q, fun _ => k2, fun q => sw_no (by omega) (by omega) (by omega) q, fun q => sw_no (by omega) (by omega) (by omega) q, fun q => sw_no (by omega) (by omega) (by omega) q, fun q => sw_no (by omega) (by omega) (by omega) q⟩)
    · intro z
      refine ⟨S_128 hl, a, ca, cn.2.1, w 13, (w1 13 (by omega) (by omega) (by omega)).1, nvC (dN d), w2.2.2.2.2.2.2.2.2.1, vp_in_nI hc.1 (by omega), ?_⟩
      rw [nI_clamp (by omega), w6c.2.2]
      subst z
      exact emr (fun P2 k2 => opn ⟨fun q => sw_out (n := 5) (by omega) (by omega) q, fun q => sw_no (by omega) (by omega) (by omega) q, fun q => sw_no (by omega) (by omega) (by omega) q, fun _ => k2, fun q => sw_no (by omega) (by omega) (by omega) q, fun q => sw_no (by omega) (by omega) (by omega) q, fun q => sw_no (by omega) (by omega) (by omega) q⟩)
    · intro z
      refine ⟨S_128 hl, a, ca, 146, R_128_2 hl, S_146 hl, cn.2.1, ?_⟩
      rw [e0]
      subst z
      exact n_priceOf cn hc.1 ok.1.1 (emr (fun P2 k2 => opn ⟨fun q => sw_out (n := 5) (by omega) (by omega) q, fun q => sw_no (by omega) (by omega) (by omega) q, fun q => sw_no (by omega) (by omega) (by omega) q, fun q => sw_no (by omega) (by omega) (by omega) q, fun _ => k2, fun q => sw_no (by omega) (by omega) (by omega) q, fun q => sw_no (by omega) (by omega) (by omega) q⟩))
    · intro z
      refine ⟨S_128 hl, a, ca, cn.2.1, ?_⟩
      subst z
      exact n_allUses cn hc.1 (emr (fun P2 k2 => opn ⟨fun q => sw_out (n := 5) (by omega) (by omega) q, fun q => sw_no (by omega) (by omega) (by omega) q, fun q => sw_no (by omega) (by omega) (by omega) q, fun q => sw_no (by omega) (by omega) (by omega) q, fun q => sw_no (by omega) (by omega) (by omega) q, fun _ => k2, fun q => sw_no (by omega) (by omega) (by omega) q⟩))
    · intro z
      refine ⟨S_128 hl, 146, R_128_2 hl, S_146 hl, 147, R_146_2 hl, 40, S_147 hl, vp_in_nI (by omega) (by omega), ?_⟩
      have e3 : hI h 147 c = nI (asC (dS d) c) := cs.2.2.1 c (by omega)
      rw [nI_clamp (by omega), e3]
      subst z
      exact emr (fun P2 k2 => opn ⟨fun q => sw_out (n := 5) (by omega) (by omega) q, fun q => sw_no (by omega) (by omega) (by omega) q, fun q => sw_no (by omega) (by omega) (by omega) q, fun q => sw_no (by omega) (by omega) (by omega) q, fun q => sw_no (by omega) (by omega) (by omega) q, fun q => sw_no (by omega) (by omega) (by omega) q, fun _ => k2⟩)
  · refine n_cycleOf0 cn ok.1.1 hc ⟨fun z => absurd z (by decide), fun _ => kP _ _ (S_223 hl) (fun P2 k2 => ⟨S_223 hl, fun _ e => ?_⟩)⟩
    subst e
    exact m_isRing0 hl2 cn.1 m2.2.2.1 hc ⟨fun z => absurd nI_0 z, fun _ => k2 _ cl⟩
