/-! ===== paths ===== -/
theorem nI_andn {a b : Nat} (ha : a < 2 ^ 31) (hb : b < 2 ^ 31) : (nI a &&& (nI b ^^^ (-1 : Int32))) = nI (a ^^^ (a &&& b)) := by
  have b1 : (-1 : Int32).toBitVec = BitVec.allOnes 32 := by decide
  have h0 : a &&& b ≤ a := Nat.and_le_left
  have h1 : a ^^^ (a &&& b) < 2 ^ 31 := Nat.xor_lt_two_pow ha (by omega)
  apply Int32.toBitVec_inj.mp
  rw [Int32.toBitVec_and, Int32.toBitVec_xor, b1, BitVec.xor_allOnes]
  apply BitVec.eq_of_getLsbD_eq
  intro i hi
  have k1 : ∀ n, n < 2 ^ 31 → (nI n).toBitVec.getLsbD i = n.testBit i := fun n hn => by
    rw [nI_bv, BitVec.getLsbD_ofNat, decide_eq_true hi, Bool.true_and]
  rw [BitVec.getLsbD_and, BitVec.getLsbD_not, k1 _ ha, k1 _ hb, k1 _ h1, Nat.testBit_xor, Nat.testBit_and, decide_eq_true hi]
  cases a.testBit i <;> cases b.testBit i <;> rfl
set_option maxRecDepth 100000 in
theorem anl_ok : ∀ l, l < 10 → ∀ s, s < 1024 → bt s l = 1 → s ^^^ (s &&& 2 ^ l) = s - 2 ^ l := by decide +kernel
def pathR (p : Nat) : Int32 := if p = 0 then -1 else nI p
theorem pow_le10 {l : Nat} (h : l < 10) : 2 ^ l < 1024 := by
  have : (2 : Nat) ^ l < 2 ^ 10 := Nat.pow_lt_pow_right (by omega) h
  omega
theorem m_pathOf {Q : Int32 → MH → Prop} {h : MH} {v : NV} {t c l i : Nat} (hl : LX h) (hv : NvOK v) (pn : MNet (hI h 224) v) (p : RgV h v t) (hc : c < nvC v) (hb : bt (nvMy v t) c = 1) (hl2 : l < nvL v) (hi : i < 2) (hq : Q (pathR (nvPa v c l i)) h) : wX10_pathOf 223 (nI (bcN (nvMy v t) c)) (nI l) (nI i) h Q := by
  have hlt := isRg_lt (x := nI (bcN (nvMy v t) c)) hv ⟨hc, hb, rfl⟩
  have h4 := hv.1
  have c1 := hv.2.2.1 c hc
  have o1 := lt_of_pow c1.2.1 (by omega)
  have o2 := lt_of_pow c1.2.2.2 (by omega)
  obtain ⟨e1, e2, e3, e4⟩ := p.2 c hc hb
  have vp : vp_in (nI (bcN (nvMy v t) c)) 64 := vp_in_nI (by omega) (by omega)
  unfold wX10_pathOf
  refine ⟨S_223 hl, m_useOf hl hv p hc hb hl2 ?_⟩
  rw [nI_clamp (show bcN (nvMy v t) c < 2 ^ 31 by omega)]
  have pa := hv.2.2.2.2.1 c l hc hl2
  unfold usN
  have qi : i = 0 ∨ i = 1 := by omega
  rcases pa with q | q | q
  · rw [q.1, q.2.1]
    rcases qi with qi | qi <;> subst qi
    · refine ⟨fun _ => ⟨S_223 hl, 230, R_223_18 hl, 64, S_230 hl, vp, ?_⟩, fun z => absurd (nI_lt (by omega) (by omega)) z⟩
      rw [e1]
      refine u_isIn (by omega) (by omega) ?_
      rw [q.1]
      refine ⟨fun z => absurd z (by decide), fun _ => ⟨S_223 hl, 230, R_223_18 hl, 64, S_230 hl, vp, ?_⟩⟩
      have hp := pow_le10 (show l < 10 by omega)
      rw [e1, nI_shl l (by omega), nI_andn (by omega) (by omega), anl_ok l (by omega) _ o1 q.1, ← q.2.2.1]
      unfold pathR at hq
      rw [if_neg (by omega)] at hq
      exact hq
    · refine ⟨fun z => absurd z (nI_nlt (by omega) (by omega)), fun _ => ?_⟩
      rw [q.2.2.2.2.2] at hq
      exact hq
  · rw [q.1, q.2.1]
    refine ⟨fun _ => ⟨S_223 hl, 230, R_223_18 hl, 64, S_230 hl, vp, ?_⟩, fun z => absurd (nI_lt (by omega) (by omega)) z⟩
    rw [e1]
    refine u_isIn (by omega) (by omega) ?_
    rw [q.1]
    refine ⟨fun _ => ⟨S_223 hl, pn.2.2.2.2.2.2 h (bcN (nvMy v t) c) c l hl (fun _ _ => rfl) (by omega) hc hl2 e1 q.2.1 _ (fun s u hsu hsd => ⟨S_223 hl, 230, R_223_18 hl, 64, S_230 hl, vp, fun _ e => ?_⟩)⟩, fun z => absurd nI_0 z⟩
    rw [e1, hsd] at e
    subst e
    show Q (if (if nI i = 0 then nI 1 else nI 0) = (if nI u ≤ nI s then nI 0 else nI 1) then nI s else nI u) h
    unfold pathR at hq
    rcases hsu with ⟨hs, hu⟩ | ⟨hs, hu⟩
    · have lt : ¬ (nI u ≤ nI s) := nI_ge (by omega) (by omega)
      rw [if_neg lt]
      rcases qi with qi | qi <;> subst qi
      · rw [if_pos nI_0, if_pos rfl, hs]
        rw [if_neg (by omega)] at hq
        exact hq
      · rw [if_neg (show ¬ (nI 1 = 0) by decide), if_neg (show ¬ (nI 0 = nI 1) by decide), hu]
        rw [if_neg (by omega)] at hq
        exact hq
    · have lt : nI u ≤ nI s := nI_le (by omega) (by omega)
      rw [if_pos lt]
      rcases qi with qi | qi <;> subst qi
      · rw [if_pos nI_0, if_neg (show ¬ (nI 1 = nI 0) by decide), hu]
        rw [if_neg (by omega)] at hq
        exact hq
      · rw [if_neg (show ¬ (nI 1 = 0) by decide), if_pos rfl, hs]
        rw [if_neg (by omega)] at hq
        exact hq
  · rw [q.1, q.2.1]
    refine ⟨fun z => absurd z (nI_nlt (by omega) (by omega)), fun _ => ?_⟩
    have e0 : nvPa v c l i = 0 := by
      rcases qi with qi | qi <;> subst qi
      · exact q.2.2.1
      · exact q.2.2.2
    rw [e0] at hq
    exact hq
theorem n_pathOf {Q : Int32 → MH → Prop} {h : MH} {v : NV} {a c l i : Nat} (p : NetV h a v) (hc : c < nvC v) (hl2 : l < nvL v) (hi : i < 2) (hq : Q (nI (nvPa v c l i)) h) : wX4_pathOf a (nI c) (nI l) (nI i) h Q := by
  obtain ⟨p0, p1, p2, p3, p4, p5, p6, w, w1, w2, w3, w4, w5, w6, w7⟩ := p
  have c0 := p0.1
  unfold wX4_pathOf
  simp only [nI_mul, nI_add]
  refine ⟨p1, w 14, (w1 14 (by omega) (by omega) (by omega)).1, 20 * nvC v, w2.2.2.2.2.2.2.2.2.2, vp_in_nI (by omega) (by omega), ?_⟩
  rw [nI_clamp (by omega), w7 c l i hc hl2 hi]
  exact hq
theorem pa_lt {v : NV} (hv : NvOK v) {c l : Nat} (hc : c < nvC v) (hl : l < nvL v) {i : Nat} (hi : i < 2) : nvPa v c l i < 1024 := by
  have pa := hv.2.2.2.2.1 c l hc hl
  have qi : i = 0 ∨ i = 1 := by omega
  rcases qi with qi | qi <;> subst qi <;> rcases pa with q | q | q <;> omega
theorem ST_path_c {CV : MH → Prop} (ck : ∀ h h1, CvEq h h1 → CV h → CV h1) : ST_path (RLY (RRc CV)) := by
  intro y1 y2 y3 h hr P kP
  obtain ⟨hl, t1, t2, d, ok, c, m⟩ := hr
  have cl := rd_close (x := nI 0) ck hl t1 t2 ok c m
  obtain ⟨⟨a, ca, cn⟩, cs, _⟩ := c
  have e0 : hI h 146 0 = nI (asR (dS d)) := cs.1
  have m2 := MP_thrown (x := nI 0) m
  have hl2 : LX (sI h 223 0 (nI 0)) := LX_sI hl
  have h4 := cn.1.1
  refine ⟨S_128 hl, a, ca, 146, R_128_2 hl, S_146 hl, cn.2.1, ?_⟩
  rw [e0]
  rcases Classical.em (∃ c, isRg (dN d) (asR (dS d)) y1 c) with ⟨c, hc⟩ | hc
  · have hlt := isRg_lt cn.1 hc
    have c40 := hc.1
    refine n_cycleOf1 cn ok.1.1 hc ⟨fun z => absurd z (nI_pos (by omega)), fun _ => ⟨S_128 hl, a, ca, cn.2.1, ?_⟩⟩
    rcases Classical.em (∃ l, isLk (dN d) y2 l) with ⟨l, hk⟩ | hk
    · obtain ⟨hk1, rfl⟩ := hk
      have opn : ∀ {P2 : Int32 → MH → Prop}, (0 ≤ y3 → wX10_pathOf 223 (nI (bcN (nvMy (dN d) (asR (dS d))) c)) (nI l) y3 (sI h 223 0 (nI 0)) P2) → (¬ (0 ≤ y3) → P2 (-3) (sI h 223 0 (nI 0))) → wX10_path 223 y1 (nI l) y3 h P2 := by
        intro P2 k1 k2
        refine ⟨S_223 hl, fun _ e => ?_⟩
        subst e
        refine m_isRing1 hl2 cn.1 m2.2.2.1 hc ⟨fun z => absurd z (by decide), fun _ => ⟨S_223 hl2, m_isLink1 hl2 (by omega) m2.2.1 ⟨hk1, rfl⟩ ⟨fun _ => ⟨fun z => ⟨S_223 hl2, ?_⟩, k2⟩, fun z => absurd z (by decide)⟩⟩⟩
        rw [hc.2.2]
        exact k1 z
      refine n_hasLink1 cn ⟨hk1, rfl⟩ ⟨fun _ => ⟨fun z => ⟨fun z2 => ⟨S_128 hl, a, ca, cn.2.1, ?_⟩, fun z2 => ?_⟩, fun z => kP _ _ (S_223 hl) (fun P2 k2 => opn (fun y => absurd y z) (fun _ => k2 _ cl))⟩, fun z => absurd z (by decide)⟩
      · rw [Int32.le_iff_toInt_le, i0_toInt] at z
        rw [Int32.le_iff_toInt_le, nI_toInt (by omega)] at z2
        obtain ⟨i, hi, ei⟩ : ∃ i, i < 2 ∧ y3 = nI i := ⟨y3.toInt.toNat, by omega, by
          apply Int32.toInt_inj.mp
          rw [nI_toInt (by omega)]
          omega⟩
        subst ei
        refine n_pathOf cn hc.1 hk1 hi ?_
        have pl := pa_lt cn.1 hc.1 hk1 hi
        have er : (if nI (nvPa (dN d) c l i) = 0 then (-1 : Int32) else nI (nvPa (dN d) c l i)) = pathR (nvPa (dN d) c l i) := by
          unfold pathR
          by_cases q : nvPa (dN d) c l i = 0
          · rw [if_pos q, q, if_pos nI_0]
          · rw [if_neg q, if_neg (fun y => q ((nI_eq (by omega) (by omega)).mp (y.trans nI_0.symm)))]
        show P (if nI (nvPa (dN d) c l i) = 0 then (-1 : Int32) else nI (nvPa (dN d) c l i)) h
        rw [er]
        exact kP _ _ (S_223 hl) (fun P2 k2 => opn (fun _ => m_pathOf hl2 cn.1 m2.2.1 m2.2.2.1 hc.1 hc.2.1 hk1 hi (k2 _ cl)) (fun y => absurd (nI_pos' (by omega)) y))
      · show P (if nI 0 = 0 then (-1 : Int32) else nI 0) h
        rw [if_pos nI_0]
        refine kP _ _ (S_223 hl) (fun P2 k2 => opn (fun _ => ?_) (fun y => absurd z y))
        unfold wX10_pathOf
        refine ⟨S_223 hl2, m_useOf hl2 cn.1 m2.2.2.1 hc.1 hc.2.1 hk1 ⟨fun y => ?_, fun _ => k2 _ cl⟩⟩
        exfalso
        have u2 : usN (dN d) c l ≤ 2 := by
          unfold usN
          have pa := cn.1.2.2.2.2.1 c l hc.1 hk1
          rcases pa with q | q | q <;> omega
        rw [Int32.lt_iff_toInt_lt, nI_toInt (by omega)] at y
        rw [Int32.le_iff_toInt_le, nI_toInt (by omega)] at z2
        omega
    · refine n_hasLink0 cn hk ⟨fun z => absurd nI_0 z, fun _ => kP _ _ (S_223 hl) (fun P2 k2 => ⟨S_223 hl, fun _ e => ?_⟩)⟩
      subst e
      exact m_isRing1 hl2 cn.1 m2.2.2.1 hc ⟨fun z => absurd z (by decide), fun _ => ⟨S_223 hl2, m_isLink0 hl2 (by omega) m2.2.1 hk ⟨fun z => absurd nI_0 z, fun _ => k2 _ cl⟩⟩⟩
  · refine n_cycleOf0 cn ok.1.1 hc ⟨fun _ => kP _ _ (S_223 hl) (fun P2 k2 => ⟨S_223 hl, fun _ e => ?_⟩), fun z => absurd (by decide) z⟩
    subst e
    exact m_isRing0 hl2 cn.1 m2.2.2.1 hc ⟨fun _ => k2 _ cl, fun z => absurd nI_0 z⟩
