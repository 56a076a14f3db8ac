/-! ===== bits once more; runs, path ===== -/
theorem bt_tb (s k : Nat) : bt s k = 1 ↔ s.testBit k = true := by
  rw [Nat.testBit_eq_decide_div_mod_eq, decide_eq_true_iff]
  exact Iff.rfl
theorem bt_eq_of {a b i j : Nat} (h : a.testBit i = b.testBit j) : bt a i = bt b j := by
  rcases bt01 a i with x | x <;> rcases bt01 b j with y | y
  · rw [x, y]
  · have h1 := (bt_tb b j).mp y
    rw [← h] at h1
    have := (bt_tb a i).mpr h1
    omega
  · have h1 := (bt_tb a i).mp x
    rw [h] at h1
    have := (bt_tb b j).mpr h1
    omega
  · rw [x, y]
theorem bcN_cong {a b : Nat} : ∀ n, (∀ j, j < n → bt a j = bt b j) → bcN a n = bcN b n
  | 0, _ => rfl
  | n + 1, h => by
    show bcN a n + bt a n = bcN b n + bt b n
    rw [bcN_cong n (fun j hj => h j (by omega)), h n (by omega)]
theorem bcN_mod {m c : Nat} (hc : c ≤ 64) : bcN (m % 2 ^ c) 64 = bcN m c := by
  have e := bcz_hi (Nat.mod_lt m (Nat.two_pow_pos c)) (64 - c)
  rw [show c + (64 - c) = 64 from by omega] at e
  rw [e]
  refine bcN_cong c (fun j hj => bt_eq_of ?_)
  rw [Nat.testBit_mod_two_pow, decide_eq_true hj, Bool.true_and]
theorem lmask : ∀ c, c < 40 → (((1 : Int64) <<< ((nI c).toInt64 &&& 63)) - (1 : Int64)).toBitVec.toNat = 2 ^ c - 1 := by decide
theorem lN_mask {m c : Nat} (hm : m < 2 ^ 63) (hc : c < 40) : (lN m &&& (((1 : Int64) <<< ((nI c).toInt64 &&& 63)) - (1 : Int64))) = lN (m % 2 ^ c) := by
  have h1 : m % 2 ^ c ≤ m := Nat.mod_le _ _
  apply Int64.toBitVec_inj.mp
  apply BitVec.eq_of_toNat_eq
  rw [lq_and, lmask c hc, lN_toNat hm, lN_toNat (by omega)]
  exact Nat.and_two_pow_sub_one_eq_mod _ _
theorem n_ringNumber {Q : Int32 → MH → Prop} {h : MH} {a t c : Nat} {v : NV} (p : NetV h a v) (ht : t < 10) (hc : c < 40) (hq : Q (nI (bcN (nvMy v t) c)) h) : wX4_ringNumber a (nI t) (nI c) h Q := by
  obtain ⟨p0, p1, p2, p3, p4, p5, p6, w, w1, w2, w3, w4, w5, w6, w7⟩ := p
  have c0 := p0.1
  have hm := lt_of_pow40 (p0.2.2.2.2.2.2 t ht) (by omega)
  have h1 : nvMy v t % 2 ^ c ≤ nvMy v t := Nat.mod_le _ _
  unfold wX4_ringNumber
  refine ⟨p1, w 9, (w1 9 (by omega) (by omega) (by omega)).1, 10, w2.2.2.2.2.2.1, vp_in_nI (by omega) (by omega), ?_⟩
  rw [nI_clamp (by omega), w5 t ht, lN_mask hm hc]
  refine u_lbitCount (by omega) ?_
  rw [bcN_mod (by omega)]
  exact hq
theorem wh_slot {c k p : Nat} (hc : c < 40) (hk : k < 9) (hp : p < 1024) : nI ((9 * c + k) * 1024 + p) >>> (nI 10 &&& 31) = nI (9 * c + k) := by
  rw [pk_shrN (by omega) _ 10 (sh31 10 (by omega))]
  congr 1
  omega
theorem ST_runs_c {CV : MH → Prop} (ck : ∀ h h1, CvEq h h1 → CV h → CV h1) : ST_runs (RLY (RRc CV)) := by
  intro y1 y2 y3 h hr P kP
  obtain ⟨hl, t1, t2, d, ok, c, m⟩ := hr
  have cl := rd_close (x := nI 0) ck hl t1 t2 ok c m
  obtain ⟨⟨a, ca, cn⟩, cs, _⟩ := c
  have m2 := MP_thrown (x := nI 0) m
  have hl2 : LX (sI h 223 0 (nI 0)) := LX_sI hl
  have h4 := cn.1.1
  refine ⟨S_128 hl, a, ca, cn.2.1, ?_⟩
  have emr : ∀ {A : Int32}, (∀ P2 : Int32 → MH → Prop, P2 A (sI h 223 0 (nI 0)) → wX10_runs 223 y1 y2 y3 h P2) → P A h := fun hm => kP _ _ (S_223 hl) (fun P2 k2 => hm P2 (k2 _ cl))
  rcases Classical.em (∃ l, isLk (dN d) y1 l) with ⟨l, hk⟩ | hk
  · obtain ⟨hk1, rfl⟩ := hk
    obtain ⟨w, w1, w2, w3, w4, w5, w6, w7⟩ := id cn.2.2.2.2.2.2.2
    have hw := (cn.1.2.1 l hk1).2.2.2.2
    have ew : hI (sI h 223 0 (nI 0)) 224 (39 + l) = nI (nvW (dN d) l) := (m2.2.1.2.2.2.1 l hk1).2.2.2
    have lm : ((nI (nvW (dN d) l) - nI 1).toInt64).toInt = (nvW (dN d) l : Int) - 1 := by
      rw [Int32.toInt_toInt64, Int32.toInt_sub, nI_toInt (by omega), nI_toInt (by omega), Int.bmod_eq_of_le (by omega) (by omega)]
      rfl
    have l0 : (0 : Int64).toInt = 0 := by decide
    have l2 : (2 : Int64).toInt = 2 := by decide
    have opn : ∀ {P2 : Int32 → MH → Prop}, ((¬ (0 ≤ y2.toInt ∧ y2.toInt ≤ (nvW (dN d) l : Int) - 1) → P2 (-2) (sI h 223 0 (nI 0))) ∧ ((0 ≤ y2.toInt ∧ y2.toInt ≤ (nvW (dN d) l : Int) - 1) → (¬ (0 ≤ y3.toInt ∧ y3.toInt ≤ 2) → P2 (-2) (sI h 223 0 (nI 0))) ∧ ((0 ≤ y3.toInt ∧ y3.toInt ≤ 2) → wX10_hasFailed 223 (nI l) (sI h 223 0 (nI 0)) (fun r16 h17 => (r16 = 0 → P2 ((-1 : Int32)) h17) ∧ (¬ (r16 = 0) → hS h17 223 = (1, 10) ∧ wX10_runOf 223 ((nI 2 * nI l) + y2) (nI 0) h17 (fun r19 h20 => (¬ (r19 = 0) → (¬ (y3 = 0) → hS h20 223 = (1, 10) ∧ wX10_runOf 223 ((nI 2 * nI l) + y2) y3 h20 (fun r22 h23 => P2 (r22) h23)) ∧ (y3 = 0 → hS h20 223 = (1, 10) ∧ wX10_runOf 223 ((nI 2 * nI l) + y2) (nI 0) h20 (fun r25 h26 => P2 ((r25 - nI 1)) h26))) ∧ (r19 = 0 → P2 ((-1 : Int32)) h20))))))) → wX10_runs 223 (nI l) y2 y3 h P2 := by
      intro P2 k
      refine ⟨S_223 hl, fun _ e => ?_⟩
      subst e
      refine m_isLink1 hl2 (by omega) m2.2.1 ⟨hk1, rfl⟩ ⟨fun z => absurd z (by decide), fun _ => ⟨S_223 hl2, 224, R_223_1 hl2, 7011, S_224 hl2, ?_, ?_⟩⟩
      · rw [nI_add]; exact vp_in_nI (by omega) (by omega)
      · rw [nI_add, nI_clamp (by omega), ew]
        refine u_within (fun p1 p2 => ⟨fun z => absurd z (by decide), fun _ => ?_⟩) (fun c => ⟨fun _ => k.1 (by rw [lm, l0] at c; exact c), fun z => absurd nI_0 z⟩)
        rw [lm] at p2
        rw [l0] at p1
        have k3 := k.2 ⟨p1, p2⟩
        refine u_within (fun q1 q2 => ⟨fun _ => ⟨S_223 hl2, ?_⟩, fun z => absurd z (by decide)⟩) (fun c => ⟨fun z => absurd nI_0 z, fun _ => k3.1 (by rw [l0, l2] at c; exact c)⟩)
        rw [l0] at q1
        rw [l2] at q2
        exact k3.2 ⟨q1, q2⟩
    refine n_hasLink1 cn ⟨hk1, rfl⟩ ⟨fun z => absurd z (by decide), fun _ => ⟨fun z => ?_, fun z => ⟨S_128 hl, a, ca, cn.2.1, w 7, (w1 7 (by omega) (by omega) (by omega)).1, 10, w2.2.2.2.1, vp_in_nI (by omega) (by omega), ?_⟩⟩⟩
    · rw [Int32.lt_iff_toInt_lt, i0_toInt] at z
      exact emr (fun P2 k2 => opn ⟨fun _ => k2, fun q => absurd q (by omega)⟩)
    · rw [nI_clamp (by omega), (w3 l hk1).2.2.2]
      rw [Int32.lt_iff_toInt_lt, i0_toInt] at z
      refine ⟨fun z2 => ?_, fun z2 => ⟨fun z3 => ?_, fun z3 => ⟨fun z4 => ?_, fun z4 => ?_⟩⟩⟩
      · rw [Int32.le_iff_toInt_le, nI_toInt (by omega)] at z2
        exact emr (fun P2 k2 => opn ⟨fun _ => k2, fun q => absurd q (by omega)⟩)
      · rw [Int32.lt_iff_toInt_lt, i0_toInt] at z3
        exact emr (fun P2 k2 => opn ⟨fun _ => k2, fun q => ⟨fun _ => k2, fun q2 => absurd q2 (by omega)⟩⟩)
      · rw [Int32.lt_iff_toInt_lt, i0_toInt] at z3
        rw [Int32.le_iff_toInt_le, nI_toInt (by omega)] at z4
        rw [Int32.le_iff_toInt_le, nI_toInt (by omega)] at z2
        obtain ⟨u, hu, eu⟩ : ∃ u, u < nvW (dN d) l ∧ y2 = nI u := ⟨y2.toInt.toNat, by omega, by
          apply Int32.toInt_inj.mp
          rw [nI_toInt (by omega)]
          omega⟩
        obtain ⟨j, hj, ej⟩ : ∃ j, j < 3 ∧ y3 = nI j := ⟨y3.toInt.toNat, by omega, by
          apply Int32.toInt_inj.mp
          rw [nI_toInt (by omega)]
          omega⟩
        subst eu
        subst ej
        have es : hI h 148 (l * 2 + u) = encW (asW (dS d) (2 * l + u)) := by
          rw [show l * 2 + u = 2 * l + u from by omega]
          exact cs.2.2.2 _ (by omega)
        have opn2 : ∀ {P2 : Int32 → MH → Prop}, ((bt (asF (dS d)) l = 0 → P2 (-1) (sI h 223 0 (nI 0))) ∧ (bt (asF (dS d)) l = 1 → (asW (dS d) (2 * l + u) = none → P2 (-1) (sI h 223 0 (nI 0))) ∧ (∀ c k p, asW (dS d) (2 * l + u) = some (c, k, p) → (j = 0 → P2 (nI (bcN (asM (dN d) (dS d)) c)) (sI h 223 0 (nI 0))) ∧ (j = 1 → P2 (nI k) (sI h 223 0 (nI 0))) ∧ (j = 2 → P2 (nI p) (sI h 223 0 (nI 0)))))) → wX10_runs 223 (nI l) (nI u) (nI j) h P2 := by
          intro P2 k
          refine opn ⟨fun q => absurd (by omega) q, fun _ => ⟨fun q => absurd (by omega) q, fun _ => m_failed hl2 ok.1 (by omega) m2.2.2.2.1 (by omega) ⟨fun q => k.1 ((nI_eq (by have := bt_lt (asF (dS d)) l; omega) (by omega)).mp (q.trans nI_0.symm)), fun q => ⟨S_223 hl2, ?_⟩⟩⟩⟩
          have b1 : bt (asF (dS d)) l = 1 := by
            rcases bt01 (asF (dS d)) l with b | b
            · rw [b] at q; exact absurd nI_0 q
            · exact b
          have k3 := k.2 b1
          rw [nI_mul, nI_add]
          refine u_runOf hl2 (by omega) (by omega) ?_
          rw [StM_run m2.2.2.2.1 (by omega) (by omega)]
          have rz := runM0 (u := 2 * l + u) ok.1 (by omega) (by omega)
          cases e : asW (dS d) (2 * l + u) with
          | none => exact ⟨fun q => absurd rfl q, fun _ => k3.1 e⟩
          | some t =>
            obtain ⟨c, kk, p⟩ := t
            have k5 := k3.2 c kk p e
            rw [e] at rz
            refine ⟨fun _ => ⟨fun q2 => ⟨S_223 hl2, u_runOf hl2 (by omega) hj ?_⟩, fun q2 => ⟨S_223 hl2, u_runOf hl2 (by omega) (by omega) ?_⟩⟩, fun q2 => absurd (rz.mp q2) (by simp)⟩
            · rw [StM_run m2.2.2.2.1 (by omega) hj, e]
              have q3 : j = 1 ∨ j = 2 := by
                have : j ≠ 0 := fun z => by subst z; exact q2 nI_0
                omega
              rcases q3 with q3 | q3 <;> subst q3
              · exact k5.2.1 rfl
              · exact k5.2.2 rfl
            · rw [StM_run m2.2.2.2.1 (by omega) (by omega), e]
              have q3 : j = 0 := (nI_eq (by omega) (by omega)).mp (q2.trans nI_0.symm)
              show P2 (nI (bcN (asM (dN d) (dS d)) c + 1) - nI 1) _
              rw [nI_subN (by omega), Nat.add_sub_cancel]
              exact k5.1 q3
        rw [nI_mul, nI_add, nI_clamp (by omega)]
        refine ⟨146, R_128_2 hl, S_146 hl, 148, R_146_3 hl, 20, S_148 hl, vp_in_nI (by omega) (by omega), fun _ ev => ?_⟩
        rw [es] at ev
        subst ev
        have en := encW_neg (u := 2 * l + u) ok.1 (by omega) (by omega)
        cases e : asW (dS d) (2 * l + u) with
        | none =>
          rw [e] at en opn2
          refine ⟨fun q => absurd rfl (en.mp q), fun _ => emr (fun P2 k2 => opn2 ⟨fun _ => k2, fun _ => ⟨fun _ => k2, fun c k p q => absurd q (by simp)⟩⟩)⟩
        | some t =>
          obtain ⟨c, k, p⟩ := t
          have aw := ok.1.2.2.2 (2 * l + u) (by omega) c k p e
          have aw2 := (ok.1.2.2.1 c (by omega)).1
          rw [e] at en opn2
          have hb : bt (asF (dS d)) l = 1 := by
            have := aw.2.2.2.2.2.2.2
            rw [show (2 * l + u) / 2 = l from by omega] at this
            exact this
          refine ⟨fun _ => ?_, fun q => absurd (en.mpr (by simp)) q⟩
          rw [show hI h 146 0 = nI (asR (dS d)) from cs.1]
          show (_ → _ → wX6_pathAt (nI ((9 * c + k) * 1024 + p)) h _) ∧ (_ → _ ∧ wX4_ringNumber a (nI (asR (dS d))) ((nI ((9 * c + k) * 1024 + p) >>> (nI 10 &&& 31)) / nI 9) h _) ∧ (_ → _ ∧ P ((nI ((9 * c + k) * 1024 + p) >>> (nI 10 &&& 31)) - (nI ((9 * c + k) * 1024 + p) >>> (nI 10 &&& 31)) / nI 9 * nI 9) h)
          rw [wh_slot (by omega) (by omega) (by omega), pk_rem (by omega) (by omega) (by omega), pk_div (by omega) (by omega) (by omega), show (9 * c + k) / 9 = c from by omega, show (9 * c + k) % 9 = k from by omega]
          refine ⟨fun q0 q1 => ?_, fun q0 => ⟨by decide, n_ringNumber cn ok.1.1 (by omega) ?_⟩, fun q0 => ⟨by decide, ?_⟩⟩
          · unfold wX6_pathAt
            rw [pk_andN (by omega) 10 (by decide), show ((9 * c + k) * 1024 + p) % 2 ^ 10 = p from by omega]
            have j2 : j = 2 := by
              have : j ≠ 0 := fun z => by subst z; exact q0 rfl
              have : j ≠ 1 := fun z => by subst z; exact q1 rfl
              omega
            refine emr (fun P2 k2 => opn2 ⟨fun q => absurd hb (by omega), fun _ => ⟨fun q => absurd q (by simp), fun c2 k3 p2 q => ?_⟩⟩)
            injection q with q
            obtain ⟨rfl, rfl, rfl⟩ : c = c2 ∧ k = k3 ∧ p = p2 := by
              injection q with q1 q2
              injection q2 with q2 q3
              exact ⟨q1, q2, q3⟩
            exact ⟨fun z => absurd z (by omega), fun z => absurd z (by omega), fun _ => k2⟩
          · have j0 : j = 0 := (nI_eq (by omega) (by omega)).mp q0
            refine emr (fun P2 k2 => opn2 ⟨fun q => absurd hb (by omega), fun _ => ⟨fun q => absurd q (by simp), fun c2 k3 p2 q => ?_⟩⟩)
            injection q with q
            obtain ⟨rfl, rfl, rfl⟩ : c = c2 ∧ k = k3 ∧ p = p2 := by
              injection q with q1 q2
              injection q2 with q2 q3
              exact ⟨q1, q2, q3⟩
            exact ⟨fun _ => k2, fun z => absurd z (by omega), fun z => absurd z (by omega)⟩
          · have j1 : j = 1 := (nI_eq (by omega) (by omega)).mp q0
            refine emr (fun P2 k2 => opn2 ⟨fun q => absurd hb (by omega), fun _ => ⟨fun q => absurd q (by simp), fun c2 k3 p2 q => ?_⟩⟩)
            injection q with q
            obtain ⟨rfl, rfl, rfl⟩ : c = c2 ∧ k = k3 ∧ p = p2 := by
              injection q with q1 q2
              injection q2 with q2 q3
              exact ⟨q1, q2, q3⟩
            exact ⟨fun z => absurd z (by omega), fun _ => k2, fun z => absurd z (by omega)⟩
      · rw [Int32.le_iff_toInt_le, nI_toInt (by omega)] at z4
        exact emr (fun P2 k2 => opn ⟨fun _ => k2, fun q => ⟨fun _ => k2, fun q2 => absurd q2 (by omega)⟩⟩)
  · refine n_hasLink0 cn hk ⟨fun _ => kP _ _ (S_223 hl) (fun P2 k2 => ⟨S_223 hl, fun _ e => ?_⟩), fun z => absurd nI_0 z⟩
    subst e
    exact m_isLink0 hl2 (by omega) m2.2.1 hk ⟨fun _ => k2 _ cl, fun z => absurd nI_0 z⟩
