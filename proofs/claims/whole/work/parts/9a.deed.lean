/-! ===== told deeds: the reference; trays of deeds ===== -/
theorem u_withinL {x lo hi : Int64} {h : MH} {Q : Int32 → MH → Prop} (k1 : lo.toInt ≤ x.toInt → x.toInt ≤ hi.toInt → Q (nI 1) h) (k2 : ¬ (lo.toInt ≤ x.toInt ∧ x.toInt ≤ hi.toInt) → Q (nI 0) h) : wX10_within x lo hi h Q := by
  unfold wX10_within
  rw [lg_cmp_lt, Int64.lt_iff_toInt_lt]
  refine ⟨fun c => k2 (by omega), fun c => ?_⟩
  by_cases c2 : 0 < lg_cmp x hi
  · rw [if_pos c2]
    rw [lg_cmp_gt, Int64.lt_iff_toInt_lt] at c2
    exact ⟨Or.inl (by decide), k2 (by omega)⟩
  · rw [if_neg c2]
    rw [lg_cmp_gt, Int64.lt_iff_toInt_lt] at c2
    exact ⟨Or.inr (by decide), k1 (by omega) (by omega)⟩
theorem l_sub {x y : Int64} {n k : Nat} (ex : x.toInt = (k + n : Nat)) (ey : y.toInt = (k : Int)) (hn : n < 1000) (hk : k < 1000) : x - y = (nI n).toInt64 := by
  apply Int64.toInt_inj.mp
  rw [Int64.toInt_sub, ex, ey, Int32.toInt_toInt64, nI_toInt (by omega), Int.bmod_eq_of_le (by omega) (by omega)]
  omega
theorem m_whyNot {Q : Int32 → MH → Prop} {h : MH} {v : NV} {s : AS} {x : Int64} (hl : LX h) (hv : NvOK v) (ok : AsOK v s) (pn : MNet (hI h 224) v) (pr : RgV h v (asR s)) (ps : StM v s (fun k => hI h 224 (49 + k))) (hq : Q (nI (deedF v s x.toInt).1) h) : wX10_whyNot 223 x h Q := by
  have h4 := hv.1
  have n1 : (10 : Int64).toInt = 10 := by decide
  have n2 : (19 : Int64).toInt = 19 := by decide
  have n3 : (100 : Int64).toInt = 100 := by decide
  have n4 : (109 : Int64).toInt = 109 := by decide
  have n5 : (110 : Int64).toInt = 110 := by decide
  have n6 : (119 : Int64).toInt = 119 := by decide
  have n7 : (200 : Int64).toInt = 200 := by decide
  have n8 : (299 : Int64).toInt = 299 := by decide
  have n9 : (300 : Int64).toInt = 300 := by decide
  have n10 : (399 : Int64).toInt = 399 := by decide
  unfold wX10_whyNot
  refine u_withinL (fun p1 p2 => ⟨fun z => absurd z (by decide), fun _ => ?_⟩) (fun q1 => ⟨fun _ => ?_, fun z => absurd nI_0 z⟩)
  · have e : x.toInt = ((10 + (x.toInt - 10).toNat : Nat) : Int) := by omega
    rw [e, deedF_rate (by omega)] at hq
    exact hq
  refine u_withinL (fun p1 p2 => ⟨fun z => absurd z (by decide), fun _ => ⟨S_223 hl, ?_⟩⟩) (fun q2 => ⟨fun _ => ?_, fun z => absurd nI_0 z⟩)
  · obtain ⟨n, hn, e⟩ : ∃ n : Nat, n < 10 ∧ x.toInt = ((100 + n : Nat) : Int) := ⟨(x.toInt - 100).toNat, by omega, by omega⟩
    rw [e, deedF_fail hn] at hq
    unfold deedX at hq
    rw [l_sub (k := 100) e n3 (by omega) (by omega)]
    refine why_fail1 hl hv ok pn ps (fun k => ?_) (fun l hk k => ?_) (fun l hk k => ?_)
    · rw [if_neg (fun q => k ⟨_, q, rfl⟩)] at hq; exact hq
    · have hk1 := hk.1
      rw [(nI_eq (by omega) (by omega)).mp hk.2, if_pos hk.1, if_pos k] at hq; exact hq
    · have hk1 := hk.1
      rw [(nI_eq (by omega) (by omega)).mp hk.2, if_pos hk.1, if_neg (by omega)] at hq; exact hq
  refine u_withinL (fun p1 p2 => ⟨fun z => absurd z (by decide), fun _ => ⟨S_223 hl, ?_⟩⟩) (fun q3 => ⟨fun _ => ?_, fun z => absurd nI_0 z⟩)
  · obtain ⟨n, hn, e⟩ : ∃ n : Nat, n < 10 ∧ x.toInt = ((110 + n : Nat) : Int) := ⟨(x.toInt - 110).toNat, by omega, by omega⟩
    rw [e, deedF_mend hn] at hq
    unfold deedM at hq
    rw [l_sub (k := 110) e n5 (by omega) (by omega)]
    refine why_mend1 hl hv ok pn ps (fun k => ?_) (fun l hk k => ?_) (fun l hk k => ?_)
    · rw [if_neg (fun q => k ⟨_, q, rfl⟩)] at hq; exact hq
    · have hk1 := hk.1
      rw [(nI_eq (by omega) (by omega)).mp hk.2, if_pos hk.1, if_neg (by omega)] at hq; exact hq
    · have hk1 := hk.1
      rw [(nI_eq (by omega) (by omega)).mp hk.2, if_pos hk.1, if_pos k] at hq; exact hq
  refine u_withinL (fun p1 p2 => ⟨fun z => absurd z (by decide), fun _ => ⟨S_223 hl, ?_⟩⟩) (fun q4 => ⟨fun _ => ?_, fun z => absurd nI_0 z⟩)
  · obtain ⟨n, hn, e⟩ : ∃ n : Nat, n < 100 ∧ x.toInt = ((200 + n : Nat) : Int) := ⟨(x.toInt - 200).toNat, by omega, by omega⟩
    rw [e, deedF_lay hn] at hq
    rw [l_sub (k := 200) e n7 (by omega) (by omega)]
    refine why_lay1 hl hv ok pr ps (fun k => ?_) (fun c hc k => ?_) (fun c hc k => ?_)
    · rw [rgI_none k] at hq; exact hq
    · rw [rgI_some hv (by omega) hc, show deedL v s (some c) = (2, s) from if_pos k] at hq; exact hq
    · rw [rgI_some hv (by omega) hc, show deedL v s (some c) = (0, dLay v s c) from if_neg (by omega)] at hq; exact hq
  refine u_withinL (fun p1 p2 => ⟨fun z => absurd z (by decide), fun _ => ⟨S_223 hl, ?_⟩⟩) (fun q5 => ⟨fun _ => ?_, fun z => absurd nI_0 z⟩)
  · obtain ⟨n, hn, e⟩ : ∃ n : Nat, n < 100 ∧ x.toInt = ((300 + n : Nat) : Int) := ⟨(x.toInt - 300).toNat, by omega, by omega⟩
    rw [e, deedF_take hn] at hq
    rw [l_sub (k := 300) e n9 (by omega) (by omega)]
    refine why_take1 hl hv ok pr ps (fun k => ?_) (fun c hc k => ?_) (fun c hc k => ?_)
    · rw [rgI_none k] at hq; exact hq
    · rw [rgI_some hv (by omega) hc, show deedT v s (some c) = (2, s) from if_pos k] at hq; exact hq
    · rw [rgI_some hv (by omega) hc, show deedT v s (some c) = (0, dTake v s c) from if_neg (by omega)] at hq; exact hq
  rw [deedF_no (by omega)] at hq
  exact hq
theorem dR (v : NV) (s : AS) : asR (tryS v s) = asR s := (tryA_rest v (nvL v) s).1
theorem m_does {Q : MH → Prop} {h : MH} {v : NV} {s : AS} {x : Int64} (hl : LX h) (hv : NvOK v) (ok : AsOK v s) (pn : MNet (hI h 224) v) (pr : RgV h v (asR s)) (ps : StM v s (fun k => hI h 224 (49 + k))) (h0 : (deedF v s x.toInt).1 = 0) (hq : ∀ g, MDe v h (deedF v s x.toInt).2 g → Q g) : wX10_does 223 x.toInt32 h Q := by
  have h4 := hv.1
  have rng : (10 ≤ x.toInt ∧ x.toInt ≤ 19) ∨ (100 ≤ x.toInt ∧ x.toInt ≤ 119) ∨ (200 ≤ x.toInt ∧ x.toInt ≤ 399) := by
    apply Classical.byContradiction
    intro q
    rw [deedF_no (by omega)] at h0
    exact (Nat.succ_ne_zero _ h0).elim
  obtain ⟨n, hn, hn2, en⟩ : ∃ n : Nat, 10 ≤ n ∧ n ≤ 399 ∧ x.toInt = (n : Int) := ⟨x.toInt.toNat, by omega, by omega, by omega⟩
  have ei : x.toInt32 = nI n := by
    apply Int32.toInt_inj.mp
    rw [Int64.toInt_toInt32, en, nI_toInt (by omega), Int.bmod_eq_of_le (by omega) (by omega)]
  rw [en] at hq h0 rng
  rw [ei]
  have le : ∀ k : Nat, k < 2 ^ 30 → ((nI k ≤ nI n) ↔ k ≤ n) := fun k hk => by rw [Int32.le_iff_toInt_le, nI_toInt (by omega), nI_toInt (by omega)]; omega
  unfold wX10_does
  rw [le 20 (by omega), le 110 (by omega), le 120 (by omega), le 300 (by omega)]
  refine ⟨fun c1 => ⟨fun c2 => ⟨fun c3 => ⟨fun c4 => ⟨S_223 hl, ?_⟩, fun c4 => ⟨S_223 hl, ?_⟩⟩, fun c3 => ⟨S_223 hl, ?_⟩⟩, fun c2 => ⟨S_223 hl, ?_⟩⟩, fun c1 => ⟨S_223 hl, ?_⟩⟩
  · rw [nI_subN (by omega)]
    have e : (n : Int) = ((300 + (n - 300) : Nat) : Int) := by omega
    rw [e, deedF_take (by omega)] at hq h0
    cases er : rgI v (asR s) (n - 300) with
    | none => rw [er] at h0; exact (Nat.succ_ne_zero _ h0).elim
    | some c =>
      have hc := ff_some _ 0 c rfl er
      rw [er] at hq h0
      have c0 : asC s c ≠ 0 := fun z => by
        rw [show deedT v s (some c) = (2, s) from if_pos z] at h0
        exact (Nat.succ_ne_zero _ h0).elim
      rw [show deedT v s (some c) = (0, dTake v s c) from if_neg c0] at hq
      rw [← hc.2.2]
      exact m_goesTake hl hv pn pr ok ps hc.1 hc.2.1 (by omega) (fun g t => hq g (MDe_MTr t (by rw [show asR (dTake v s c) = asR s from dR v _]; exact pr)))
  · rw [nI_subN (by omega)]
    have e : (n : Int) = ((200 + (n - 200) : Nat) : Int) := by omega
    rw [e, deedF_lay (by omega)] at hq h0
    cases er : rgI v (asR s) (n - 200) with
    | none => rw [er] at h0; exact (Nat.succ_ne_zero _ h0).elim
    | some c =>
      have hc := ff_some _ 0 c rfl er
      have c9 := (ok.2.2.1 c (by omega)).1
      rw [er] at hq h0
      have c0 : asC s c ≠ 9 := fun z => by
        rw [show deedL v s (some c) = (2, s) from if_pos z] at h0
        exact (Nat.succ_ne_zero _ h0).elim
      rw [show deedL v s (some c) = (0, dLay v s c) from if_neg c0] at hq
      rw [← hc.2.2]
      exact m_goesLay hl hv pn pr ok ps hc.1 hc.2.1 (by omega) (fun g t => hq g (MDe_MTr t (by rw [show asR (dLay v s c) = asR s from dR v _]; exact pr)))
  · rw [nI_subN (by omega)]
    have e : (n : Int) = ((110 + (n - 110) : Nat) : Int) := by omega
    rw [e, deedF_mend (by omega)] at hq h0
    unfold deedM at hq h0
    by_cases a : n - 110 < nvL v
    · rw [if_pos a] at hq h0
      by_cases b : bt (asF s) (n - 110) = 1
      · rw [if_pos b] at hq
        exact m_goesMend hl hv pn pr ok ps a (fun g t => hq g (MDe_MTr t (by rw [show asR (dMend v s (n - 110)) = asR s from dR v _]; exact pr)))
      · rw [if_neg b] at h0
        exact (Nat.succ_ne_zero _ h0).elim
    · rw [if_neg a] at h0
      exact (Nat.succ_ne_zero _ h0).elim
  · rw [nI_subN (by omega)]
    have e : (n : Int) = ((100 + (n - 100) : Nat) : Int) := by omega
    rw [e, deedF_fail (by omega)] at hq h0
    unfold deedX at hq h0
    by_cases a : n - 100 < nvL v
    · rw [if_pos a] at hq h0
      by_cases b : bt (asF s) (n - 100) = 1
      · rw [if_pos b] at h0
        exact (Nat.succ_ne_zero _ h0).elim
      · rw [if_neg b] at hq
        exact m_goesFail hl hv pn pr ok ps a (fun g t => hq g (MDe_MTr t (by rw [show asR (dFail v s (n - 100)) = asR s from dR v _]; exact pr)))
    · rw [if_neg a] at h0
      exact (Nat.succ_ne_zero _ h0).elim
  · rw [nI_subN (by omega)]
    have e : (n : Int) = ((10 + (n - 10) : Nat) : Int) := by omega
    rw [e, deedF_rate (by omega)] at hq
    exact m_goesRate hl hv pn pr ok ps (by omega) hq
theorem deedF_why {v : NV} {s : AS} {z : Int} (h : (deedF v s z).1 ≠ 0) : (deedF v s z).2 = s := by
  revert h
  unfold deedF deedX deedM
  by_cases q1 : 10 ≤ z ∧ z ≤ 19
  · rw [if_pos q1]; exact fun h => absurd rfl h
  · rw [if_neg q1]
    by_cases q2 : 100 ≤ z ∧ z ≤ 109
    · rw [if_pos q2]
      by_cases a : (z - 100).toNat < nvL v
      · rw [if_pos a]
        by_cases b : bt (asF s) (z - 100).toNat = 1
        · rw [if_pos b]; exact fun _ => rfl
        · rw [if_neg b]; exact fun h => absurd rfl h
      · rw [if_neg a]; exact fun _ => rfl
    · rw [if_neg q2]
      by_cases q3 : 110 ≤ z ∧ z ≤ 119
      · rw [if_pos q3]
        by_cases a : (z - 110).toNat < nvL v
        · rw [if_pos a]
          by_cases b : bt (asF s) (z - 110).toNat = 1
          · rw [if_pos b]; exact fun h => absurd rfl h
          · rw [if_neg b]; exact fun _ => rfl
        · rw [if_neg a]; exact fun _ => rfl
      · rw [if_neg q3]
        by_cases q4 : 200 ≤ z ∧ z ≤ 299
        · rw [if_pos q4]
          cases rgI v (asR s) (z - 200).toNat with
          | none => exact fun _ => rfl
          | some c =>
            show (if asC s c = 9 then (2, s) else (0, dLay v s c)).1 ≠ 0 → (if asC s c = 9 then (2, s) else (0, dLay v s c)).2 = s
            by_cases b : asC s c = 9
            · rw [if_pos b]; exact fun _ => rfl
            · rw [if_neg b]; exact fun h => absurd rfl h
        · rw [if_neg q4]
          by_cases q5 : 300 ≤ z ∧ z ≤ 399
          · rw [if_pos q5]
            cases rgI v (asR s) (z - 300).toNat with
            | none => exact fun _ => rfl
            | some c =>
              show (if asC s c = 0 then (2, s) else (0, dTake v s c)).1 ≠ 0 → (if asC s c = 0 then (2, s) else (0, dTake v s c)).2 = s
              by_cases b : asC s c = 0
              · rw [if_pos b]; exact fun _ => rfl
              · rw [if_neg b]; exact fun h => absurd rfl h
          · rw [if_neg q5]; exact fun _ => rfl
theorem deedF_le {v : NV} {s : AS} {z : Int} : (deedF v s z).1 ≤ 2 := by
  unfold deedF deedX deedM
  by_cases q1 : 10 ≤ z ∧ z ≤ 19
  · rw [if_pos q1]; exact Nat.zero_le _
  · rw [if_neg q1]
    by_cases q2 : 100 ≤ z ∧ z ≤ 109
    · rw [if_pos q2]
      by_cases a : (z - 100).toNat < nvL v
      · rw [if_pos a]
        by_cases b : bt (asF s) (z - 100).toNat = 1
        · rw [if_pos b]; exact Nat.le_refl _
        · rw [if_neg b]; exact Nat.zero_le _
      · rw [if_neg a]; exact Nat.le_succ _
    · rw [if_neg q2]
      by_cases q3 : 110 ≤ z ∧ z ≤ 119
      · rw [if_pos q3]
        by_cases a : (z - 110).toNat < nvL v
        · rw [if_pos a]
          by_cases b : bt (asF s) (z - 110).toNat = 1
          · rw [if_pos b]; exact Nat.zero_le _
          · rw [if_neg b]; exact Nat.le_refl _
        · rw [if_neg a]; exact Nat.le_succ _
      · rw [if_neg q3]
        by_cases q4 : 200 ≤ z ∧ z ≤ 299
        · rw [if_pos q4]
          cases rgI v (asR s) (z - 200).toNat with
          | none => exact Nat.le_succ _
          | some c =>
            show (if asC s c = 9 then (2, s) else (0, dLay v s c)).1 ≤ 2
            by_cases b : asC s c = 9
            · rw [if_pos b]; exact Nat.le_refl _
            · rw [if_neg b]; exact Nat.zero_le _
        · rw [if_neg q4]
          by_cases q5 : 300 ≤ z ∧ z ≤ 399
          · rw [if_pos q5]
            cases rgI v (asR s) (z - 300).toNat with
            | none => exact Nat.le_succ _
            | some c =>
              show (if asC s c = 0 then (2, s) else (0, dTake v s c)).1 ≤ 2
              by_cases b : asC s c = 0
              · rw [if_pos b]; exact Nat.le_refl _
              · rw [if_neg b]; exact Nat.zero_le _
          · rw [if_neg q5]; exact Nat.le_succ _
/-- the states behind told deeds -/
noncomputable def dlS (v : NV) (nums : Nat → Int64) (s : AS) : Nat → AS
  | 0 => s
  | k + 1 => (deedF v (dlS v nums s k) (nums k).toInt).2
noncomputable def dlW (v : NV) (nums : Nat → Int64) (s : AS) (k : Nat) : Nat := (deedF v (dlS v nums s k) (nums k).toInt).1
theorem dl_ok {v : NV} {nums : Nat → Int64} {s : AS} (hv : NvOK v) (ok : AsOK v s) : ∀ k, AsOK v (dlS v nums s k)
  | 0 => ok
  | k + 1 => deedF_ok hv (dl_ok hv ok k) _
/-- so many are done, of m -/
def dlE (v : NV) (nums : Nat → Int64) (s : AS) (m k : Nat) : Prop := k ≤ m ∧ (∀ i, i < k → dlW v nums s i = 0) ∧ (k = m ∨ dlW v nums s k ≠ 0)
theorem dl_uniq {v : NV} {nums : Nat → Int64} {s : AS} {m j k : Nat} (a : dlE v nums s m j) (b : dlE v nums s m k) : j = k := by
  rcases Nat.lt_trichotomy j k with q | q | q
  · rcases a.2.2 with e | e
    · have := b.1; omega
    · exact absurd (b.2.1 j q) e
  · exact q
  · rcases b.2.2 with e | e
    · have := a.1; omega
    · exact absurd (a.2.1 k q) e
theorem n_doAll {Q : Int32 → MH → Prop} {h : MH} {v : NV} {s : AS} {a b t m : Nat} {nums : Nat → Int64} (hl : LX h) (p : NetV h a v) (ok : AsOK v s) (hb : b ∈ stL) (ps : StV h b (encS s)) (hz : ∀ k, k < 360 → hI h 198 k = 0) (ht : t < 4) (hbt : b < 200) (hm : m ≤ 40) (em : hI h (207 + 2 * t) 1 = nI m) (en : ∀ k, k < m → hL h (208 + 2 * t) k = nums k) (hq : ∀ k g, dlE v nums s m k → Fr (SD b) h g → StV g b (encS (dlS v nums s k)) → (∀ k, k < 360 → hI g 198 k = 0) → Q (nI k) g) : wX7_doAll 197 a b (207 + 2 * t) h Q := by
  have lp : ∀ n k g, k + n = m → (∀ i, i < k → dlW v nums s i = 0) → Fr (SD b) h g → StV g b (encS (dlS v nums s k)) → (∀ k, k < 360 → hI g 198 k = 0) → wX7_doAll_3 Q (n + 1) 197 a b (207 + 2 * t) (nI k) g := by
    intro n
    induction n with
    | zero =>
      intro k g hk hw f psg hzg
      have hk : k = m := by omega
      subst hk
      have hlg := LX_Fr f hl
      unfold wX7_doAll_3
      rw [Fr_I f (by unfold SD; omega), em]
      exact ⟨(tr_S hlg ht).1, fun _ => hq k g ⟨Nat.le_refl _, hw, Or.inl rfl⟩ f psg hzg, fun z => absurd (nI_le (Nat.le_refl _) (by omega)) z⟩
    | succ n ih =>
      intro k g hk hw f psg hzg
      have hlg := LX_Fr f hl
      have tg := tr_S hlg ht
      have dle := deedF_le (v := v) (s := dlS v nums s k) (z := (nums k).toInt)
      unfold wX7_doAll_3
      rw [Fr_I f (by unfold SD; omega), em]
      refine ⟨tg.1, fun z => absurd z (nI_ge (by omega) (by omega)), fun _ => ⟨208 + 2 * t, tg.2.2.2, 40, tg.2.1, vp_in_nI (by omega) (by omega), S_197 hlg, ?_⟩⟩
      rw [nI_clamp (by omega), f.2.2.1, en k (by omega), nI_add]
      refine n_doDeed hlg (NetV_SD hb f p) (dl_ok p.1 ok k) hb psg hzg (fun g2 f2 ps2 hz2 => ?_)
      rw [nI_eq0 (by omega)]
      refine ⟨fun y => ?_, fun y => ih (k + 1) g2 (by omega) (fun i hi => ?_) (Fr_trans f f2) ps2 hz2⟩
      · rw [deedF_why y] at ps2
        exact hq k g2 ⟨by omega, hw, Or.inr y⟩ (Fr_trans f f2) ps2 hz2
      · by_cases e : i = k
        · rw [e]; exact y
        · exact hw i (by omega)
  exact ⟨m + 1, lp m 0 h (by omega) (fun i hi => absurd hi (by omega)) (Fr_rfl _ _) ps hz⟩
theorem MP_25 {h : MH} {d : DV} {k : Nat} {x : Int32} (hk : k ≠ 23) (m : MP h d) : MP (sI h 223 k x) d := MP_cong (by rw [hI_sI, if_neg (by omega)]) (hI_sI_row (by omega)) (hI_sI_row (by omega)) (fun b b1 b2 => hI_sI_row (by omega)) m
theorem m_tells {Q : Int32 → MH → Prop} {h : MH} {d : DV} {t m : Nat} {nums : Nat → Int64} (hl : LX h) (hv : NvOK (dN d)) (ok : AsOK (dN d) (dS d)) (mp : MP h d) (ht : t < 4) (hm : m ≤ 40) (em : hI h 242 t = nI m) (en : ∀ k, k < m → hL h 243 (40 * t + k) = nums k) (hq : ∀ k g, dlE (dN d) nums (dS d) m k → FrM h g → hI g 235 = hI h 235 → MP g (dN d, dlS (dN d) nums (dS d) k, dH d, dI d) → (k = m → hI g 223 25 = 0) → (k ≠ m → hI g 223 25 = nI (dlW (dN d) nums (dS d) k)) → Q (nI k) g) : wX10_tells 223 (nI t) h Q := by
  have h4 := hv.1
  refine ⟨S_223 hl, fun g0 e0 => ⟨m + 1, ?_⟩⟩
  have lp : ∀ n k g, k + n = m → (∀ i, i < k → dlW (dN d) nums (dS d) i = 0) → FrM h g → hI g 235 = hI h 235 → MP g (dN d, dlS (dN d) nums (dS d) k, dH d, dI d) → hI g 223 25 = 0 → wX10_tells_7 Q (n + 1) 223 (nI t) (nI k) g := by
    intro n
    induction n with
    | zero =>
      intro k g hk hw f e235 mg z25
      have hk : k = m := by omega
      subst hk
      have hlg := LX_Fr f.1 hl
      unfold wX10_tells_7
      rw [nI_clamp (by omega)]
      refine ⟨S_223 hlg, 242, R_223_35 hlg, 4, S_242 hlg, vp_in_nI (by omega) (by omega), ?_⟩
      rw [Fr_I f.1 (by unfold SM; omega), em]
      exact ⟨fun _ => ⟨vp_in_nI (by omega) (by omega), hq k g ⟨Nat.le_refl _, hw, Or.inl rfl⟩ f e235 mg (fun _ => z25) (fun z => absurd rfl z)⟩, fun z => absurd (nI_le (Nat.le_refl _) (by omega)) z⟩
    | succ n ih =>
      intro k g hk hw f e235 mg z25
      have hlg := LX_Fr f.1 hl
      have okk := dl_ok (nums := nums) hv ok k
      have dle := deedF_le (v := dN d) (s := dlS (dN d) nums (dS d) k) (z := (nums k).toInt)
      unfold wX10_tells_7
      rw [nI_clamp (show t < 2 ^ 31 by omega)]
      refine ⟨S_223 hlg, 242, R_223_35 hlg, 4, S_242 hlg, vp_in_nI (by omega) (by omega), ?_⟩
      rw [Fr_I f.1 (by unfold SM; omega), em]
      simp only [nI_mul, nI_add]
      refine ⟨fun z => absurd z (nI_ge (by omega) (by omega)), fun _ => ⟨243, R_223_36 hlg, 160, S_243 hlg, vp_in_nI (by omega) (by omega), ?_⟩⟩
      rw [nI_clamp (by omega), f.1.2.2.1, en k (by omega)]
      refine m_whyNot hlg hv okk mg.2.1 mg.2.2.1 mg.2.2.2.1 ⟨S_223 hlg, fun g2 e2 => ?_⟩
      have f2 : FrM g g2 := by rw [e2]; exact FrM_sI (Or.inl rfl) (fun _ => Or.inr (by omega))
      have mg2 : MP g2 (dN d, dlS (dN d) nums (dS d) k, dH d, dI d) := by rw [e2]; exact MP_25 (by omega) mg
      have hl2 := LX_Fr f2.1 hlg
      have z2 : hI g2 223 25 = nI (dlW (dN d) nums (dS d) k) := by rw [e2, hI_sI, if_pos ⟨rfl, rfl⟩]; rfl
      have w2 : hI g2 235 = hI h 235 := by rw [e2, hI_sI_row (by omega)]; exact e235
      rw [z2, nI_eq0 (by unfold dlW; omega)]
      refine ⟨fun y => ⟨243, R_223_36 hl2, 160, S_243 hl2, vp_in_nI (by omega) (by omega), ?_⟩, fun y => hq k g2 ⟨by omega, hw, Or.inr y⟩ (FrM_trans f f2) w2 mg2 (fun z => absurd z (by omega)) (fun _ => z2)⟩
      rw [f2.1.2.2.1, f.1.2.2.1, en k (by omega)]
      refine m_does hl2 hv okk mg2.2.1 mg2.2.2.1 mg2.2.2.2.1 y (fun g3 t3 => ih (k + 1) g3 (by omega) (fun i hi => ?_) (FrM_trans f (FrM_trans f2 (FrM_MDe t3))) ?_ ?_ ?_)
      · by_cases e : i = k
        · rw [e]; exact y
        · exact hw i (by omega)
      · rw [t3.1.2.2.2.2 235 (by unfold SE; omega)]; exact w2
      · exact MP_state (d := (dN d, dlS (dN d) nums (dS d) k, dH d, dI d)) (by show nvC (dN d) ≤ 40; omega) t3 mg2
      · rw [t3.2.1 25 (by omega), z2, y]; exact nI_0
  subst e0
  refine lp m 0 _ (by omega) (fun i hi => absurd hi (by omega)) (FrM_sI (Or.inl rfl) (fun _ => Or.inr (by omega))) (hI_sI_row (by omega)) (MP_25 (by omega) mp) ?_
  rw [hI_sI, if_pos ⟨rfl, rfl⟩]
  exact nI_0
