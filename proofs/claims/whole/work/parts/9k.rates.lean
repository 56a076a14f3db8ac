/-! ===== rates ===== -/
noncomputable def cyP (v : NV) (r : Nat) (N : Nat → Nat) (i : Nat) : Nat := (rgI v r (N i / 1000)).getD 0
def prA (v : NV) (r : Nat) (N : Nat → Nat) (q n : Nat) : Prop := ∀ i, i < n → nvPc v q (cyP v r N i) = N i % 1000
noncomputable def prF (v : NV) (r : Nat) (N : Nat → Nat) (q n : Nat) : Nat := @ite _ (prA v r N q n) (Classical.propDecidable _) 1 0
theorem prF_y {v : NV} {r q n : Nat} {N : Nat → Nat} (h : prA v r N q n) : prF v r N q n = 1 := @if_pos _ (Classical.propDecidable _) h _ _ _
theorem prF_n {v : NV} {r q n : Nat} {N : Nat → Nat} (h : ¬ prA v r N q n) : prF v r N q n = 0 := @if_neg _ (Classical.propDecidable _) h _ _ _
theorem prF_01 (v : NV) (r : Nat) (N : Nat → Nat) (q n : Nat) : prF v r N q n = 0 ∨ prF v r N q n = 1 := by
  by_cases h : prA v r N q n
  · exact Or.inr (prF_y h)
  · exact Or.inl (prF_n h)
/-- the rates by which the first costs are such, as bits -/
noncomputable def prS (v : NV) (r : Nat) (N : Nat → Nat) (m : Nat) : Nat → Nat
  | 0 => 0
  | q + 1 => if prF v r N q m = 1 then prS v r N m q ||| 2 ^ q else prS v r N m q
theorem prS_lt (v : NV) (r : Nat) (N : Nat → Nat) (m : Nat) : ∀ q, prS v r N m q < 2 ^ q
  | 0 => Nat.one_pos
  | q + 1 => by
    have h1 := prS_lt v r N m q
    have h2 : (2 : Nat) ^ (q + 1) = 2 ^ q + 2 ^ q := by rw [Nat.pow_succ]; omega
    unfold prS
    by_cases z : prF v r N q m = 1
    · rw [if_pos z]; exact Nat.or_lt_two_pow (by omega) (by omega)
    · rw [if_neg z]; omega
/-- told costs: each a ring's number times a thousand, and a cost -/
def toldC (nums : Nat → Int64) (N : Nat → Nat) (R m : Nat) : Prop := ∀ i, i < m → nums i = lN (N i) ∧ N i < 1000 * R
theorem smN_le {f : Nat → Nat} {s b : Nat} : ∀ n, (∀ k, k < n → f k ≤ b) → smN f s n ≤ b * n
  | 0, _ => Nat.zero_le _
  | n + 1, h => by
    have ih := smN_le (s := s) n (fun k hk => h k (by omega))
    have h1 := h n (by omega)
    show smN f s n + bt s n * f n ≤ b * (n + 1)
    rcases bt01 s n with z | z
    · rw [z, Nat.zero_mul, Nat.mul_succ]; omega
    · rw [z, Nat.one_mul, Nat.mul_succ]; omega
theorem pc_lt {v : NV} (hv : NvOK v) {q c : Nat} (hq : q < 10) : nvPc v q c ≤ 990 := by
  have h4 := hv.1
  have h := smN_le (f := nvPr v q) (s := nvOn v c) (b := 99) (nvL v) (fun k hk => (hv.2.2.2.2.2.1 q k hq hk).2)
  unfold nvPc
  omega
theorem cyP_rg {v : NV} (hv : NvOK v) {r i m : Nat} {N : Nat → Nat} {nums : Nat → Int64} (h : toldC nums N (bcN (nvMy v r) (nvC v)) m) (hi : i < m) : isRg v r (nI (N i / 1000)) (cyP v r N i) := by
  have h1 := (h i hi).2
  obtain ⟨c, c1, c2, c3⟩ := ring_ex (m := nvMy v r) (n := nvC v) (r := N i / 1000) (by omega)
  have rg : isRg v r (nI (N i / 1000)) c := ⟨c1, c2, by rw [c3]⟩
  have bC := bcN_le (nvMy v r) (nvC v)
  have h4 := hv.1
  unfold cyP
  rw [rgI_some hv (by omega) rg]
  exact rg
theorem n_pricedBy {Q : Int32 → MH → Prop} {h : MH} {v : NV} {s : AS} {a t m q : Nat} {N : Nat → Nat} {nums : Nat → Int64} (hl : LX h) (ca : hR h 128 1 = some a) (p : NetV h a v) (ok : AsOK v s) (ps : StV h 146 (encS s)) (ht : t < 4) (hm : m ≤ 40) (em : hI h (207 + 2 * t) 1 = nI m) (en : ∀ k, k < m → hL h (208 + 2 * t) k = nums k) (tc : toldC nums N (bcN (nvMy v (asR s)) (nvC v)) m) (hq9 : q < 10) (hq : Q (nI (prF v (asR s) N q m)) h) : wX9_isPricedBy 128 (207 + 2 * t) (nI q) h Q := by
  have h4 := p.1.1
  have bC := bcN_le (nvMy v (asR s)) (nvC v)
  have tg := tr_S hl ht
  have e0 : hI h 146 0 = nI (asR s) := ps.1
  have lp : ∀ n i, i + n = m → prA v (asR s) N q i → wX9_isPricedBy_2 Q (n + 1) 128 (207 + 2 * t) (nI q) (nI i) h := by
    intro n
    induction n with
    | zero =>
      intro i hi pa
      have hi : i = m := by omega
      subst hi
      unfold wX9_isPricedBy_2
      rw [em]
      refine ⟨tg.1, fun _ => ?_, fun z => absurd (nI_le (Nat.le_refl _) (by omega)) z⟩
      rw [prF_y pa] at hq
      exact hq
    | succ n ih =>
      intro i hi pa
      have rg := cyP_rg p.1 tc (show i < m by omega)
      have rc := rg.1
      have tci := tc i (by omega)
      have pl := pc_lt p.1 (c := cyP v (asR s) N i) hq9
      unfold wX9_isPricedBy_2
      rw [em, nI_add]
      refine ⟨tg.1, fun z => absurd z (nI_ge (by omega) (by omega)), fun _ => ⟨208 + 2 * t, tg.2.2.2, 40, tg.2.1, vp_in_nI (by omega) (by omega), S_128 hl, a, ca, 146, R_128_2 hl, S_146 hl, by decide, p.2.1, ?_⟩⟩
      rw [nI_clamp (by omega), en i (by omega), tci.1, lN_i, e0, pk_rem (by omega) (by omega) (by omega), pk_div (by omega) (by omega) (by omega)]
      refine n_cycleOf1 p ok.1 rg ⟨fun z => absurd z (nI_pos (by omega)), fun _ => ⟨S_128 hl, a, ca, p.2.1, n_priceOf p rg.1 hq9 ⟨by decide, ?_⟩⟩⟩
      rw [nI_eq (by omega) (by omega)]
      refine ⟨fun z => ih (i + 1) (by omega) (fun k hk => ?_), fun z => ?_⟩
      · by_cases e : k = i
        · rw [e]; exact z
        · exact pa k (by omega)
      · rw [prF_n (fun y => z (y i (by omega)))] at hq
        exact hq
  exact ⟨m + 1, lp m 0 (by omega) (fun i hi => absurd hi (by omega))⟩
theorem n_pricedRates {Q : Int32 → MH → Prop} {h : MH} {v : NV} {s : AS} {a t m : Nat} {N : Nat → Nat} {nums : Nat → Int64} (hl : LX h) (ca : hR h 128 1 = some a) (p : NetV h a v) (ok : AsOK v s) (ps : StV h 146 (encS s)) (ht : t < 4) (hm : m ≤ 40) (em : hI h (207 + 2 * t) 1 = nI m) (en : ∀ k, k < m → hL h (208 + 2 * t) k = nums k) (tc : toldC nums N (bcN (nvMy v (asR s)) (nvC v)) m) (hq : Q (nI (prS v (asR s) N m 10)) h) : wX9_pricedRates 128 (207 + 2 * t) h Q := by
  have lp : ∀ n q, q + n = 10 → wX9_pricedRates_4 Q (n + 1) 128 (207 + 2 * t) (nI (prS v (asR s) N m q)) (nI q) h := by
    intro n
    induction n with
    | zero =>
      intro q hn
      have hn : q = 10 := by omega
      subst hn
      unfold wX9_pricedRates_4
      exact ⟨fun _ => hq, fun z => absurd (nI_le (Nat.le_refl _) (by omega)) z⟩
    | succ n ih =>
      intro q hn
      have g := ih (q + 1) (by omega)
      have l1 := lt_of_pow (prS_lt v (asR s) N m q) (by omega)
      have l2 := pow_le10 (show q < 10 by omega)
      have e1 : prS v (asR s) N m (q + 1) = if prF v (asR s) N q m = 1 then prS v (asR s) N m q ||| 2 ^ q else prS v (asR s) N m q := rfl
      unfold wX9_pricedRates_4
      rw [nI_add, nI_shl q (by omega)]
      refine ⟨fun z => absurd z (nI_ge (by omega) (by omega)), fun _ => ⟨S_128 hl, n_pricedBy hl ca p ok ps ht hm em en tc (by omega) (fun x ex => ?_)⟩⟩
      rw [e1] at g
      rcases prF_01 v (asR s) N q m with z | z
      · rw [z, if_pos nI_0, nI_or (by omega) (by omega), Nat.or_zero] at ex
        subst ex
        rw [if_neg (by omega)] at g
        exact g
      · rw [z, if_neg (by decide), nI_or (by omega) (by omega)] at ex
        subst ex
        rw [if_pos z] at g
        exact g
  exact ⟨11, lp 10 0 (by omega)⟩
theorem MP_cost {h g : MH} {d : DV} (f : Fr (fun b => 228 ≤ b ∧ b ≤ 229) h g) (m : MP h d) : MP g d := MP_cong (Fr_I f (by omega) _) (f.2.2.2.2 _ (by omega)) (f.2.2.2.2 _ (by omega)) (fun b b1 b2 => f.2.2.2.2 _ (by omega)) m
theorem FrM_cost {h g : MH} (f : Fr (fun b => 228 ≤ b ∧ b ≤ 229) h g) : FrM h g := FrM_Fr (fun b q => ⟨by unfold SM; omega, by omega⟩) f
theorem m_costOf {Q : Int32 → MH → Prop} {h : MH} {d : DV} {c q : Nat} (hl : LX h) (m : MP h d) (hc : c < nvC (dN d)) (hq9 : q < 10) (hq : ∀ g, Fr (fun b => 228 ≤ b ∧ b ≤ 229) h g → MP g d → Q (nI (nvPc (dN d) q c)) g) : wX10_costOf 223 (nI (nvOn (dN d) c)) (nI q) h Q :=
  m.2.1.2.2.2.2.2.1 h c q hl (fun _ _ => rfl) hc hq9 Q (fun g f => hq g f (MP_cost f m))
theorem m_ratesOf {Q : Int32 → MH → Prop} {h : MH} {d : DV} {t m : Nat} {N : Nat → Nat} {nums : Nat → Int64} (hl : LX h) (hv : NvOK (dN d)) (mp : MP h d) (ht : t < 4) (hm : m ≤ 40) (em : hI h 242 t = nI m) (en : ∀ k, k < m → hL h 243 (40 * t + k) = nums k) (tc : toldC nums N (bcN (nvMy (dN d) (asR (dS d))) (nvC (dN d))) m) (hq : ∀ g, FrM h g → MP g d → Q (nI (prS (dN d) (asR (dS d)) N m 10)) g) : wX10_ratesOf 223 (nI t) h Q := by
  have h4 := hv.1
  have bC := bcN_le (nvMy (dN d) (asR (dS d))) (nvC (dN d))
  have inner : ∀ (K : Nat → Int32 → Int32 → Int32 → MH → Prop) (q x : Nat), q < 10 → x < 1024 → (∀ g, FrM h g → MP g d → K 223 (nI t) (nI (if prF (dN d) (asR (dS d)) N q m = 1 then x ||| 2 ^ q else x)) (nI (q + 1)) g) → ∀ n i g, i + n = m → FrM h g → MP g d → wX10_ratesOf_16 Q K (n + 1) 223 (nI t) (nI x) (nI q) (nI (prF (dN d) (asR (dS d)) N q i)) (nI i) g := by
    intro K q x hq9 hx hK n
    have l2 := pow_le10 hq9
    induction n with
    | zero =>
      intro i g hi f mg
      have hi : i = m := by omega
      subst hi
      have hlg := LX_Fr f.1 hl
      unfold wX10_ratesOf_16
      rw [nI_clamp (by omega), nI_shl q (by omega), nI_add q 1]
      refine ⟨S_223 hlg, 242, R_223_35 hlg, 4, S_242 hlg, vp_in_nI (by omega) (by omega), ?_⟩
      rw [Fr_I f.1 (by unfold SM; omega), em]
      refine ⟨fun _ y ey => ?_, fun z => absurd (nI_le (Nat.le_refl _) (by omega)) z⟩
      have k := hK g f mg
      rcases prF_01 (dN d) (asR (dS d)) N q i with z | z
      · rw [z, if_pos nI_0, nI_or (by omega) (by omega), Nat.or_zero] at ey
        subst ey
        rw [if_neg (by omega)] at k
        exact k
      · rw [z, if_neg (by decide), nI_or (by omega) (by omega)] at ey
        subst ey
        rw [if_pos z] at k
        exact k
    | succ n ih =>
      intro i g hi f mg
      have hlg := LX_Fr f.1 hl
      have rg := cyP_rg hv tc (show i < m by omega)
      have rlt := isRg_lt hv rg
      have tci := tc i (by omega)
      have pl := pc_lt hv (c := cyP (dN d) (asR (dS d)) N i) hq9
      have er : N i / 1000 = bcN (nvMy (dN d) (asR (dS d))) (cyP (dN d) (asR (dS d)) N i) := (nI_eq (by omega) (by omega)).mp rg.2.2
      unfold wX10_ratesOf_16
      rw [nI_clamp (show t < 2 ^ 31 by omega)]
      refine ⟨S_223 hlg, 242, R_223_35 hlg, 4, S_242 hlg, vp_in_nI (by omega) (by omega), ?_⟩
      rw [Fr_I f.1 (by unfold SM; omega), em]
      simp only [nI_mul, nI_add]
      refine ⟨fun z => absurd z (nI_ge (by omega) (by omega)), fun _ => ⟨243, R_223_36 hlg, 160, S_243 hlg, vp_in_nI (by omega) (by omega), fun y ey => ?_⟩⟩
      rw [nI_clamp (by omega), f.1.2.2.1, en i (by omega), tci.1, lN_i] at ey
      subst ey
      rw [pk_rem (by omega) (by omega) (by omega), pk_div (by omega) (by omega) (by omega), nI_clamp (by omega)]
      refine ⟨230, R_223_18 hlg, by decide, 64, S_230 hlg, vp_in_nI (by omega) (by omega), ?_⟩
      rw [er, (mg.2.2.1.2 _ rg.1 rg.2.1).1]
      refine m_costOf hlg mg rg.1 hq9 (fun g2 f2 m2 => ⟨by decide, fun y ey => ?_⟩)
      have g1 := ih (i + 1) g2 (by omega) (FrM_trans f (FrM_cost f2)) m2
      have key : y = nI (prF (dN d) (asR (dS d)) N q (i + 1)) := by
        rw [ey]
        by_cases z : nvPc (dN d) q (cyP (dN d) (asR (dS d)) N i) = N i % 1000
        · rw [if_pos (by rw [z])]
          rcases prF_01 (dN d) (asR (dS d)) N q i with w | w
          · have nw : ¬ prA (dN d) (asR (dS d)) N q (i + 1) := fun y => by
              have : prA (dN d) (asR (dS d)) N q i := fun k hk => y k (by omega)
              rw [prF_y this] at w
              omega
            rw [w, prF_n nw]; decide
          · have yw : prA (dN d) (asR (dS d)) N q (i + 1) := fun k hk => by
              by_cases e : k = i
              · rw [e]; exact z
              · apply Classical.byContradiction
                intro u
                have : ¬ prA (dN d) (asR (dS d)) N q i := fun y => u (y k (by omega))
                rw [prF_n this] at w
                omega
            rw [w, prF_y yw]; decide
        · rw [if_neg (fun u => z ((nI_eq (by omega) (by omega)).mp u)), prF_n (v := dN d) (r := asR (dS d)) (q := q) (n := i + 1) (N := N) (fun y => z (y i (by omega)))]
          rcases prF_01 (dN d) (asR (dS d)) N q i with w | w <;> rw [w] <;> decide
      rw [key]
      exact g1
  have lp : ∀ n q g, q + n = 10 → FrM h g → MP g d → wX10_ratesOf_4 Q (n + 1) 223 (nI t) (nI (prS (dN d) (asR (dS d)) N m q)) (nI q) g := by
    intro n
    induction n with
    | zero =>
      intro q g hn f mg
      have hn : q = 10 := by omega
      subst hn
      unfold wX10_ratesOf_4
      exact ⟨fun _ => hq g f mg, fun z => absurd (nI_le (Nat.le_refl _) (by omega)) z⟩
    | succ n ih =>
      intro q g hn f mg
      have l1 := lt_of_pow (prS_lt (dN d) (asR (dS d)) N m q) (by omega)
      unfold wX10_ratesOf_4
      refine ⟨fun z => absurd z (nI_ge (by omega) (by omega)), fun _ => ⟨m + 1, ?_⟩⟩
      have p1 : prF (dN d) (asR (dS d)) N q 0 = 1 := prF_y (fun i hi => absurd hi (by omega))
      have k := inner (wX10_ratesOf_4 Q (n + 1)) q (prS (dN d) (asR (dS d)) N m q) (by omega) l1 (fun g2 f2 m2 => ih (q + 1) g2 (by omega) f2 m2) m 0 g (by omega) f mg
      rw [p1] at k
      exact k
  exact ⟨11, lp 10 0 h (by omega) (FrM_rfl _) mp⟩
