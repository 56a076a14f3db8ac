/-! ===== ask ===== -/
/-- by how many of the first n rates, of a set, a cycle costs as by rate a -/
def alK (v : NV) (S c a : Nat) : Nat → Nat
  | 0 => 0
  | b + 1 => alK v S c a b + (if bt S a = 1 ∧ bt S b = 1 ∧ nvPc v a c = nvPc v b c then 1 else 0)
theorem alK_le (v : NV) (S c a : Nat) : ∀ n, alK v S c a n ≤ n
  | 0 => Nat.le_refl _
  | b + 1 => by
    have ih := alK_le v S c a b
    show alK v S c a b + _ ≤ b + 1
    by_cases q : bt S a = 1 ∧ bt S b = 1 ∧ nvPc v a c = nvPc v b c
    · rw [if_pos q]; omega
    · rw [if_neg q]; omega
theorem alK_0 {v : NV} {S c a : Nat} (h : bt S a = 0) : ∀ n, alK v S c a n = 0
  | 0 => rfl
  | b + 1 => by
    show alK v S c a b + _ = 0
    rw [alK_0 h b, if_neg (fun q => by omega)]
def msA (v : NV) (S c : Nat) : Nat → Nat
  | 0 => 0
  | a + 1 => max (msA v S c a) (alK v S c a 10)
theorem msA_le (v : NV) (S c : Nat) : ∀ n, msA v S c n ≤ 10
  | 0 => Nat.zero_le _
  | a + 1 => by
    have h1 := msA_le v S c a
    have h2 := alK_le v S c a 10
    show max _ _ ≤ 10
    omega
theorem n_mostAlike {Q : Int32 → MH → Prop} {h : MH} {v : NV} {a S c : Nat} (p : NetV h a v) (hc : c < nvC v) (hS : S < 1024) (hq : Q (nI (msA v S c 10)) h) : wX4_mostAlike a (nI c) (nI S) h Q := by
  have h4 := p.1.1
  have inner : ∀ (K : Nat → Int32 → Int32 → Int32 → Int32 → MH → Prop) (x : Nat), x < 10 → K a (nI c) (nI S) (nI (msA v S c (x + 1))) (nI (x + 1)) h → ∀ n b, b + n = 10 → wX4_mostAlike_22 Q K (n + 1) a (nI c) (nI S) (nI (msA v S c x)) (nI x) (nI (alK v S c x b)) (nI b) h := by
    intro K x hx hK n
    have ml := msA_le v S c x
    have fin : wX4_mostAlike_73 Q K a (nI c) (nI S) (nI (msA v S c x)) (nI x) (nI (alK v S c x 10)) h := by
      have al := alK_le v S c x 10
      have e1 : msA v S c (x + 1) = max (msA v S c x) (alK v S c x 10) := rfl
      unfold wX4_mostAlike_73
      rw [nI_add]
      rw [e1] at hK
      by_cases q : msA v S c x < alK v S c x 10
      · rw [if_pos (nI_lt q (by omega))]
        rw [Nat.max_eq_right (by omega)] at hK
        exact hK
      · rw [if_neg (nI_nlt (by omega) (by omega))]
        rw [Nat.max_eq_left (by omega)] at hK
        exact hK
    have bx := bt_lt S x
    induction n with
    | zero =>
      intro b hb
      have hb : b = 10 := by omega
      subst hb
      unfold wX4_mostAlike_22
      exact ⟨fun _ => fin, fun _ => ⟨fun _ => fin, fun z => absurd (nI_le (Nat.le_refl _) (by omega)) z⟩⟩
    | succ n ih =>
      intro b hb
      have g := ih (b + 1) (by omega)
      have bb := bt_lt S b
      have p1 := pc_lt p.1 (c := c) hx
      have p2 := pc_lt p.1 (c := c) (show b < 10 by omega)
      have e2 : alK v S c x (b + 1) = alK v S c x b + (if bt S x = 1 ∧ bt S b = 1 ∧ nvPc v x c = nvPc v b c then 1 else 0) := rfl
      unfold wX4_mostAlike_22
      rw [nI_bit (by omega) (by omega), nI_bit (by omega) (by omega), nI_eq0 (by omega), nI_eq0 (by omega), nI_add b 1]
      refine ⟨fun z => ?_, fun z => ⟨fun z2 => absurd z2 (nI_ge (by omega) (by omega)), fun _ => ⟨fun z2 => ?_, fun z2 => ⟨p.2.1, n_priceOf p hc hx ⟨p.2.1, n_priceOf p hc (by omega) ?_⟩⟩⟩⟩⟩
      · rw [alK_0 z b]
        rw [alK_0 z 10] at fin
        exact fin
      · rw [e2, if_neg (fun q => by omega)] at g
        exact g
      · rw [nI_eq (by omega) (by omega), nI_add]
        refine ⟨fun z3 => ?_, fun z3 => ?_⟩
        · rw [e2, if_neg (fun q => z3 q.2.2)] at g
          exact g
        · rw [e2, if_pos ⟨by omega, by omega, z3⟩] at g
          exact g
  have lp : ∀ n x, x + n = 10 → wX4_mostAlike_5 Q (n + 1) a (nI c) (nI S) (nI (msA v S c x)) (nI x) h := by
    intro n
    induction n with
    | zero =>
      intro x hx
      have hx : x = 10 := by omega
      subst hx
      unfold wX4_mostAlike_5
      exact ⟨fun _ => hq, fun _ => ⟨fun _ => hq, fun z => absurd (nI_le (Nat.le_refl _) (by omega)) z⟩⟩
    | succ n ih =>
      intro x hx
      unfold wX4_mostAlike_5
      exact ⟨fun z => absurd z (nI_pos (by omega)), fun _ => ⟨fun z => absurd z (nI_ge (by omega) (by omega)), fun _ => ⟨11, inner _ x (by omega) (ih (x + 1) (by omega)) 10 0 (by omega)⟩⟩⟩
  exact ⟨11, lp 10 0 (by omega)⟩
theorem MP_239 {h g : MH} {d : DV} (f : Fr (fun b => b = 239) h g) (m : MP h d) : MP g d := MP_cong (Fr_I f (by omega) _) (f.2.2.2.2 _ (by omega)) (f.2.2.2.2 _ (by omega)) (fun b b1 b2 => f.2.2.2.2 _ (by omega)) m
theorem FrM_239 {h g : MH} (f : Fr (fun b => b = 239) h g) : FrM h g := FrM_Fr (fun b q => ⟨by unfold SM; omega, by omega⟩) f
theorem m_mostAlike {Q : Int32 → MH → Prop} {h : MH} {d : DV} {S c : Nat} (hl : LX h) (hv : NvOK (dN d)) (m : MP h d) (hc : c < nvC (dN d)) (hb : bt (nvMy (dN d) (asR (dS d))) c = 1) (hS : S < 1024) (hq : ∀ g, FrM h g → MP g d → Q (nI (msA (dN d) S c 10)) g) : wX10_mostAlike 223 (nI S) (nI (bcN (nvMy (dN d) (asR (dS d))) c)) h Q := by
  have h4 := hv.1
  have rlt := isRg_lt (x := nI (bcN (nvMy (dN d) (asR (dS d))) c)) hv ⟨hc, hb, rfl⟩
  have inner : ∀ (K : Nat → Int32 → Int32 → Int32 → MH → Prop) (g : MH) (x : Nat), LX g → (∀ k, k < 10 → hI g 239 k = nI (nvPc (dN d) k c)) → x < 10 → K 223 (nI S) (nI (msA (dN d) S c (x + 1))) (nI (x + 1)) g → ∀ n b, b + n = 10 → wX10_mostAlike_49 Q K (n + 1) 223 (nI S) (nI (msA (dN d) S c x)) (nI x) (nI (alK (dN d) S c x b)) (nI b) g := by
    intro K g x hlg pc hx hK n
    have ml := msA_le (dN d) S c x
    have bx := bt_lt S x
    induction n with
    | zero =>
      intro b hb
      have hb : b = 10 := by omega
      subst hb
      have al := alK_le (dN d) S c x 10
      have e1 : msA (dN d) S c (x + 1) = max (msA (dN d) S c x) (alK (dN d) S c x 10) := rfl
      unfold wX10_mostAlike_49
      rw [nI_add x 1]
      refine ⟨fun _ => ?_, fun z => absurd (nI_le (Nat.le_refl _) (by omega)) z⟩
      rw [e1] at hK
      by_cases q : msA (dN d) S c x < alK (dN d) S c x 10
      · rw [if_neg (nI_ge q (by omega))]
        rw [Nat.max_eq_right (by omega)] at hK
        exact hK
      · rw [if_pos (nI_le (by omega) (by omega))]
        rw [Nat.max_eq_left (by omega)] at hK
        exact hK
    | succ n ih =>
      intro b hbn
      have gg := ih (b + 1) (by omega)
      have bb := bt_lt S b
      have p1 := pc_lt hv (c := c) hx
      have p2 := pc_lt hv (c := c) (show b < 10 by omega)
      have e2 : alK (dN d) S c x (b + 1) = alK (dN d) S c x b + (if bt S x = 1 ∧ bt S b = 1 ∧ nvPc (dN d) x c = nvPc (dN d) b c then 1 else 0) := rfl
      unfold wX10_mostAlike_49
      rw [nI_add b 1, nI_add (alK (dN d) S c x b) 0]
      refine ⟨fun z => absurd z (nI_ge (by omega) (by omega)), fun _ => u_isIn (by omega) (by omega) ?_⟩
      rw [nI_eq0 (by omega)]
      refine ⟨fun z => ?_, fun z => u_isIn (by omega) (by omega) ?_⟩
      · rw [e2, if_neg (fun q => by omega)] at gg
        exact gg
      · rw [nI_eq0 (by omega)]
        refine ⟨fun z2 => ?_, fun z2 => ⟨S_223 hlg, 239, R_223_30 hlg, 10, S_239 hlg, vp_in_nI (by omega) (by omega), vp_in_nI (by omega) (by omega), fun y ey => ?_⟩⟩
        · rw [e2, if_neg (fun q => by omega)] at gg
          exact gg
        · rw [nI_clamp (by omega), nI_clamp (by omega), pc x hx, pc b (by omega)] at ey
          rw [e2] at gg
          by_cases q : nvPc (dN d) x c = nvPc (dN d) b c
          · rw [if_pos (by rw [q]), nI_add] at ey
            subst ey
            rw [if_pos ⟨by omega, by omega, q⟩] at gg
            exact gg
          · rw [if_neg (fun u => q ((nI_eq (by omega) (by omega)).mp u)), nI_add] at ey
            subst ey
            rw [if_neg (fun u => q u.2.2)] at gg
            exact gg
  have mid : ∀ g, FrM h g → MP g d → (∀ k, k < 10 → hI g 239 k = nI (nvPc (dN d) k c)) → ∀ n x, x + n = 10 → wX10_mostAlike_36 Q (n + 1) 223 (nI S) (nI (msA (dN d) S c x)) (nI x) g := by
    intro g f mg pc n
    have hlg := LX_Fr f.1 hl
    induction n with
    | zero =>
      intro x hx
      have hx : x = 10 := by omega
      subst hx
      unfold wX10_mostAlike_36
      exact ⟨fun _ => hq g f mg, fun z => absurd (nI_le (Nat.le_refl _) (by omega)) z⟩
    | succ n ih =>
      intro x hx
      unfold wX10_mostAlike_36
      exact ⟨fun z => absurd z (nI_ge (by omega) (by omega)), fun _ => ⟨11, inner _ g x hlg pc (by omega) (ih (x + 1) (by omega)) 10 0 (by omega)⟩⟩
  have lp : ∀ n x g, x + n = 10 → FrM h g → MP g d → (∀ k, k < x → hI g 239 k = nI (nvPc (dN d) k c)) → wX10_mostAlike_2 Q (n + 1) 223 (nI S) (nI (bcN (nvMy (dN d) (asR (dS d))) c)) (nI x) g := by
    intro n
    induction n with
    | zero =>
      intro x g hx f mg pc
      have hx : x = 10 := by omega
      subst hx
      unfold wX10_mostAlike_2
      exact ⟨fun _ => ⟨11, mid g f mg pc 10 0 (by omega)⟩, fun z => absurd (nI_le (Nat.le_refl _) (by omega)) z⟩
    | succ n ih =>
      intro x g hx f mg pc
      have hlg := LX_Fr f.1 hl
      unfold wX10_mostAlike_2
      rw [nI_add, nI_clamp (by omega)]
      refine ⟨fun z => absurd z (nI_ge (by omega) (by omega)), fun _ => ⟨S_223 hlg, 239, R_223_30 hlg, 230, R_223_18 hlg, 64, S_230 hlg, vp_in_nI (by omega) (by omega), ?_⟩⟩
      rw [(mg.2.2.1.2 c hc hb).1]
      refine m_costOf hlg mg hc (by omega) (fun g2 f2 m2 => ⟨10, S_239 (LX_Fr f2 hlg), vp_in_nI (by omega) (by omega), fun g3 e3 => ?_⟩)
      rw [nI_clamp (by omega)] at e3
      have f3 : Fr (fun b => b = 239) g2 g3 := by rw [e3]; exact Fr_sI rfl
      refine ih (x + 1) g3 (by omega) (FrM_trans f (FrM_trans (FrM_cost f2) (FrM_239 f3))) (MP_239 f3 m2) (fun k hk => ?_)
      rw [e3, hI_sI]
      by_cases q : k = x
      · rw [if_pos ⟨rfl, q⟩, q]
      · rw [if_neg (fun z => q z.2), Fr_I f2 (by omega)]
        exact pc k (by omega)
  exact ⟨11, lp 10 0 h (by omega) (FrM_rfl _) m (fun k hk => absurd hk (by omega))⟩
def akB (v : NV) (r S : Nat) : Nat → Nat × Int32
  | 0 => (11, -1)
  | c + 1 => if bt (nvMy v r) c = 1 ∧ msA v S c 10 < (akB v r S c).1 then (msA v S c 10, nI (bcN (nvMy v r) c)) else akB v r S c
theorem akB_le (v : NV) (r S : Nat) : ∀ c, (akB v r S c).1 ≤ 11
  | 0 => Nat.le_refl _
  | c + 1 => by
    have ih := akB_le v r S c
    have ml := msA_le v S c 10
    unfold akB
    by_cases q : bt (nvMy v r) c = 1 ∧ msA v S c 10 < (akB v r S c).1
    · rw [if_pos q]; show msA v S c 10 ≤ 11; omega
    · rw [if_neg q]; exact ih
theorem ask_n {Q : Int32 → MH → Prop} {h : MH} {v : NV} {s : AS} {a S : Nat} (hl : LX h) (ca : hR h 128 1 = some a) (p : NetV h a v) (ok : AsOK v s) (ps : StV h 146 (encS s)) (hS : S < 1024) (hq : Q (akB v (asR s) S (nvC v)).2 h) : ∀ n c, c + n = nvC v → wX9_ask_55 Q (bcN (nvMy v (asR s)) (nvC v) - bcN (nvMy v (asR s)) c + 1) 128 (nI S) (nI (bcN (nvMy v (asR s)) (nvC v))) (nI (akB v (asR s) S c).1) (akB v (asR s) S c).2 (nI (bcN (nvMy v (asR s)) c)) h := by
  have h4 := p.1.1
  have hC := bcN_le (nvMy v (asR s)) (nvC v)
  intro n
  induction n with
  | zero =>
    intro c hc
    have hc : c = nvC v := by omega
    subst hc
    rw [Nat.sub_self]
    unfold wX9_ask_55
    exact ⟨fun _ => hq, fun z => absurd (nI_le (Nat.le_refl _) (by omega)) z⟩
  | succ n ih =>
    intro c hc
    have g := ih (c + 1) (by omega)
    have e1 : bcN (nvMy v (asR s)) (c + 1) = bcN (nvMy v (asR s)) c + bt (nvMy v (asR s)) c := rfl
    have e2 : akB v (asR s) S (c + 1) = if bt (nvMy v (asR s)) c = 1 ∧ msA v S c 10 < (akB v (asR s) S c).1 then (msA v S c 10, nI (bcN (nvMy v (asR s)) c)) else akB v (asR s) S c := rfl
    rcases bt01 (nvMy v (asR s)) c with b | b
    · rw [e1, b, e2, if_neg (fun q => by omega)] at g
      exact g
    · have hlt := bcN_lt (show c < nvC v by omega) b
      have al := akB_le v (asR s) S c
      have ml := msA_le v S c 10
      rw [e1, b, e2] at g
      rw [show bcN (nvMy v (asR s)) (nvC v) - bcN (nvMy v (asR s)) c + 1 = (bcN (nvMy v (asR s)) (nvC v) - (bcN (nvMy v (asR s)) c + 1) + 1) + 1 from by omega]
      unfold wX9_ask_55
      rw [nI_add]
      refine ⟨fun z => absurd z (nI_ge hlt (by omega)), fun _ => ⟨S_128 hl, a, ca, 146, R_128_2 hl, S_146 hl, p.2.1, ?_⟩⟩
      rw [show hI h 146 0 = nI (asR s) from ps.1]
      refine n_cycleOf1 (c := c) p ok.1 ⟨by omega, b, rfl⟩ ⟨p.2.1, n_mostAlike p (by omega) hS ?_⟩
      refine ⟨fun z => ?_, fun z => ?_⟩
      · rw [if_neg (fun q => by rw [Int32.le_iff_toInt_le, nI_toInt (by omega), nI_toInt (by omega)] at z; omega)] at g
        exact g
      · rw [if_pos ⟨b, by rw [Int32.le_iff_toInt_le, nI_toInt (by omega), nI_toInt (by omega)] at z; omega⟩] at g
        exact g
theorem ask_m {Q : Int32 → MH → Prop} {h : MH} {d : DV} {S : Nat} (hl : LX h) (hv : NvOK (dN d)) (hS : S < 1024) (hS0 : S ≠ 0) (hq : ∀ g, FrM h g → MP g d → Q (akB (dN d) (asR (dS d)) S (nvC (dN d))).2 g) : ∀ n c L g, c + n = nvC (dN d) → FrM h g → MP g d → ((bcN (nvMy (dN d) (asR (dS d))) c = 0 ∧ L = 268435456 ∧ akB (dN d) (asR (dS d)) S c = (11, -1)) ∨ L = (akB (dN d) (asR (dS d)) S c).1) → wX10_ask_34 Q (bcN (nvMy (dN d) (asR (dS d))) (nvC (dN d)) - bcN (nvMy (dN d) (asR (dS d))) c + 1) 223 (nI S) (akB (dN d) (asR (dS d)) S c).2 (nI L) (nI (bcN (nvMy (dN d) (asR (dS d))) c)) g := by
  have h4 := hv.1
  have hC := bcN_le (nvMy (dN d) (asR (dS d))) (nvC (dN d))
  intro n
  induction n with
  | zero =>
    intro c L g hc f m hL
    have hc : c = nvC (dN d) := by omega
    subst hc
    rw [Nat.sub_self]
    unfold wX10_ask_34
    rw [m.2.2.1.1]
    exact ⟨S_223 (LX_Fr f.1 hl), fun _ => hq g f m, fun z => absurd (nI_le (Nat.le_refl _) (by omega)) z⟩
  | succ n ih =>
    intro c L g hc f m hL
    have hlg := LX_Fr f.1 hl
    have e1 : bcN (nvMy (dN d) (asR (dS d))) (c + 1) = bcN (nvMy (dN d) (asR (dS d))) c + bt (nvMy (dN d) (asR (dS d))) c := rfl
    have e2 : akB (dN d) (asR (dS d)) S (c + 1) = if bt (nvMy (dN d) (asR (dS d))) c = 1 ∧ msA (dN d) S c 10 < (akB (dN d) (asR (dS d)) S c).1 then (msA (dN d) S c 10, nI (bcN (nvMy (dN d) (asR (dS d))) c)) else akB (dN d) (asR (dS d)) S c := rfl
    rcases bt01 (nvMy (dN d) (asR (dS d))) c with b | b
    · have e3 : akB (dN d) (asR (dS d)) S (c + 1) = akB (dN d) (asR (dS d)) S c := by rw [e2, if_neg (fun q => by omega)]
      have g1 := ih (c + 1) L g (by omega) f m (by rw [e1, b, e3]; exact hL)
      rw [e1, b, e3] at g1
      exact g1
    · have hlt := bcN_lt (show c < nvC (dN d) by omega) b
      have al := akB_le (dN d) (asR (dS d)) S c
      have ml := msA_le (dN d) S c 10
      have lL : L ≤ 268435456 := by
        rcases hL with q | q
        · omega
        · omega
      have cmp : (msA (dN d) S c 10 < L) ↔ msA (dN d) S c 10 < (akB (dN d) (asR (dS d)) S c).1 := by
        rcases hL with q | q
        · rw [q.2.2, q.2.1]
          show _ ↔ _ < 11
          omega
        · rw [q]
      rw [show bcN (nvMy (dN d) (asR (dS d))) (nvC (dN d)) - bcN (nvMy (dN d) (asR (dS d))) c + 1 = (bcN (nvMy (dN d) (asR (dS d))) (nvC (dN d)) - (bcN (nvMy (dN d) (asR (dS d))) c + 1) + 1) + 1 from by omega]
      unfold wX10_ask_34
      rw [m.2.2.1.1, nI_add]
      refine ⟨S_223 hlg, fun z => absurd z (nI_ge hlt (by omega)), fun _ => ⟨fun z => absurd ((nI_eq0 (by omega)).mp z) hS0, fun _ => m_mostAlike hlg hv m (by omega) b hS (fun g2 f2 m2 => ⟨fun z => ?_, fun z => ?_⟩)⟩⟩
      · have lt : msA (dN d) S c 10 < L := by
          rw [Int32.lt_iff_toInt_lt, nI_toInt (by omega), nI_toInt (by omega)] at z
          omega
        have e3 : akB (dN d) (asR (dS d)) S (c + 1) = (msA (dN d) S c 10, nI (bcN (nvMy (dN d) (asR (dS d))) c)) := by rw [e2, if_pos ⟨b, cmp.mp lt⟩]
        have g1 := ih (c + 1) (msA (dN d) S c 10) g2 (by omega) (FrM_trans f f2) m2 (Or.inr (by rw [e3]))
        rw [e1, b, e3] at g1
        exact g1
      · have nlt : ¬ (msA (dN d) S c 10 < L) := fun q => z (nI_lt q (by omega))
        have e3 : akB (dN d) (asR (dS d)) S (c + 1) = akB (dN d) (asR (dS d)) S c := by rw [e2, if_neg (fun q => nlt (cmp.mpr q.2))]
        have g1 := ih (c + 1) L g2 (by omega) (FrM_trans f f2) m2 (by
          rw [e3]
          rcases hL with q | q
          · exfalso
            rw [q.2.1] at nlt
            omega
          · exact Or.inr q)
        rw [e1, b, e3] at g1
        exact g1
theorem ST_ask_c {CV : MH → Prop} (ck : ∀ h h1, CvEq h h1 → CV h → CV h1) : ST_ask (RLY (RRc CV)) := by
  intro y1 h hr P kP
  obtain ⟨hl, t1, t2, d, ok, c, m⟩ := hr
  have cl := rd_close (x := nI 0) ck hl t1 t2 ok c m
  obtain ⟨⟨a, ca, cn⟩, cs, _⟩ := id c
  have h4 := cn.1.1
  have bC := bcN_le (nvMy (dN d) (asR (dS d))) (nvC (dN d))
  have m2 := MP_thrown (x := nI 0) m
  have hl2 : LX (sI h 223 0 (nI 0)) := LX_sI hl
  have row : ∀ b, b ≠ 223 → hI (sI h 223 0 (nI 0)) b = hI h b := fun b hb => hI_sI_row hb
  refine ⟨S_128 hl, n_refused hl t2 ca cn ok.1 cs (fun q => ⟨fun z => absurd z (by decide), fun _ => kP _ _ (S_223 hl) (fun P2 k2 => ⟨S_223 hl, fun _ e => ?_⟩)⟩) (fun t ht e e1 => ⟨fun z => absurd z (by decide), fun _ => kP _ _ (S_223 hl) (fun P2 k2 => ⟨S_223 hl, fun _ e2 => ?_⟩)⟩) (fun t mm ht e hm e1 e2 e3 e4 => ?_)⟩
  · subst e
    refine ⟨S_223 hl2, m_noTray hl2 (fun _ => ⟨fun z => absurd z (by decide), fun _ => ⟨fun z => absurd z (by decide), fun _ => k2 _ cl⟩⟩) (fun t ht e _ => ?_) (fun t ht e _ => ?_)⟩
    · rw [e, nI_toInt (by omega)] at q; omega
    · rw [e, nI_toInt (by omega)] at q; omega
  · subst e2
    subst e
    refine ⟨S_223 hl2, m_noTray hl2 (fun q => absurd (by rw [nI_toInt (by omega)]; omega) q) (fun t' ht' e' _ => ⟨fun z => absurd z (by decide), fun _ => ⟨fun z => absurd z (by decide), fun _ => k2 _ cl⟩⟩) (fun t' ht' e' q => absurd ?_ q)⟩
    rw [← (nI_eq (by omega) (by omega)).mp e', row 241 (by omega)]
    exact e1
  · subst e
    have tg := tr_S (t := t) hl ht
    refine ⟨fun z => ⟨fun y => absurd y (by decide), fun _ => kP _ _ (S_223 hl) (fun P2 k2 => ⟨S_223 hl, fun _ e => ?_⟩)⟩, fun z1 z2 => ⟨fun ng => ⟨fun y => absurd y (by decide), fun _ => kP _ _ (S_223 hl) (fun P2 k2 => ⟨S_223 hl, fun _ e => ?_⟩)⟩, fun gd => ⟨fun _ => ⟨S_128 hl, 206, R_128_9 hl, 4, S_206 hl, vp_in_nI (by omega) (by omega), 207 + 2 * t, by rw [nI_clamp (by omega)]; exact tg.2.2.1, n_pricedRates (nums := fun k => hL h 243 (40 * t + k)) hl ca cn ok.1 cs ht hm e2 e4 (told_good (by omega) gd) ?_⟩, fun y => absurd nI_0 y⟩⟩⟩
    · subst e
      exact m_refused (s := dS d) hl2 cn.1 m2.2.2.1 ht (by rw [row 241 (by omega)]; exact e1) (by rw [row 242 (by omega)]; exact e3) hm (fun _ => ⟨fun y => absurd y (by decide), fun _ => k2 _ cl⟩) (fun y1 y2 => absurd z (by omega)) (fun y1 y2 => absurd z (by omega))
    · subst e
      exact m_refused (s := dS d) hl2 cn.1 m2.2.2.1 ht (by rw [row 241 (by omega)]; exact e1) (by rw [row 242 (by omega)]; exact e3) hm (fun y => absurd y (by omega)) (fun _ _ _ => ⟨fun y => absurd y (by decide), fun _ => k2 _ cl⟩) (fun _ _ gd => absurd gd ng)
    · have sl := lt_of_pow (prS_lt (dN d) (asR (dS d)) (fun i => (hL h 243 (40 * t + i)).toInt.toNat) mm 10) (by omega)
      have mdl : ∀ {r : Int32}, (∀ P2 : Int32 → MH → Prop, (∀ h2, RLY (RRc CV) h2 → P2 r h2) → ∀ g, FrM (sI h 223 0 (nI 0)) g → MP g d → ∃ m11, wX10_ask_34 P2 m11 223 (nI (prS (dN d) (asR (dS d)) (fun i => (hL h 243 (40 * t + i)).toInt.toNat) mm 10)) (-1 : Int32) (268435456 : Int32) (nI 0) g) → P r h := fun {r} kk => by
        refine kP _ _ (S_223 hl) (fun P2 k2 => ⟨S_223 hl, fun _ e => ?_⟩)
        subst e
        exact m_refused (s := dS d) hl2 cn.1 m2.2.2.1 ht (by rw [row 241 (by omega)]; exact e1) (by rw [row 242 (by omega)]; exact e3) hm (fun y => absurd y (by omega)) (fun _ _ ng => absurd gd ng) (fun _ _ _ => ⟨fun _ => ⟨S_223 hl2, m_ratesOf (nums := fun k => hL h 243 (40 * t + k)) hl2 cn.1 m2 ht hm (by rw [row 242 (by omega)]; exact e3) (fun k hk => rfl) (told_good (by omega) gd) (fun g f mg => kk P2 k2 g f mg)⟩, fun y => absurd nI_0 y⟩)
      have clo : ∀ {r : Int32} {P2 : Int32 → MH → Prop}, (∀ h2, RLY (RRc CV) h2 → P2 r h2) → ∀ g, FrM (sI h 223 0 (nI 0)) g → MP g d → P2 r g := fun k2 g f mg => k2 _ (st_close ck hl ⟨t1, t2⟩ (Fr_rfl _ _) c (FrM_trans (FrM_thrown h (nI 0)) f) mg ok)
      refine ⟨fun z => ⟨S_128 hl, a, ca, 146, R_128_2 hl, S_146 hl, cn.2.1, ?_⟩, fun z => mdl (fun P2 k2 g f mg => ⟨1, ?_⟩)⟩
      · have z0 : prS (dN d) (asR (dS d)) (fun i => (hL h 243 (40 * t + i)).toInt.toNat) mm 10 ≠ 0 := fun y => z ((nI_eq0 (by omega)).mpr y)
        rw [show hI h 146 0 = nI (asR (dS d)) from cs.1]
        refine n_ringCount cn ok.1.1 ⟨_, ask_n hl ca cn ok.1 cs sl (mdl (fun P2 k2 g f mg => ⟨_, ask_m (LX_Fr f.1 hl2) cn.1 sl z0 (fun g2 f2 m3 => clo k2 g2 (FrM_trans f f2) m3) (nvC (dN d)) 0 268435456 g (by omega) (FrM_rfl _) mg (Or.inl ⟨rfl, rfl, rfl⟩)⟩)) (nvC (dN d)) 0 (by omega)⟩
      · unfold wX10_ask_34
        exact ⟨S_223 (LX_Fr f.1 hl2), fun _ => clo k2 g f mg, fun _ => ⟨fun _ => clo k2 g f mg, fun y => absurd z y⟩⟩
