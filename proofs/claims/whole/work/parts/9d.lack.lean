/-! ===== what links lack; isCover ===== -/
def usedC (v : NV) (cp : Nat → Nat) (l : Nat) : Nat := sumC (fun c => cp c * usN v c l) (nvC v)
def lkC (v : NV) (cp : Nat → Nat) (l : Nat) : Nat := nvW v l - usedC v cp l
/-- the links that lack so many, or more, among the first n -/
def lacB (v : NV) (cp : Nat → Nat) (u : Nat) : Nat → Nat
  | 0 => 0
  | l + 1 => if u ≤ lkC v cp l then lacB v cp u l ||| 2 ^ l else lacB v cp u l
theorem lacB_lt (v : NV) (cp : Nat → Nat) (u : Nat) : ∀ l, lacB v cp u l < 2 ^ l
  | 0 => Nat.one_pos
  | l + 1 => by
    have h1 := lacB_lt v cp u l
    have h2 : (2 : Nat) ^ (l + 1) = 2 ^ l + 2 ^ l := by rw [Nat.pow_succ]; omega
    unfold lacB
    by_cases q : u ≤ lkC v cp l
    · rw [if_pos q]; exact Nat.or_lt_two_pow (by omega) (by omega)
    · rw [if_neg q]; omega
theorem lacB_bt (v : NV) (cp : Nat → Nat) (u : Nat) : ∀ n k, bt (lacB v cp u n) k = if k < n ∧ u ≤ lkC v cp k then 1 else 0
  | 0, k => by
    rw [if_neg (by omega)]
    show bt 0 k = 0
    unfold bt
    rw [Nat.zero_div]
  | n + 1, k => by
    have ih := lacB_bt v cp u n k
    unfold lacB
    by_cases q : u ≤ lkC v cp n
    · rw [if_pos q, bt_or, ih]
      by_cases e : k = n
      · rw [if_pos e, if_pos (by rw [e]; exact ⟨by omega, q⟩)]
      · rw [if_neg e]
        by_cases z : k < n ∧ u ≤ lkC v cp k
        · rw [if_pos z, if_pos ⟨by omega, z.2⟩]
        · rw [if_neg z, if_neg (fun y => z ⟨by omega, y.2⟩)]
    · rw [if_neg q, ih]
      by_cases z : k < n ∧ u ≤ lkC v cp k
      · rw [if_pos z, if_pos ⟨by omega, z.2⟩]
      · rw [if_neg z, if_neg (fun y => z ⟨by
          by_cases e : k = n
          · rw [e] at y; exact absurd y.2 q
          · omega, y.2⟩)]
theorem usedC_lt {v : NV} {cp : Nat → Nat} {l : Nat} (hv : NvOK v) (hl : l < nvL v) (hc : ∀ c, c < nvC v → cp c ≤ 9) : usedC v cp l ≤ 720 := by
  have h4 := hv.1
  have h1 := sumC_le (f := fun c => cp c * usN v c l) (b := 18) (nvC v) (fun c hcc => by
    have a := hc c hcc
    have b := (us_cases hv hcc hl).1
    exact Nat.mul_le_mul a b)
  unfold usedC
  omega
theorem n_lacking {Q : Int32 → MH → Prop} {h : MH} {v : NV} {s : AS} {a b u : Nat} (hl : LX h) (p : NetV h a v) (hb : b ∈ stL) (ps : StV h b (encS s)) (hc9 : ∀ c, c < nvC v → asC s c ≤ 9) (hu : 1 ≤ u) (hu2 : u ≤ 2) (hq : Q (nI (lacB v (asC s) u (nvL v))) h) : wX4_lacking a b (nI u) h Q := by
  have h4 := p.1.1
  obtain ⟨w, w1, w2, w3, w4, w5, w6, w7⟩ := id p.2.2.2.2.2.2.2
  have lp : ∀ n l, l + n = nvL v → wX4_lacking_5 Q (n + 1) a b (nI u) (nI (lacB v (asC s) u l)) (nI l) h := by
    intro n
    induction n with
    | zero =>
      intro l hn
      have hn : l = nvL v := by omega
      subst hn
      unfold wX4_lacking_5
      rw [p.2.2.2.2.2.1]
      exact ⟨p.2.1, fun _ => hq, fun z => absurd (nI_le (Nat.le_refl _) (by omega)) z⟩
    | succ n ih =>
      intro l hn
      have g := ih (l + 1) (by omega)
      have h5 := p.1.2.1 l (by omega)
      have ul := usedC_lt (l := l) p.1 (by omega) hc9
      have ll := lt_of_pow (lacB_lt v (asC s) u l) (by omega)
      have pl := pow_le10 (show l < 10 by omega)
      have e1 : lacB v (asC s) u (l + 1) = if u ≤ lkC v (asC s) l then lacB v (asC s) u l ||| 2 ^ l else lacB v (asC s) u l := rfl
      unfold wX4_lacking_5
      rw [p.2.2.2.2.2.1, nI_add, nI_clamp (by omega)]
      refine ⟨p.2.1, fun z => absurd z (nI_ge (by omega) (by omega)), fun _ => ⟨w 7, (w1 7 (by omega) (by omega) (by omega)).1, 10, w2.2.2.2.1, vp_in_nI (by omega) (by omega), n_usesLaid hl p hb ps (by omega) (fun x e => ?_)⟩⟩
      rw [(w3 l (by omega)).2.2.2, nI_shl l (by omega)] at e
      have eu : usedN v s l = usedC v (asC s) l := rfl
      have cmp : (nI (nvW v l) - nI (usedN v s l) < nI u) ↔ ¬ (u ≤ lkC v (asC s) l) := by
        rw [Int32.lt_iff_toInt_lt, pk_sub_toInt (by omega) (by omega), nI_toInt (by omega)]
        unfold lkC
        omega
      rw [e1] at g
      by_cases q : u ≤ lkC v (asC s) l
      · rw [if_neg (fun y => (cmp.mp y) q), nI_or (by omega) (by omega)] at e
        subst e
        rw [if_pos q] at g
        exact g
      · rw [if_pos (cmp.mpr q), nI_or (by omega) (by omega), Nat.or_zero] at e
        subst e
        rw [if_neg q] at g
        exact g
  exact ⟨_, lp (nvL v) 0 (by omega)⟩
/-- the reference's copies by ring -/
def CpM (h : MH) (v : NV) (r : Nat) (cp : Nat → Nat) : Prop := (∀ c, c < nvC v → bt (nvMy v r) c = 1 → hI h 224 (49 + bcN (nvMy v r) c) = nI (cp c)) ∧ (∀ c, c < nvC v → bt (nvMy v r) c = 0 → cp c = 0)
theorem CpM_of {h : MH} {v : NV} {s : AS} (hv : nvC v ≤ 40) (ok : AsOK v s) (ps : StM v s (fun k => hI h 224 (49 + k))) : CpM h v (asR s) (asC s) := ⟨fun c hc hb => ps.1 c hc hb, fun c hc hb => (ok.2.2.1 c (by omega)).2 hb⟩
theorem m_usedC_loop {Q : Int32 → MH → Prop} {h : MH} {v : NV} {r l : Nat} {cp : Nat → Nat} (hl : LX h) (hv : NvOK v) (p : RgV h v r) (pc : CpM h v r cp) (hl2 : l < nvL v) (hq : Q (nI (usedC v cp l)) h) : ∀ n c, c + n = nvC v → wX10_usedFor_4 Q (bcN (nvMy v r) (nvC v) - bcN (nvMy v r) c + 1) 223 (nI l) (nI (sumC (fun c => cp c * usN v c l) c)) (nI (bcN (nvMy v r) c)) h := by
  have h4 := hv.1
  have hC := bcN_le (nvMy v r) (nvC v)
  intro n
  induction n with
  | zero =>
    intro c hc
    have hc : c = nvC v := by omega
    subst hc
    rw [Nat.sub_self]
    unfold wX10_usedFor_4
    rw [p.1]
    exact ⟨S_223 hl, fun _ => hq, fun z => absurd (nI_le (Nat.le_refl _) (by omega)) z⟩
  | succ n ih =>
    intro c hc
    have g := ih (c + 1) (by omega)
    have e1 : bcN (nvMy v r) (c + 1) = bcN (nvMy v r) c + bt (nvMy v r) c := rfl
    have e2 : sumC (fun c => cp c * usN v c l) (c + 1) = sumC (fun c => cp c * usN v c l) c + cp c * usN v c l := rfl
    rcases bt01 (nvMy v r) c with b | b
    · have z := pc.2 c (by omega) b
      rw [e1, b, e2, z, Nat.zero_mul, Nat.add_zero, Nat.add_zero] at g
      exact g
    · have hlt := bcN_lt (show c < nvC v by omega) b
      have hlt2 := bcN_le (nvMy v r) c
      rw [e1, b, e2] at g
      rw [show bcN (nvMy v r) (nvC v) - bcN (nvMy v r) c + 1 = (bcN (nvMy v r) (nvC v) - (bcN (nvMy v r) c + 1) + 1) + 1 from by omega]
      unfold wX10_usedFor_4
      rw [p.1, nI_add, nI_add, nI_clamp (by omega)]
      refine ⟨S_223 hl, fun z => absurd z (nI_ge hlt (by omega)), fun _ => ⟨224, R_223_1 hl, 7011, S_224 hl, vp_in_nI (by omega) (by omega), m_useOf hl hv p (by omega) b hl2 (fun _ e => ?_)⟩⟩
      rw [pc.1 c (by omega) b, nI_mul, nI_add] at e
      subst e
      exact g
theorem m_usedC {Q : Int32 → MH → Prop} {h : MH} {v : NV} {r l : Nat} {cp : Nat → Nat} (hl : LX h) (hv : NvOK v) (p : RgV h v r) (pc : CpM h v r cp) (hl2 : l < nvL v) (hq : Q (nI (usedC v cp l)) h) : wX10_usedFor 223 (nI l) h Q :=
  ⟨_, m_usedC_loop hl hv p pc hl2 hq (nvC v) 0 (by omega)⟩
/-- all that is lacked, in threes -/
def lakN (v : NV) (f : Nat → Nat) : Nat → Nat
  | 0 => 0
  | l + 1 => lakN v f l + (if l < nvL v then f l else 0) * 3 ^ l
theorem lakN_lt {v : NV} {f : Nat → Nat} (hf : ∀ l, l < nvL v → f l ≤ 2) : ∀ n, lakN v f n < 3 ^ n
  | 0 => Nat.one_pos
  | n + 1 => by
    have ih := lakN_lt hf n
    show lakN v f n + (if n < nvL v then f n else 0) * 3 ^ n < 3 ^ (n + 1)
    have h1 : (if n < nvL v then f n else 0) ≤ 2 := by
      by_cases q : n < nvL v
      · rw [if_pos q]; exact hf n q
      · rw [if_neg q]; omega
    have h2 : (if n < nvL v then f n else 0) * 3 ^ n ≤ 2 * 3 ^ n := Nat.mul_le_mul_right _ h1
    have h3 : (3 : Nat) ^ (n + 1) = 3 * 3 ^ n := by rw [Nat.pow_succ, Nat.mul_comm]
    omega
theorem pow3_le : ∀ l, l ≤ 10 → 3 ^ l ≤ 59049 := by decide
theorem m_lackNow {Q : Int32 → MH → Prop} {h : MH} {v : NV} {r : Nat} {cp : Nat → Nat} (hl : LX h) (hv : NvOK v) (pn : MNet (hI h 224) v) (p : RgV h v r) (pc : CpM h v r cp) (hc9 : ∀ c, c < nvC v → cp c ≤ 9) (hq : ∀ g, Fr (fun b => b = 238) h g → (∀ l, l < 10 → hI g 238 l = nI (3 ^ l)) → Q (nI (lakN v (lkC v cp) 10)) g) : wX10_lackNow 223 h Q := by
  have h4 := hv.1
  have lk2 : ∀ l, l < nvL v → lkC v cp l ≤ 2 := fun l hl => by
    have := hv.2.1 l hl
    unfold lkC
    omega
  have lp : ∀ n l g, l + n = 10 → Fr (fun b => b = 238) h g → (∀ k, k < l → hI g 238 k = nI (3 ^ k)) → wX10_lackNow_6 Q (n + 1) 223 (nI (lakN v (lkC v cp) l)) (nI (3 ^ l)) (nI l) g := by
    intro n
    induction n with
    | zero =>
      intro l g hn f pw
      have hn : l = 10 := by omega
      subst hn
      unfold wX10_lackNow_6
      exact ⟨fun _ => hq g f pw, fun z => absurd (nI_le (by omega) (by omega)) z⟩
    | succ n ih =>
      intro l g hn f pw
      have hlg := LX_Fr f hl
      have p3 := pow3_le l (by omega)
      have ll := lakN_lt lk2 l
      have e224 : hI g 224 = hI h 224 := f.2.2.2.2 _ (by omega)
      have prg : RgV g v r := RgV_row (Fr_I f (by omega) _) (f.2.2.2.2 _ (by omega)) (f.2.2.2.2 _ (by omega)) (f.2.2.2.2 _ (by omega)) (f.2.2.2.2 _ (by omega)) p
      have pcg : CpM g v r cp := by
        unfold CpM
        rw [e224]
        exact pc
      have e1 : lakN v (lkC v cp) (l + 1) = lakN v (lkC v cp) l + (if l < nvL v then lkC v cp l else 0) * 3 ^ l := rfl
      have fin : ∀ x : Int32, (if x ≤ 0 then nI 0 else x * nI (3 ^ l)) = nI ((if l < nvL v then lkC v cp l else 0) * 3 ^ l) → wX10_lackNow_41 Q (wX10_lackNow_6 Q (n + 1)) 223 (nI (lakN v (lkC v cp) l)) (nI (3 ^ l)) (nI l) x g := fun x ex => by
        unfold wX10_lackNow_41 wX10_lackNow_57
        rw [ex]
        refine ⟨S_223 hlg, 238, R_223_29 hlg, 10, S_238 hlg, vp_in_nI (by omega) (by omega), fun _ e => ?_⟩
        rw [nI_clamp (by omega)] at e
        subst e
        rw [nI_add, nI_mul, nI_add, ← e1, show 3 ^ l * 3 = 3 ^ (l + 1) from rfl]
        refine ih (l + 1) _ (by omega) (Fr_trans f (Fr_sI rfl)) (fun k hk => ?_)
        rw [hI_sI]
        by_cases q : k = l
        · rw [if_pos ⟨rfl, q⟩, q]
        · rw [if_neg (fun z => q z.2)]
          exact pw k (by omega)
      unfold wX10_lackNow_6
      rw [show (nI 2).toNatClampNeg = 2 from by decide]
      refine ⟨fun z => absurd z (nI_ge (by omega) (by omega)), fun _ => ⟨S_223 hlg, 224, R_223_1 hlg, 7011, S_224 hlg, vp_in_nI (by omega) (by omega), ?_⟩⟩
      rw [e224, pn.2.2.1]
      by_cases q : l < nvL v
      · refine ⟨fun z => absurd z (nI_ge q (by omega)), fun _ => ⟨?_, ?_⟩⟩
        · rw [nI_add]; exact vp_in_nI (by omega) (by omega)
        · rw [nI_add, nI_clamp (by omega), (pn.2.2.2.1 l q).2.2.2]
          refine m_usedC hlg hv prg pcg q (fin _ ?_)
          have ul := usedC_lt (l := l) hv q hc9
          have h5 := hv.2.1 l q
          rw [if_pos q]
          by_cases z : nvW v l ≤ usedC v cp l
          · have e2 : lkC v cp l = 0 := by unfold lkC; omega
            rw [if_pos (by rw [Int32.le_iff_toInt_le, pk_sub_toInt (by omega) (by omega), i0_toInt]; omega), e2, Nat.zero_mul]
          · rw [if_neg (fun y => by rw [Int32.le_iff_toInt_le, pk_sub_toInt (by omega) (by omega), i0_toInt] at y; omega), nI_subN (by omega), nI_mul]
            rfl
      · refine ⟨fun _ => fin _ ?_, fun z => absurd (nI_le (by omega) (by omega)) z⟩
        rw [if_pos (by decide), if_neg q, Nat.zero_mul]
  exact ⟨11, lp 10 0 h (by omega) (Fr_rfl _ _) (fun k hk => absurd hk (by omega))⟩
theorem lakN_zero {v : NV} {f : Nat → Nat} : ∀ n, nvL v ≤ n → ((lakN v f n = 0) ↔ ∀ l, l < nvL v → f l = 0) := by
  have h : ∀ n, (lakN v f n = 0) ↔ ∀ l, l < n → l < nvL v → f l = 0 := by
    intro n
    induction n with
    | zero => exact ⟨fun _ l hl => absurd hl (by omega), fun _ => rfl⟩
    | succ n ih =>
      have p3 : 0 < 3 ^ n := Nat.pow_pos (by omega)
      show (lakN v f n + (if n < nvL v then f n else 0) * 3 ^ n = 0) ↔ _
      constructor
      · intro e l hl hl2
        have e1 : lakN v f n = 0 := by omega
        have e2 : (if n < nvL v then f n else 0) * 3 ^ n = 0 := by omega
        by_cases q : l = n
        · rw [q] at hl2 ⊢
          rw [if_pos hl2] at e2
          rcases Nat.mul_eq_zero.mp e2 with z | z
          · exact z
          · omega
        · exact ih.mp e1 l (by omega) hl2
      · intro e
        rw [ih.mpr (fun l hl => e l (by omega))]
        by_cases q : n < nvL v
        · rw [if_pos q, e n (by omega) q, Nat.zero_mul]
        · rw [if_neg q, Nat.zero_mul]
  intro n hn
  rw [h n]
  exact ⟨fun e l hl => e l (by omega) hl, fun e l _ hl => e l hl⟩
theorem zero_of_bits {a : Nat} (h : ∀ k, bt a k = 0) : a = 0 := by
  apply Nat.eq_of_testBit_eq
  intro i
  rw [Nat.zero_testBit]
  cases q : a.testBit i with
  | false => rfl
  | true =>
    have := (bt_tb a i).mpr q
    have := h i
    omega
theorem lacB_zero {v : NV} {cp : Nat → Nat} : (lacB v cp 1 (nvL v) = 0) ↔ ∀ l, l < nvL v → lkC v cp l = 0 := by
  constructor
  · intro e l hl
    have h := lacB_bt v cp 1 (nvL v) l
    rw [e] at h
    have h0 : bt 0 l = 0 := by unfold bt; rw [Nat.zero_div]
    rw [h0] at h
    by_cases q : 1 ≤ lkC v cp l
    · rw [if_pos ⟨hl, q⟩] at h; omega
    · omega
  · intro e
    refine zero_of_bits (fun k => ?_)
    rw [lacB_bt]
    by_cases q : k < nvL v
    · rw [if_neg (fun y => by have := e k q; omega)]
    · rw [if_neg (fun y => q y.1)]
theorem MP_238 {h g : MH} {d : DV} (f : Fr (fun b => b = 238) h g) (m : MP h d) : MP g d := MP_cong (Fr_I f (by omega) _) (f.2.2.2.2 _ (by omega)) (f.2.2.2.2 _ (by omega)) (fun b b1 b2 => f.2.2.2.2 _ (by omega)) m
theorem FrM_238 {h g : MH} (f : Fr (fun b => b = 238) h g) : FrM h g := FrM_Fr (fun b q => ⟨by unfold SM; omega, by omega⟩) f
theorem cp9 {v : NV} {s : AS} (hv : NvOK v) (ok : AsOK v s) : ∀ c, c < nvC v → asC s c ≤ 9 := fun c hc => (ok.2.2.1 c (by have := hv.1; omega)).1
theorem ST_isCover_c {CV : MH → Prop} (ck : ∀ h h1, CvEq h h1 → CV h → CV h1) : ST_isCover (RLY (RRc CV)) := by
  intro h hr P kP
  obtain ⟨hl, t1, t2, d, ok, c, m⟩ := hr
  obtain ⟨⟨a, ca, cn⟩, cs, _⟩ := id c
  have h4 := cn.1.1
  refine ⟨S_128 hl, a, ca, 146, R_128_2 hl, cn.2.1, n_lacking hl cn (by decide) cs (cp9 cn.1 ok.1) (by omega) (by omega) (kP _ _ (S_223 hl) (fun P2 k2 => ⟨S_223 hl, fun _ e => ?_⟩))⟩
  subst e
  have m2 := MP_thrown (x := nI 0) m
  have hl2 : LX (sI h 223 0 (nI 0)) := LX_sI hl
  refine m_lackNow hl2 cn.1 m2.2.1 m2.2.2.1 (CpM_of (by omega) ok.1 m2.2.2.2.1) (cp9 cn.1 ok.1) (fun g f pw => ?_)
  have ll := lt_of_pow (lacB_lt (dN d) (asC (dS d)) 1 (nvL (dN d))) (by omega)
  have lk := lakN_lt (v := dN d) (f := lkC (dN d) (asC (dS d))) (fun l hl => by have := cn.1.2.1 l hl; unfold lkC; omega) 10
  have e : (if nI (lakN (dN d) (lkC (dN d) (asC (dS d))) 10) = 0 then nI 1 else nI 0) = if nI (lacB (dN d) (asC (dS d)) 1 (nvL (dN d))) = 0 then nI 1 else nI 0 := by
    by_cases q : ∀ l, l < nvL (dN d) → lkC (dN d) (asC (dS d)) l = 0
    · rw [if_pos ((nI_eq0 (by omega)).mpr ((lakN_zero 10 (by omega)).mpr q)), if_pos ((nI_eq0 (by omega)).mpr (lacB_zero.mpr q))]
    · rw [if_neg (fun y => q ((lakN_zero 10 (by omega)).mp ((nI_eq0 (by omega)).mp y))), if_neg (fun y => q (lacB_zero.mp ((nI_eq0 (by omega)).mp y)))]
  rw [e]
  exact k2 _ (st_close ck hl ⟨t1, t2⟩ (Fr_rfl _ _) c (FrM_trans (FrM_thrown h (nI 0)) (FrM_238 f)) (MP_238 f m2) ok)
