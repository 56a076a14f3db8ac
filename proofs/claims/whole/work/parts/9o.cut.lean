/-! ===== cut ===== -/
theorem i32_xa (x y z : Int32) : (x ^^^ y) &&& z = (x &&& z) ^^^ (y &&& z) := by
  apply Int32.toBitVec_inj.mp
  rw [Int32.toBitVec_and, Int32.toBitVec_xor, Int32.toBitVec_xor, Int32.toBitVec_and, Int32.toBitVec_and]
  apply BitVec.eq_of_getLsbD_eq
  intro i hi
  rw [BitVec.getLsbD_and, BitVec.getLsbD_xor, BitVec.getLsbD_xor, BitVec.getLsbD_and, BitVec.getLsbD_and]
  cases x.toBitVec.getLsbD i <;> cases y.toBitVec.getLsbD i <;> cases z.toBitVec.getLsbD i <;> rfl
theorem shl0 : ∀ l, l < 10 → nI 0 <<< (nI l &&& 31) = nI 0 := by decide
theorem lv_bit {S f t l : Nat} (hS : S < 2 ^ 31) (hf : f < 32) (ht : t < 32) (hl : l < 10) : ((((nI S >>> (nI f &&& 31)) ^^^ (nI S >>> (nI t &&& 31))) &&& nI 1) <<< (nI l &&& 31)) = nI (if bt S f = bt S t then 0 else 2 ^ l) := by
  rw [i32_xa, nI_bit hS hf, nI_bit hS ht]
  rcases bt01 S f with a | a <;> rcases bt01 S t with b | b <;> rw [a, b]
  · rw [if_pos rfl, show nI 0 ^^^ nI 0 = nI 0 from by decide]; exact shl0 l hl
  · rw [if_neg (by omega), show nI 0 ^^^ nI 1 = nI 1 from by decide]; exact nI_shl l (by omega)
  · rw [if_neg (by omega), show nI 1 ^^^ nI 0 = nI 1 from by decide]; exact nI_shl l (by omega)
  · rw [if_pos rfl, show nI 1 ^^^ nI 1 = nI 0 from by decide]; exact shl0 l hl
theorem n_leaving {Q : Int32 → MH → Prop} {h : MH} {v : NV} {b S : Nat} (p : NetV h b v) (hS : S < 2 ^ 31) (hq : Q (nI (lvN v S (nvL v))) h) : wX4_linksLeaving b (nI S) h Q := by
  have h4 := p.1.1
  obtain ⟨q0, q1, q2, q3, q4, q5, q6, pp, w1, w2, w3, w4, w5, w6, w7⟩ := id p
  have lp : ∀ n l, l + n = nvL v → wX4_linksLeaving_4 Q (n + 1) b (nI S) (nI (lvN v S l)) (nI l) h := by
    intro n
    induction n with
    | zero =>
      intro l hn
      have hn : l = nvL v := by omega
      subst hn
      unfold wX4_linksLeaving_4
      rw [q5]
      exact ⟨q1, fun _ => hq, fun z => absurd (nI_le (Nat.le_refl _) (by omega)) z⟩
    | succ n ih =>
      intro l hn
      have g := ih (l + 1) (by omega)
      have h5 := p.1.2.1 l (by omega)
      have ll := lt_of_pow (lvN_lt v S l) (by omega)
      have pl := pow_le10 (show l < 10 by omega)
      have e1 : lvN v S (l + 1) = if bt S (nvF v l) = bt S (nvT v l) then lvN v S l else lvN v S l ||| 2 ^ l := rfl
      unfold wX4_linksLeaving_4
      rw [q5, nI_add, nI_clamp (by omega)]
      refine ⟨q1, fun z => absurd z (nI_ge (by omega) (by omega)), fun _ => ⟨pp 4, (w1 4 (by omega) (by omega) (by omega)).1, 10, w2.1, vp_in_nI (by omega) (by omega), pp 5, (w1 5 (by omega) (by omega) (by omega)).1, 10, w2.2.1, vp_in_nI (by omega) (by omega), fun y ey => ?_⟩⟩
      rw [(w3 l (by omega)).1, (w3 l (by omega)).2.1, lv_bit hS (by omega) (by omega) (by omega)] at ey
      rw [e1] at g
      by_cases q : bt S (nvF v l) = bt S (nvT v l)
      · rw [if_pos q, nI_or (by omega) (by omega), Nat.or_zero] at ey
        subst ey
        rw [if_pos q] at g
        exact g
      · rw [if_neg q, nI_or (by omega) (by omega)] at ey
        subst ey
        rw [if_neg q] at g
        exact g
  exact ⟨_, lp (nvL v) 0 (by omega)⟩
theorem n_leastCut {Q : Int32 → MH → Prop} {h : MH} {v : NV} {o a b : Nat} (p : NetV h o v) (ha : a < nvK v) (hb : b < nvK v) (hab : a ≠ b) (hq : ∀ x, isCut v a b x → Q (nI x) h) : wX4_leastCut o (nI a) (nI b) h Q := by
  have h4 := p.1.1
  obtain ⟨q0, q1, q2, q3, q4, q5, q6, _⟩ := id p
  have pK : 2 ^ nvK v ≤ 256 := by
    have : (2 : Nat) ^ nvK v ≤ 2 ^ 8 := Nat.pow_le_pow_right (by omega) (by omega)
    omega
  have pL : 2 ^ nvL v ≤ 1024 := by
    have : (2 : Nat) ^ nvL v ≤ 2 ^ 10 := Nat.pow_le_pow_right (by omega) (by omega)
    omega
  have pL0 : 0 < 2 ^ nvL v := Nat.two_pow_pos _
  have lp : ∀ n S x, S + n = 2 ^ nvK v → ctI v a b x S → wX4_leastCut_12 Q (n + 1) o (nI a) (nI b) (nI x) (nI S) h := by
    intro n
    induction n with
    | zero =>
      intro S x hn ct
      have hn : S = 2 ^ nvK v := by omega
      subst hn
      unfold wX4_leastCut_12
      rw [q3, nI_shl _ (by omega)]
      exact ⟨q1, fun _ => hq x (ctI_cut p.1 ha ct), fun z => absurd (nI_le (Nat.le_refl _) (by omega)) z⟩
    | succ n ih =>
      intro S x hn ct
      have ba := bt_lt S a
      have bb := bt_lt S b
      have lx := ct.1
      have lv := lt_of_pow (lvN_lt v S (nvL v)) (by omega)
      have c1 := bcN_le (lvN v S (nvL v)) 10
      have c2 := bcN_le x 10
      have skip : (bt S a = 1 → bt S b = 0 → lexL x (lvN v S (nvL v))) → wX4_leastCut_12 Q (n + 1) o (nI a) (nI b) (nI x) (nI (S + 1)) h := fun hs => ih (S + 1) x (by omega) ⟨ct.1, ct.2.1, fun T hT t1 t2 => by
        by_cases e : T = S
        · rw [e] at t1 t2 ⊢; exact hs t1 t2
        · exact ct.2.2 T (by omega) t1 t2⟩
      unfold wX4_leastCut_12
      rw [q3, nI_shl _ (by omega), nI_bit (by omega) (by omega), nI_bit (by omega) (by omega), nI_eq0 (by omega), nI_eq0 (by omega), nI_add]
      refine ⟨q1, fun z => absurd z (nI_ge (by omega) (by omega)), fun _ => ⟨fun z => skip (fun t1 _ => absurd t1 (by omega)), fun z => ⟨fun z2 => skip (fun _ t2 => absurd t2 z2), fun z2 => n_leaving p (by omega) (u_bitCount lv (u_bitCount (by omega) ?_))⟩⟩⟩
      have take : (lexL (lvN v S (nvL v)) x) → wX4_leastCut_12 Q (n + 1) o (nI a) (nI b) (nI (lvN v S (nvL v))) (nI (S + 1)) h := fun hx => ih (S + 1) _ (by omega) ⟨lvN_lt v S _, lv_sep (by omega) z2, fun T hT t1 t2 => by
        by_cases e : T = S
        · rw [e]; exact lex_rfl _
        · exact lex_trans hx (ct.2.2 T (by omega) t1 t2)⟩
      have sub := pk_sub_toInt (a := bcN (lvN v S (nvL v)) 10) (b := bcN x 10) (by omega) (by omega)
      have lt0 : (nI (bcN (lvN v S (nvL v)) 10) - nI (bcN x 10) < 0) ↔ bcN (lvN v S (nvL v)) 10 < bcN x 10 := by
        rw [Int32.lt_iff_toInt_lt, sub, i0_toInt]; omega
      have eq0 : (nI (bcN (lvN v S (nvL v)) 10) - nI (bcN x 10) = 0) ↔ bcN (lvN v S (nvL v)) 10 = bcN x 10 := by
        rw [← Int32.toInt_inj, sub, i0_toInt]; omega
      have leq : (nI x ≤ nI (lvN v S (nvL v))) ↔ x ≤ lvN v S (nvL v) := by
        rw [Int32.le_iff_toInt_le, nI_toInt (by omega), nI_toInt (by omega)]; omega
      rw [lt0, eq0, leq]
      refine ⟨fun y => take (Or.inl y), fun y => ⟨fun y2 => skip (fun _ _ => Or.inl (by omega)), fun y2 => ⟨fun y3 => skip (fun _ _ => Or.inr ⟨by omega, y3⟩), fun y3 => take (Or.inr ⟨y2, by omega⟩)⟩⟩⟩
  unfold wX4_leastCut
  rw [q5, nI_shl _ (by omega), nI_subN (by omega)]
  exact ⟨q1, _, lp (2 ^ nvK v) 0 (2 ^ nvL v - 1) (by omega) ⟨by omega, full_sep hab, fun T hT => absurd hT (by omega)⟩⟩
theorem m_cutLoop {Q : Int32 → MH → Prop} {h : MH} {v : NV} {a b w : Nat} (hl : LX h) (hv : NvOK v) (pn : MNet (hI h 224) v) (ha : a < nvK v) (hb : b < nvK v) (hw : w < 2) (hq : ∀ x, isCut v a b x → Q (if w = 0 then nI (bcN x 10) else nI x) h) : ∀ k x, k ≤ 2 ^ nvL v → x < 2 ^ nvL v → sepN v a b x → (∀ y, k ≤ y → y < 2 ^ nvL v → sepN v a b y → lexL x y) → wX10_cut_77 Q (k + 1) 223 (nI a) (nI b) (nI w) (nI x) (nI k + (-1 : Int32)) h := by
  have h4 := hv.1
  have pL : 2 ^ nvL v ≤ 1024 := by
    have : (2 : Nat) ^ nvL v ≤ 2 ^ 10 := Nat.pow_le_pow_right (by omega) (by omega)
    omega
  intro k
  induction k with
  | zero =>
    intro x hk hx sx mn
    have kk := hq x ⟨hx, sx, fun y hy sy => mn y (by omega) hy sy⟩
    unfold wX10_cut_77
    refine ⟨fun _ => ⟨fun z => ?_, fun z => ?_⟩, fun z => absurd (by decide) z⟩
    · rw [if_neg (fun y => z (by rw [y]; exact nI_0))] at kk
      exact kk
    · rw [if_pos ((nI_eq0 (by omega)).mp z)] at kk
      exact u_bitsOf (by omega) kk
  | succ k ih =>
    intro x hk hx sx mn
    have c1 := bcN_le k 10
    have c2 := bcN_le x 10
    have cl := ltK_256 hv (comN_lt hv (w := k) (pow_ltK ha) (nvK v))
    have bb := bt_lt (comN v k (2 ^ a) (nvK v)) b
    rw [pk_m1]
    unfold wX10_cut_77
    refine ⟨fun z => absurd z (nI_pos (by omega)), fun _ => u_bitsOf (by omega) (u_bitsOf (by omega) ⟨fun z => ?_, fun z => ⟨S_223 hl, m_comesTo hl hv pn ha (by omega) (u_isIn (by omega) (by omega) ?_)⟩⟩)⟩
    · have lt : bcN x 10 < bcN k 10 := by
        rw [Int32.lt_iff_toInt_lt, nI_toInt (by omega), nI_toInt (by omega)] at z
        omega
      refine ih x (by omega) hx sx (fun y h1 h2 h3 => ?_)
      by_cases e : y = k
      · rw [e]; exact Or.inl lt
      · exact mn y (by omega) h2 h3
    · have nlt : bcN k 10 ≤ bcN x 10 := by
        apply Classical.byContradiction
        intro q
        exact z (nI_lt (by omega) (by omega))
      rw [nI_eq0 (by omega)]
      refine ⟨fun y => ih x (by omega) hx sx (fun u h1 h2 h3 => ?_), fun y => ih k (by omega) (by omega) y (fun u h1 h2 h3 => ?_)⟩
      · by_cases e : u = k
        · rw [e] at h3; exact absurd h3 y
        · exact mn u (by omega) h2 h3
      · by_cases e : u = k
        · rw [e]; exact lex_rfl _
        · have := mn u (by omega) h2 h3
          unfold lexL at this ⊢
          omega
theorem n_hasNode {Q : Int32 → MH → Prop} {h : MH} {v : NV} {o : Nat} {x : Int32} (p : NetV h o v) (k1 : ∀ n, n < nvK v → x = nI n → Q (nI 1) h) (k2 : ¬ (0 ≤ x.toInt ∧ x.toInt ≤ (nvK v : Int) - 1) → Q (nI 0) h) : wX4_hasNode o x h Q := by
  have h4 := p.1.1
  unfold wX4_hasNode
  rw [p.2.2.2.1]
  refine ⟨fun c => k2 ?_, fun c => ⟨p.2.1, ?_⟩⟩
  · rw [Int32.lt_iff_toInt_lt, i0_toInt] at c
    omega
  · rw [Int32.lt_iff_toInt_lt, i0_toInt] at c
    by_cases c2 : nI (nvK v) ≤ x
    · rw [if_pos c2]
      rw [Int32.le_iff_toInt_le, nI_toInt (by omega)] at c2
      exact ⟨Or.inl (by decide), k2 (by omega)⟩
    · rw [if_neg c2]
      rw [Int32.le_iff_toInt_le, nI_toInt (by omega)] at c2
      refine ⟨Or.inr (by decide), k1 x.toInt.toNat (by omega) ?_⟩
      apply Int32.toInt_inj.mp
      rw [nI_toInt (by omega)]
      omega
theorem ST_cut_c {CV : MH → Prop} (ck : ∀ h h1, CvEq h h1 → CV h → CV h1) : ST_cut (RLY (RRc CV)) := by
  intro y1 y2 y3 h hr P kP
  obtain ⟨hl, t1, t2, d, ok, c, m⟩ := hr
  have cl := rd_close (x := nI 0) ck hl t1 t2 ok c m
  obtain ⟨⟨o, ca, cn⟩, cs, _⟩ := id c
  have h4 := cn.1.1
  have m2 := MP_thrown (x := nI 0) m
  have hl2 : LX (sI h 223 0 (nI 0)) := LX_sI hl
  have l0 : (0 : Int64).toInt = 0 := by decide
  have l1 : (1 : Int64).toInt = 1 := by decide
  have lm : ((nI (nvK (dN d)) - nI 1).toInt64).toInt = (nvK (dN d) : Int) - 1 := by
    rw [Int32.toInt_toInt64, Int32.toInt_sub, nI_toInt (by omega), nI_toInt (by omega), Int.bmod_eq_of_le (by omega) (by omega)]
    rfl
  have eK : hI (sI h 223 0 (nI 0)) 224 (nI 1).toNatClampNeg = nI (nvK (dN d)) := m2.2.1.2.1
  have opn : ∀ {P2 : Int32 → MH → Prop}, (¬ ((0 ≤ y1.toInt ∧ y1.toInt ≤ (nvK (dN d) : Int) - 1) ∧ (0 ≤ y2.toInt ∧ y2.toInt ≤ (nvK (dN d) : Int) - 1) ∧ 0 ≤ y3.toInt ∧ y3.toInt ≤ 1) → P2 (-2) (sI h 223 0 (nI 0))) → ((0 ≤ y1.toInt ∧ y1.toInt ≤ (nvK (dN d) : Int) - 1) → (0 ≤ y2.toInt ∧ y2.toInt ≤ (nvK (dN d) : Int) - 1) → (0 ≤ y3.toInt ∧ y3.toInt ≤ 1) → (y1 = y2 → P2 (-1) (sI h 223 0 (nI 0))) ∧ (y1 ≠ y2 → ∃ m38, wX10_cut_77 P2 m38 223 y1 y2 y3 (nI (2 ^ nvL (dN d) - 1)) (nI (2 ^ nvL (dN d) - 1)) (sI h 223 0 (nI 0)))) → wX10_cut 223 y1 y2 y3 h P2 := by
    intro P2 k1 k2
    have pL0 : 0 < 2 ^ nvL (dN d) := Nat.two_pow_pos _
    refine ⟨S_223 hl, fun g e => ?_⟩
    subst e
    refine ⟨224, R_223_1 hl2, 7011, S_224 hl2, vp_in_nI (by omega) (by omega), ?_⟩
    rw [eK]
    refine u_within (fun a1 a2 => ⟨fun z => absurd z (by decide), fun _ => ⟨S_223 hl2, 224, R_223_1 hl2, 7011, S_224 hl2, vp_in_nI (by omega) (by omega), ?_⟩⟩) (fun q => ⟨fun _ => k1 (fun y => q (by rw [lm]; omega)), fun z => absurd nI_0 z⟩)
    rw [eK]
    rw [lm] at a2
    refine u_within (fun b1 b2 => ⟨fun z => absurd z (by decide), fun _ => ?_⟩) (fun q => ⟨fun _ => k1 (fun y => q (by rw [lm]; omega)), fun z => absurd nI_0 z⟩)
    rw [lm] at b2
    refine u_within (fun c1 c2 => ⟨fun _ => ?_, fun z => absurd z (by decide)⟩) (fun q => ⟨fun z => absurd nI_0 z, fun _ => k1 (fun y => q (by omega))⟩)
    have kk := k2 ⟨by omega, by omega⟩ ⟨by omega, by omega⟩ ⟨by omega, by omega⟩
    refine ⟨fun z => ⟨S_223 hl2, 224, R_223_1 hl2, 7011, S_224 hl2, vp_in_nI (by omega) (by omega), fun x ex => ?_⟩, fun z => kk.1 z⟩
    rw [nI_clamp (by omega), m2.2.1.2.2.1, nI_shl _ (by omega), nI_subN (by omega)] at ex
    subst ex
    exact kk.2 z
  have bad : ¬ ((0 ≤ y1.toInt ∧ y1.toInt ≤ (nvK (dN d) : Int) - 1) ∧ (0 ≤ y2.toInt ∧ y2.toInt ≤ (nvK (dN d) : Int) - 1) ∧ 0 ≤ y3.toInt ∧ y3.toInt ≤ 1) → P (-2) h := fun q => kP _ _ (S_223 hl) (fun P2 k2 => opn (fun _ => k2 _ cl) (fun z1 z2 z3 => absurd ⟨z1, z2, z3⟩ q))
  refine ⟨S_128 hl, o, ca, cn.2.1, n_hasNode cn (fun a ha ea => ⟨fun z => absurd z (by decide), fun _ => ⟨S_128 hl, o, ca, cn.2.1, n_hasNode cn (fun b hb eb => ⟨fun z => absurd z (by decide), fun _ => ⟨fun z => bad ?_, fun z => ⟨fun z2 => ?_, fun z2 => bad ?_⟩⟩⟩) (fun q => ⟨fun _ => bad (fun y => q y.2.1), fun z => absurd nI_0 z⟩)⟩⟩) (fun q => ⟨fun _ => bad (fun y => q y.1), fun z => absurd nI_0 z⟩)⟩
  · rw [Int32.lt_iff_toInt_lt, i0_toInt] at z
    omega
  · rw [Int32.lt_iff_toInt_lt, i0_toInt] at z
    rw [Int32.le_iff_toInt_le, nI_toInt (by omega)] at z2
    obtain ⟨w, hw, ew⟩ : ∃ w, w < 2 ∧ y3 = nI w := ⟨y3.toInt.toNat, by omega, by
      apply Int32.toInt_inj.mp
      rw [nI_toInt (by omega)]
      omega⟩
    subst ea
    subst eb
    subst ew
    rw [nI_eq (by omega) (by omega)]
    refine ⟨fun hab => ⟨S_128 hl, o, ca, cn.2.1, n_leastCut cn ha hb hab (fun x cx => ?_)⟩, fun hab => kP _ _ (S_223 hl) (fun P2 k2 => opn (fun q => absurd (by rw [nI_toInt (by omega), nI_toInt (by omega)]; omega) q) (fun _ _ _ => ⟨fun _ => k2 _ cl, fun y => absurd (by rw [hab]) y⟩))⟩
    have pL0 : 0 < 2 ^ nvL (dN d) := Nat.two_pow_pos _
    have xl := lt_of_pow cx.1 (by omega)
    have mdl : P (if w = 0 then nI (bcN x 10) else nI x) h := kP _ _ (S_223 hl) (fun P2 k2 => opn (fun q => absurd (by rw [nI_toInt (by omega), nI_toInt (by omega)]; omega) q) (fun _ _ _ => ⟨fun y => absurd ((nI_eq (by omega) (by omega)).mp y) hab, fun _ => ⟨2 ^ nvL (dN d) + 1, by
      have k := m_cutLoop (Q := P2) hl2 cn.1 m2.2.1 ha hb hw (fun x' cx' => by rw [← cut_uniq cx cx']; exact k2 _ cl) (2 ^ nvL (dN d)) (2 ^ nvL (dN d) - 1) (Nat.le_refl _) (by omega) (full_sep hab) (fun y h1 h2 => absurd h2 (by omega))
      rw [show nI (2 ^ nvL (dN d)) + (-1 : Int32) = nI (2 ^ nvL (dN d) - 1) from by
        have e := pk_m1 (2 ^ nvL (dN d) - 1)
        rw [show 2 ^ nvL (dN d) - 1 + 1 = 2 ^ nvL (dN d) from by omega] at e
        exact e] at k
      exact k⟩⟩))
    refine ⟨fun y => ?_, fun y => u_bitCount xl ?_⟩
    · rw [if_neg (fun u => y (by rw [u]; exact nI_0))] at mdl
      exact mdl
    · rw [if_pos ((nI_eq0 (by omega)).mp y)] at mdl
      exact mdl
  · rw [Int32.le_iff_toInt_le, nI_toInt (by omega)] at z2
    omega
