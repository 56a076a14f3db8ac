/-! ===== nodes that can be come to; bridges ===== -/
/-- one round over the first l links, links of w aside -/
def comL (v : NV) (w x : Nat) : Nat → Nat
  | 0 => x
  | l + 1 => if bt w l = 0 ∧ comL v w x l &&& enS (nvF v) (nvT v) l ≠ 0 then comL v w x l ||| enS (nvF v) (nvT v) l else comL v w x l
def comR (v : NV) (w x : Nat) : Nat := comL v w x (nvL v)
def comN (v : NV) (w x : Nat) : Nat → Nat
  | 0 => x
  | n + 1 => comR v w (comN v w x n)
theorem pow_ltK {a K : Nat} (h : a < K) : 2 ^ a < 2 ^ K := Nat.pow_lt_pow_right (by omega) h
theorem enS_ltK {v : NV} (hv : NvOK v) {l : Nat} (hl : l < nvL v) : enS (nvF v) (nvT v) l < 2 ^ nvK v := by
  have h := hv.2.1 l hl
  exact Nat.or_lt_two_pow (pow_ltK h.1) (pow_ltK h.2.1)
theorem comL_lt {v : NV} (hv : NvOK v) {w x : Nat} (hx : x < 2 ^ nvK v) : ∀ l, l ≤ nvL v → comL v w x l < 2 ^ nvK v
  | 0, _ => hx
  | l + 1, h => by
    have ih := comL_lt hv (w := w) hx l (by omega)
    unfold comL
    by_cases q : bt w l = 0 ∧ comL v w x l &&& enS (nvF v) (nvT v) l ≠ 0
    · rw [if_pos q]; exact Nat.or_lt_two_pow ih (enS_ltK hv (by omega))
    · rw [if_neg q]; exact ih
theorem comN_lt {v : NV} (hv : NvOK v) {w x : Nat} (hx : x < 2 ^ nvK v) : ∀ n, comN v w x n < 2 ^ nvK v
  | 0 => hx
  | n + 1 => comL_lt hv (comN_lt hv hx n) _ (Nat.le_refl _)
theorem bt_orN (a b k : Nat) : bt (a ||| b) k = if bt a k = 1 ∨ bt b k = 1 then 1 else 0 := by
  by_cases q : bt a k = 1 ∨ bt b k = 1
  · rw [if_pos q]
    refine (bt_tb _ _).mpr ?_
    rw [Nat.testBit_or]
    rcases q with q | q
    · rw [(bt_tb _ _).mp q, Bool.true_or]
    · rw [(bt_tb _ _).mp q, Bool.or_true]
  · rw [if_neg q]
    rcases bt01 (a ||| b) k with z | z
    · exact z
    · have z1 := (bt_tb _ _).mp z
      rw [Nat.testBit_or] at z1
      exfalso
      cases e : a.testBit k
      · rw [e, Bool.false_or] at z1
        exact q (Or.inr ((bt_tb _ _).mpr z1))
      · exact q (Or.inl ((bt_tb _ _).mpr e))
theorem comL_ge (v : NV) (w x : Nat) : ∀ l k, bt x k = 1 → bt (comL v w x l) k = 1
  | 0, _, h => h
  | l + 1, k, h => by
    have ih := comL_ge v w x l k h
    unfold comL
    by_cases q : bt w l = 0 ∧ comL v w x l &&& enS (nvF v) (nvT v) l ≠ 0
    · rw [if_pos q, bt_orN, if_pos (Or.inl ih)]
    · rw [if_neg q]; exact ih
theorem bcN_sub {a b : Nat} : ∀ n, (∀ k, k < n → bt a k = 1 → bt b k = 1) → bcN a n ≤ bcN b n
  | 0, _ => Nat.le_refl _
  | n + 1, h => by
    have ih := bcN_sub n (fun k hk => h k (by omega))
    have h1 := bt_lt a n
    have h2 := h n (by omega)
    show bcN a n + bt a n ≤ bcN b n + bt b n
    rcases bt01 a n with z | z
    · omega
    · have := h2 z; omega
theorem bcN_eq_of {a b : Nat} : ∀ n, (∀ k, k < n → bt a k = 1 → bt b k = 1) → bcN b n ≤ bcN a n → ∀ k, k < n → bt a k = bt b k
  | 0, _, _, k, hk => absurd hk (by omega)
  | n + 1, h, e, k, hk => by
    have h0 := bcN_sub (a := a) (b := b) n (fun k hk => h k (by omega))
    have e2 : bcN b n + bt b n ≤ bcN a n + bt a n := e
    have h2 := h n (by omega)
    have b1 := bt01 a n
    have b2 := bt01 b n
    have b3 : bt a n ≤ bt b n := by
      rcases b1 with z | z
      · omega
      · have := h2 z; omega
    by_cases q : k = n
    · rw [q]; omega
    · exact bcN_eq_of n (fun k hk => h k (by omega)) (by omega) k (by omega)
theorem comR_or {v : NV} (hv : NvOK v) {w x : Nat} (hx : x < 2 ^ nvK v) : comR v w x = x ∨ bcN x 8 + 1 ≤ bcN (comR v w x) 8 := by
  have h4 := hv.1
  have sub : ∀ k, k < 8 → bt x k = 1 → bt (comR v w x) k = 1 := fun k _ h => comL_ge v w x _ k h
  by_cases q : bcN (comR v w x) 8 ≤ bcN x 8
  · left
    have e := bcN_eq_of 8 sub q
    have l1 : comR v w x < 2 ^ nvK v := comL_lt hv hx _ (Nat.le_refl _)
    exact (mask_ext hx l1 (fun c hc => by rw [e c (by omega)])).symm
  · right
    omega
theorem com_stable {v : NV} (hv : NvOK v) {w a : Nat} (ha : a < nvK v) : ∀ i, comN v w (2 ^ a) (nvK v + i) = comN v w (2 ^ a) (nvK v) := by
  have h4 := hv.1
  have hx : 2 ^ a < 2 ^ nvK v := pow_ltK ha
  have st : ∀ j, comR v w (comN v w (2 ^ a) j) = comN v w (2 ^ a) j ∨ j + 1 ≤ bcN (comN v w (2 ^ a) j) 8 := by
    intro j
    induction j with
    | zero =>
      right
      show 0 + 1 ≤ bcN (2 ^ a) 8
      have b1 : bt (2 ^ a) a = 1 := (bt_tb _ _).mpr Nat.testBit_two_pow_self
      have := bcN_lt (m := 2 ^ a) (c := a) (n := 8) (by omega) b1
      omega
    | succ j ih =>
      rcases ih with e | e
      · left
        show comR v w (comR v w (comN v w (2 ^ a) j)) = comR v w (comN v w (2 ^ a) j)
        rw [e, e]
      · rcases comR_or hv (w := w) (comN_lt hv (w := w) hx j) with q | q
        · left
          show comR v w (comR v w (comN v w (2 ^ a) j)) = comR v w (comN v w (2 ^ a) j)
          rw [q, q]
        · right
          show j + 1 + 1 ≤ bcN (comR v w (comN v w (2 ^ a) j)) 8
          omega
  have sK : comR v w (comN v w (2 ^ a) (nvK v)) = comN v w (2 ^ a) (nvK v) := by
    rcases st (nvK v) with e | e
    · exact e
    · exfalso
      have l := comN_lt hv (w := w) hx (nvK v)
      have z := bcz_hi l (8 - nvK v)
      rw [show nvK v + (8 - nvK v) = 8 from by omega] at z
      have := bcN_le (comN v w (2 ^ a) (nvK v)) (nvK v)
      omega
  intro i
  induction i with
  | zero => rfl
  | succ i ih =>
    show comR v w (comN v w (2 ^ a) (nvK v + i)) = _
    rw [ih, sK]
theorem com_8 {v : NV} (hv : NvOK v) {w a : Nat} (ha : a < nvK v) : comN v w (2 ^ a) 8 = comN v w (2 ^ a) (nvK v) := by
  have h4 := hv.1
  have h := com_stable hv (w := w) ha (8 - nvK v)
  rw [show nvK v + (8 - nvK v) = 8 from by omega] at h
  exact h
theorem ltK_256 {v : NV} (hv : NvOK v) {x : Nat} (h : x < 2 ^ nvK v) : x < 256 := Nat.lt_of_lt_of_le h (by
  have h4 := hv.1
  have : (2 : Nat) ^ nvK v ≤ 2 ^ 8 := Nat.pow_le_pow_right (by omega) (by omega)
  omega)
theorem n_comeTo {Q : Int32 → MH → Prop} {h : MH} {v : NV} {a w b : Nat} (p : NetV h b v) (ha : a < nvK v) (hw : w < 2 ^ 31) (hq : Q (nI (comN v w (2 ^ a) (nvK v))) h) : wX4_comeTo b (nI a) (nI w) h Q := by
  have h4 := p.1.1
  have hx : 2 ^ a < 2 ^ nvK v := pow_ltK ha
  obtain ⟨q0, q1, q2, q3, q4, q5, q6, pp, w1, w2, w3, w4, w5, w6, w7⟩ := id p
  have inner : ∀ (K : Nat → Int32 → Int32 → Int32 → MH → Prop) (x k : Nat), x < 2 ^ nvK v → K b (nI w) (nI (comR v w x)) (nI (k + 1)) h → ∀ n l, l + n = nvL v → wX4_comeTo_19 Q K (n + 1) b (nI w) (nI (comL v w x l)) (nI k) (nI l) h := by
    intro K x k hx2 hK n
    induction n with
    | zero =>
      intro l hn
      have hn : l = nvL v := by omega
      subst hn
      unfold wX4_comeTo_19
      rw [q5, nI_add]
      exact ⟨q1, fun _ => hK, fun z => absurd (nI_le (Nat.le_refl _) (by omega)) z⟩
    | succ n ih =>
      intro l hn
      have g := ih (l + 1) (by omega)
      have h5 := p.1.2.1 l (by omega)
      have lx := ltK_256 p.1 (comL_lt p.1 (w := w) hx2 l (by omega))
      have le := enS_lt (f := nvF v) (g := nvT v) (l := l) (by omega) (by omega)
      have p1 := pow_le8 (show nvF v l < 8 by omega)
      have p2 := pow_le8 (show nvT v l < 8 by omega)
      have e1 : comL v w x (l + 1) = if bt w l = 0 ∧ comL v w x l &&& enS (nvF v) (nvT v) l ≠ 0 then comL v w x l ||| enS (nvF v) (nvT v) l else comL v w x l := rfl
      have la : comL v w x l &&& enS (nvF v) (nvT v) l ≤ comL v w x l := Nat.and_le_left
      have bl := bt_lt w l
      unfold wX4_comeTo_19
      rw [q5, nI_add l 1, nI_clamp (by omega), nI_bit hw (by omega), nI_eq0 (by omega)]
      refine ⟨q1, fun z => absurd z (nI_ge (by omega) (by omega)), fun _ => ⟨pp 4, (w1 4 (by omega) (by omega) (by omega)).1, 10, w2.1, vp_in_nI (by omega) (by omega), pp 5, (w1 5 (by omega) (by omega) (by omega)).1, 10, w2.2.1, vp_in_nI (by omega) (by omega), fun y ey => ?_⟩⟩
      rw [(w3 l (by omega)).1, (w3 l (by omega)).2.1, nI_shl _ (by omega), nI_shl _ (by omega), nI_or (by omega) (by omega)] at ey
      have ey2 : y = nI (enS (nvF v) (nvT v) l) := ey
      subst ey2
      rw [nI_and (by omega) (by omega), nI_eq0 (by omega), nI_or (by omega) (by omega)]
      rw [e1] at g
      refine ⟨fun z => ?_, fun z => ⟨fun z2 => ?_, fun z2 => ?_⟩⟩
      · rw [if_neg (fun q => z q.1)] at g; exact g
      · rw [if_neg (fun q => q.2 z2)] at g; exact g
      · rw [if_pos ⟨z, z2⟩] at g; exact g
  have lp : ∀ n k, k + n = nvK v → wX4_comeTo_7 Q (n + 1) b (nI w) (nI (comN v w (2 ^ a) k)) (nI k) h := by
    intro n
    induction n with
    | zero =>
      intro k hn
      have hn : k = nvK v := by omega
      subst hn
      unfold wX4_comeTo_7
      rw [q3]
      exact ⟨q1, fun _ => hq, fun z => absurd (nI_le (Nat.le_refl _) (by omega)) z⟩
    | succ n ih =>
      intro k hn
      unfold wX4_comeTo_7
      rw [q3]
      exact ⟨q1, fun z => absurd z (nI_ge (by omega) (by omega)), fun _ => ⟨_, inner _ (comN v w (2 ^ a) k) k (comN_lt p.1 hx k) (ih (k + 1) (by omega)) (nvL v) 0 (by omega)⟩⟩
  unfold wX4_comeTo
  rw [nI_shl a (by omega)]
  exact ⟨_, lp (nvK v) 0 (by omega)⟩
theorem m_comesTo {Q : Int32 → MH → Prop} {h : MH} {v : NV} {a w : Nat} (hl : LX h) (hv : NvOK v) (pn : MNet (hI h 224) v) (ha : a < nvK v) (hw : w < 2 ^ 31) (hq : Q (nI (comN v w (2 ^ a) (nvK v))) h) : wX10_comesTo 223 (nI a) (nI w) h Q := by
  have h4 := hv.1
  have hx : 2 ^ a < 2 ^ nvK v := pow_ltK ha
  have inner : ∀ (K : Nat → Int32 → Int32 → Int32 → MH → Prop) (x k : Nat), x < 2 ^ nvK v → K 223 (nI w) (nI (comR v w x)) (nI (k + 1)) h → ∀ n l, l + n = nvL v → wX10_comesTo_17 Q K (n + 1) 223 (nI w) (nI (comL v w x l)) (nI k) (nI l) h := by
    intro K x k hx2 hK n
    induction n with
    | zero =>
      intro l hn
      have hn : l = nvL v := by omega
      subst hn
      unfold wX10_comesTo_17
      rw [show (nI 2).toNatClampNeg = 2 from by decide]
      refine ⟨S_223 hl, 224, R_223_1 hl, 7011, S_224 hl, vp_in_nI (by omega) (by omega), ?_⟩
      rw [pn.2.2.1, nI_add]
      exact ⟨fun _ => hK, fun z => absurd (nI_le (Nat.le_refl _) (by omega)) z⟩
    | succ n ih =>
      intro l hn
      have g := ih (l + 1) (by omega)
      have h5 := hv.2.1 l (by omega)
      have m5 := pn.2.2.2.1 l (by omega)
      have lx := ltK_256 hv (comL_lt hv (w := w) hx2 l (by omega))
      have le := enS_lt (f := nvF v) (g := nvT v) (l := l) (by omega) (by omega)
      have e1 : comL v w x (l + 1) = if bt w l = 0 ∧ comL v w x l &&& enS (nvF v) (nvT v) l ≠ 0 then comL v w x l ||| enS (nvF v) (nvT v) l else comL v w x l := rfl
      have la : comL v w x l &&& enS (nvF v) (nvT v) l ≤ comL v w x l := Nat.and_le_left
      have bl := bt_lt w l
      unfold wX10_comesTo_17
      rw [show (nI 2).toNatClampNeg = 2 from by decide]
      refine ⟨S_223 hl, 224, R_223_1 hl, 7011, S_224 hl, vp_in_nI (by omega) (by omega), ?_⟩
      rw [pn.2.2.1, nI_add l 1]
      rw [e1] at g
      refine ⟨fun z => absurd z (nI_ge (by omega) (by omega)), fun _ => u_isIn hw (by omega) ?_⟩
      rw [nI_eq0 (by omega)]
      refine ⟨fun z => ?_, fun z => ⟨S_223 hl, u_endsOfN hl (by omega) m5.1 m5.2.1 (by omega) (by omega) ?_⟩⟩
      · rw [if_neg (fun q => z q.1)] at g; exact g
      · rw [nI_and (by omega) (by omega), nI_eq0 (by omega)]
        refine ⟨fun z2 => ?_, fun z2 => ⟨S_223 hl, u_endsOfN hl (by omega) m5.1 m5.2.1 (by omega) (by omega) ?_⟩⟩
        · rw [if_neg (fun q => q.2 z2)] at g; exact g
        · rw [nI_or (by omega) (by omega)]
          rw [if_pos ⟨z, z2⟩] at g; exact g
  have lp : ∀ n k, k + n = 8 → wX10_comesTo_7 Q (n + 1) 223 (nI w) (nI (comN v w (2 ^ a) k)) (nI k) h := by
    intro n
    induction n with
    | zero =>
      intro k hn
      have hn : k = 8 := by omega
      subst hn
      unfold wX10_comesTo_7
      rw [com_8 hv ha]
      exact ⟨fun _ => hq, fun z => absurd (nI_le (Nat.le_refl _) (by omega)) z⟩
    | succ n ih =>
      intro k hn
      unfold wX10_comesTo_7
      exact ⟨fun z => absurd z (nI_ge (by omega) (by omega)), fun _ => ⟨_, inner _ (comN v w (2 ^ a) k) k (comN_lt hv hx k) (ih (k + 1) (by omega)) (nvL v) 0 (by omega)⟩⟩
  unfold wX10_comesTo
  rw [nI_shl a (by omega)]
  exact ⟨9, lp 8 0 (by omega)⟩
def brB (v : NV) : Nat → Nat
  | 0 => 0
  | l + 1 => if bt (comN v (2 ^ l) (2 ^ nvF v l) (nvK v)) (nvT v l) = 0 then brB v l ||| 2 ^ l else brB v l
theorem brB_lt (v : NV) : ∀ l, brB v l < 2 ^ l
  | 0 => Nat.one_pos
  | l + 1 => by
    have h1 := brB_lt v l
    have h2 : (2 : Nat) ^ (l + 1) = 2 ^ l + 2 ^ l := by rw [Nat.pow_succ]; omega
    unfold brB
    by_cases q : bt (comN v (2 ^ l) (2 ^ nvF v l) (nvK v)) (nvT v l) = 0
    · rw [if_pos q]; exact Nat.or_lt_two_pow (by omega) (by omega)
    · rw [if_neg q]; omega
theorem and_pow0 {x k : Nat} : (x &&& 2 ^ k = 0) ↔ bt x k = 0 := by
  constructor
  · intro e
    rcases bt01 x k with z | z
    · exact z
    · exfalso
      have : (x &&& 2 ^ k).testBit k = true := by rw [Nat.testBit_and, (bt_tb _ _).mp z, Nat.testBit_two_pow_self]; rfl
      rw [e, Nat.zero_testBit] at this
      exact absurd this (by decide)
  · intro e
    apply Nat.eq_of_testBit_eq
    intro i
    rw [Nat.zero_testBit, Nat.testBit_and]
    by_cases q : i = k
    · rw [q]
      cases z : x.testBit k
      · rfl
      · have := (bt_tb _ _).mpr z
        omega
    · rw [Nat.testBit_two_pow_of_ne (fun y => q y.symm), Bool.and_false]
theorem ST_bridges_c {CV : MH → Prop} (ck : ∀ h h1, CvEq h h1 → CV h → CV h1) : ST_bridges (RLY (RRc CV)) := by
  intro h hr P kP
  obtain ⟨hl, t1, t2, d, ok, c, m⟩ := hr
  have cl := rd_close (x := nI 0) ck hl t1 t2 ok c m
  obtain ⟨⟨a, ca, cn⟩, cs, _⟩ := id c
  have h4 := cn.1.1
  have m2 := MP_thrown (x := nI 0) m
  have hl2 : LX (sI h 223 0 (nI 0)) := LX_sI hl
  obtain ⟨w, w1, w2, w3, w4, w5, w6, w7⟩ := id cn.2.2.2.2.2.2.2
  have com_lt : ∀ l, l < nvL (dN d) → comN (dN d) (2 ^ l) (2 ^ nvF (dN d) l) (nvK (dN d)) < 256 := fun l hl => ltK_256 cn.1 (comN_lt cn.1 (pow_ltK (cn.1.2.1 l hl).1) _)
  have mdl : ∀ P2 : Int32 → MH → Prop, P2 (nI (brB (dN d) (nvL (dN d)))) (sI h 223 0 (nI 0)) → ∀ n l, l + n = nvL (dN d) → wX10_bridges_9 P2 (n + 1) 223 (nI (brB (dN d) l)) (nI l) (sI h 223 0 (nI 0)) := by
    intro P2 k2 n
    induction n with
    | zero =>
      intro l hn
      have hn : l = nvL (dN d) := by omega
      subst hn
      unfold wX10_bridges_9
      rw [show (nI 2).toNatClampNeg = 2 from by decide]
      refine ⟨S_223 hl2, 224, R_223_1 hl2, 7011, S_224 hl2, vp_in_nI (by omega) (by omega), ?_⟩
      rw [m2.2.1.2.2.1]
      exact ⟨fun _ => k2, fun z => absurd (nI_le (Nat.le_refl _) (by omega)) z⟩
    | succ n ih =>
      intro l hn
      have g := ih (l + 1) (by omega)
      have h5 := cn.1.2.1 l (by omega)
      have m5 := m2.2.1.2.2.2.1 l (by omega)
      have bl := lt_of_pow (brB_lt (dN d) l) (by omega)
      have pl := pow_le10 (show l < 10 by omega)
      have cl8 := com_lt l (by omega)
      have bb := bt_lt (comN (dN d) (2 ^ l) (2 ^ nvF (dN d) l) (nvK (dN d))) (nvT (dN d) l)
      have e1 : brB (dN d) (l + 1) = if bt (comN (dN d) (2 ^ l) (2 ^ nvF (dN d) l) (nvK (dN d))) (nvT (dN d) l) = 0 then brB (dN d) l ||| 2 ^ l else brB (dN d) l := rfl
      unfold wX10_bridges_9
      rw [show (nI 2).toNatClampNeg = 2 from by decide]
      refine ⟨S_223 hl2, 224, R_223_1 hl2, 7011, S_224 hl2, vp_in_nI (by omega) (by omega), ?_⟩
      rw [m2.2.1.2.2.1, nI_add, nI_shl l (by omega)]
      refine ⟨fun z => absurd z (nI_ge (by omega) (by omega)), fun _ => u_endOf (k := 0) hl2 (by omega) (by omega) ⟨S_223 hl2, ?_⟩⟩
      rw [Nat.add_zero, m5.1]
      refine m_comesTo hl2 cn.1 m2.2.1 h5.1 (by omega) ⟨S_223 hl2, u_endOf (k := 1) hl2 (by omega) (by omega) ?_⟩
      rw [m5.2.1]
      refine u_isIn (by omega) (by omega) (fun x ex => ?_)
      rw [e1] at g
      by_cases q : bt (comN (dN d) (2 ^ l) (2 ^ nvF (dN d) l) (nvK (dN d))) (nvT (dN d) l) = 0
      · rw [if_pos ((nI_eq0 (by omega)).mpr q), nI_or (by omega) (by omega)] at ex
        subst ex
        rw [if_pos q] at g
        exact g
      · rw [if_neg (fun y => q ((nI_eq0 (by omega)).mp y)), nI_or (by omega) (by omega), Nat.or_zero] at ex
        subst ex
        rw [if_neg q] at g
        exact g
  have cls : P (nI (brB (dN d) (nvL (dN d)))) h → ∀ n l, l + n = nvL (dN d) → wX9_bridges_4 P (n + 1) 128 (nI (brB (dN d) l)) (nI l) h := by
    intro kq n
    induction n with
    | zero =>
      intro l hn
      have hn : l = nvL (dN d) := by omega
      subst hn
      unfold wX9_bridges_4
      refine ⟨S_128 hl, a, ca, cn.2.1, ?_⟩
      rw [cn.2.2.2.2.2.1]
      exact ⟨fun _ => kq, fun z => absurd (nI_le (Nat.le_refl _) (by omega)) z⟩
    | succ n ih =>
      intro l hn
      have g := ih (l + 1) (by omega)
      have h5 := cn.1.2.1 l (by omega)
      have bl := lt_of_pow (brB_lt (dN d) l) (by omega)
      have pl := pow_le10 (show l < 10 by omega)
      have cl8 := com_lt l (by omega)
      have pt := pow_le8 (show nvT (dN d) l < 8 by omega)
      have la : comN (dN d) (2 ^ l) (2 ^ nvF (dN d) l) (nvK (dN d)) &&& 2 ^ nvT (dN d) l ≤ comN (dN d) (2 ^ l) (2 ^ nvF (dN d) l) (nvK (dN d)) := Nat.and_le_left
      have e1 : brB (dN d) (l + 1) = if bt (comN (dN d) (2 ^ l) (2 ^ nvF (dN d) l) (nvK (dN d))) (nvT (dN d) l) = 0 then brB (dN d) l ||| 2 ^ l else brB (dN d) l := rfl
      unfold wX9_bridges_4
      refine ⟨S_128 hl, a, ca, cn.2.1, ?_⟩
      rw [cn.2.2.2.2.2.1, nI_add, nI_shl l (by omega), nI_clamp (by omega)]
      refine ⟨fun z => absurd z (nI_ge (by omega) (by omega)), fun _ => ⟨w 4, (w1 4 (by omega) (by omega) (by omega)).1, 10, w2.1, vp_in_nI (by omega) (by omega), ?_⟩⟩
      rw [(w3 l (by omega)).1]
      refine n_comeTo cn h5.1 (by omega) ⟨S_128 hl, a, ca, cn.2.1, w 5, (w1 5 (by omega) (by omega) (by omega)).1, 10, w2.2.1, vp_in_nI (by omega) (by omega), ?_⟩
      rw [(w3 l (by omega)).2.1, nI_shl _ (by omega), nI_and (by omega) (by omega), nI_eq0 (by omega), and_pow0, nI_or (by omega) (by omega)]
      rw [e1] at g
      refine ⟨fun z => ?_, fun z => ?_⟩
      · rw [if_neg z] at g; exact g
      · rw [if_pos z] at g; exact g
  refine ⟨_, cls (kP _ _ (S_223 hl) (fun P2 k2 => ⟨S_223 hl, fun _ e => ?_⟩)) (nvL (dN d)) 0 (by omega)⟩
  subst e
  exact ⟨_, mdl P2 (k2 _ cl) (nvL (dN d)) 0 (by omega)⟩
