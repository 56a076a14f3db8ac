/-! Part aq: the class reads a link, a law, a line, all lines. -/
def TnA (v : TN) : Prop := 1 ≤ tnK v ∧ tnK v ≤ 8 ∧ tnL v ≤ 10 ∧ ∀ l, l < tnL v → tnF v l < tnK v ∧ tnT v l < tnK v
def jwN (f g : Nat → Nat) (x : Nat) : Nat → Nat
  | 0 => 0
  | l + 1 => (jwN f g x l ||| (if f l = x then 2 ^ g l else 0)) ||| (if g l = x then 2 ^ f l else 0)
theorem bt_zz (k : Nat) : bt 0 k = 0 := by unfold bt; rw [Nat.zero_div]
theorem p8_lt {x : Nat} (h : x < 8) : 2 ^ x < 2 ^ 8 := Nat.pow_lt_pow_right (by omega) h
theorem jwN_lt {f g : Nat → Nat} {x : Nat} : ∀ l, (∀ i, i < l → f i < 8 ∧ g i < 8) → jwN f g x l < 2 ^ 8
  | 0, _ => by show 0 < 2 ^ 8; decide
  | l + 1, h => by
    have i := jwN_lt (x := x) l (fun i hi => h i (by omega))
    have b := h l (by omega)
    refine Nat.or_lt_two_pow (Nat.or_lt_two_pow i ?_) ?_
    · by_cases q : f l = x
      · rw [if_pos q]; exact p8_lt b.2
      · rw [if_neg q]; decide
    · by_cases q : g l = x
      · rw [if_pos q]; exact p8_lt b.1
      · rw [if_neg q]; decide
theorem bt_jw {f g : Nat → Nat} {x y : Nat} : ∀ l, bt (jwN f g x l) y = if jnF f g x y l = true then 1 else 0
  | 0 => by show bt 0 y = _; rw [bt_zz]; rfl
  | l + 1 => by
    show bt ((jwN f g x l ||| _) ||| _) y = if (jnF f g x y l || decide ((f l = x ∧ g l = y) ∨ (f l = y ∧ g l = x))) = true then 1 else 0
    have e1 : bt (if f l = x then 2 ^ g l else 0) y = if f l = x ∧ g l = y then 1 else 0 := by
      by_cases q : f l = x
      · rw [if_pos q, bt_pow]
        by_cases z : y = g l
        · rw [if_pos z, if_pos ⟨q, z.symm⟩]
        · rw [if_neg z, if_neg (fun w => z w.2.symm)]
      · rw [if_neg q, bt_zz, if_neg (fun w => q w.1)]
    have e2 : bt (if g l = x then 2 ^ f l else 0) y = if f l = y ∧ g l = x then 1 else 0 := by
      by_cases q : g l = x
      · rw [if_pos q, bt_pow]
        by_cases z : y = f l
        · rw [if_pos z, if_pos ⟨z.symm, q⟩]
        · rw [if_neg z, if_neg (fun w => z w.1.symm)]
      · rw [if_neg q, bt_zz, if_neg (fun w => q w.2)]
    rw [bt_orN, bt_orN, e1, e2, bt_jw l]
    by_cases a1 : jnF f g x y l = true <;> by_cases a2 : f l = x ∧ g l = y <;> by_cases a3 : f l = y ∧ g l = x <;> simp [a1, a2, a3]
theorem bad_bt {v : TN} {x y : Nat} (hv : TnA v) (hx : x < 8) (hy : y < 8) : ((((nI 1 <<< (nI x &&& 31)) ||| nI (jwN (tnF v) (tnT v) x (tnL v))) >>> (nI y &&& 31)) &&& nI 1) = 0 ↔ bdJ v x y = false := by
  have j := jwN_lt (f := tnF v) (g := tnT v) (x := x) (tnL v) (fun i hi => by have := hv.2.2.2 i hi; have := hv.2.1; omega)
  have px := p8_lt hx
  have jo : 2 ^ x ||| jwN (tnF v) (tnT v) x (tnL v) < 2 ^ 8 := Nat.or_lt_two_pow px j
  rw [nI_shl x (by omega), nI_or (by omega) (by omega), nI_bit (by omega) (by omega)]
  have b2 : bt (2 ^ x ||| jwN (tnF v) (tnT v) x (tnL v)) y = if bdJ v x y = true then 1 else 0 := by
    rw [bt_orN, bt_pow, bt_jw]
    unfold bdJ
    by_cases a1 : y = x <;> by_cases a2 : jnF (tnF v) (tnT v) x y (tnL v) = true <;> simp [a1, a2]
  rw [b2]
  cases bdJ v x y
  · exact ⟨fun _ => rfl, fun _ => nI_0⟩
  · exact ⟨fun z => absurd z (by decide), fun z => absurd z (by decide)⟩
section CTL
variable {hb g : MH} {a : Nat} {T : Nat → Nat} {n m : Nat} {t : TK} {cs : CD} {v : TN}
theorem n_joined {Q : Int32 → MH → Prop} {x : Nat} (hx : x < 8) (hv : TnA v) (p3 : NSh g a) (p4 : NI g a v) (hq : Q (nI (jwN (tnF v) (tnT v) x (tnL v))) g) : ∀ k l, l + k = tnL v → wX4_joinedWith_4 Q (k + 1) a (nI x) (nI (jwN (tnF v) (tnT v) x l)) (nI l) g := by
  intro k
  induction k with
  | zero =>
    intro l hl
    unfold wX4_joinedWith_4
    rw [p4.1.2.2.2.1]
    have : l = tnL v := by omega
    subst this
    exact ⟨p3.2.2.2.1, fun _ => hq, fun z => absurd (nI_le (Nat.le_refl _) (by have := hv.2.2.1; omega)) z⟩
  | succ k ih =>
    intro l hl
    have hL := hv.2.2.1
    have lt : l < tnL v := by omega
    have b := hv.2.2.2 l lt
    have bk := hv.2.1
    have w := p4.2 l lt
    have i := ih (l + 1) (by omega)
    have jl := jwN_lt (f := tnF v) (g := tnT v) (x := x) l (fun i hi => by have := hv.2.2.2 i (by omega); omega)
    unfold wX4_joinedWith_4
    rw [p4.1.2.2.2.1]
    refine ⟨p3.2.2.2.1, fun z => absurd z (nI_ge lt (by omega)), fun _ => ⟨a + 1, p3.2.2.2.2.1.1, 10, p3.2.2.2.2.2.1, vp_in_nI (by omega) (by omega), ?_⟩⟩
    rw [nI_clamp (by omega), w.1]
    have next : ∀ s, s < 2 ^ 8 → jwN (tnF v) (tnT v) x l ||| s = jwN (tnF v) (tnT v) x l ||| (if tnF v l = x then 2 ^ tnT v l else 0) → wX4_joinedWith_35 Q (wX4_joinedWith_4 Q (k + 1)) a (nI x) (nI l) (nI s) (nI (jwN (tnF v) (tnT v) x l)) g := fun s hs es => by
      unfold wX4_joinedWith_35
      have ol : jwN (tnF v) (tnT v) x l ||| s < 2 ^ 8 := Nat.or_lt_two_pow jl hs
      refine ⟨p3.2.2.2.1, a + 2, p3.2.2.2.2.1.2.1, 10, p3.2.2.2.2.2.2.1, vp_in_nI (by omega) (by omega), ?_⟩
      rw [nI_clamp (by omega), w.2.1, nI_or (by omega) (by omega), nI_add]
      have i2 : wX4_joinedWith_4 Q (k + 1) a (nI x) (nI ((jwN (tnF v) (tnT v) x l ||| s) ||| (if tnT v l = x then 2 ^ tnF v l else 0))) (nI (l + 1)) g := by rw [es]; exact i
      by_cases q : tnT v l = x
      · rw [if_pos q] at i2
        refine ⟨fun z => absurd (by rw [q]) z, fun _ => ⟨a + 1, p3.2.2.2.2.1.1, 10, p3.2.2.2.2.2.1, vp_in_nI (by omega) (by omega), fun v18 e18 => ?_⟩⟩
        have pl := p8_lt (show tnF v l < 8 by omega)
        rw [w.1, nI_shl _ (by omega), nI_or (by omega) (by omega)] at e18
        rw [e18]
        exact i2
      · rw [if_neg q] at i2
        refine ⟨fun _ => ?_, fun z => absurd ((nI_eq (by omega) (by omega)).mp z) q⟩
        rw [nI_or (by omega) (by omega)]
        exact i2
    by_cases q : tnF v l = x
    · refine ⟨fun z => absurd (by rw [q]) z, fun _ => ⟨a + 2, p3.2.2.2.2.1.2.1, 10, p3.2.2.2.2.2.2.1, vp_in_nI (by omega) (by omega), ?_⟩⟩
      rw [w.2.1, nI_shl _ (by omega)]
      exact next _ (p8_lt (by omega)) (by rw [if_pos q])
    · refine ⟨fun _ => next 0 (by decide) (by rw [if_neg q]), fun z => absurd ((nI_eq (by omega) (by omega)).mp z) q⟩
theorem NI_add {g2 : MH} {x y o w : Nat} (p4 : NI g a v) (hL : tnL v < 10) (e : g2 = sI (sI (sI (sI (sI g (a + 1) (tnL v) (nI x)) (a + 2) (tnL v) (nI y)) (a + 3) (tnL v) (nI o)) (a + 4) (tnL v) (nI w)) a 3 (nI (tnL v + 1))) : NI g2 a (tnAdd v x y o w) := by
  obtain ⟨q, r⟩ := p4
  have ea : ∀ k, k ≠ 3 → hI g2 a k = hI g a k := fun k hk => by rw [e, hI_sI, if_neg (by omega), hI_sI, if_neg (by omega), hI_sI, if_neg (by omega), hI_sI, if_neg (by omega), hI_sI, if_neg (by omega)]
  refine ⟨⟨by rw [ea 0 (by omega)]; exact q.1, by rw [ea 1 (by omega)]; exact q.2.1, by rw [ea 2 (by omega)]; exact q.2.2.1, by rw [e, hI_sI, if_pos ⟨rfl, rfl⟩]; rfl, by rw [ea 10 (by omega)]; exact q.2.2.2.2⟩, fun l hl => ?_⟩
  have hl : l < tnL v + 1 := hl
  have k1 : hI g2 (a + 1) l = if l = tnL v then nI x else hI g (a + 1) l := by
    rw [e, hI_sI, if_neg (by omega), hI_sI, if_neg (by omega), hI_sI, if_neg (by omega), hI_sI, if_neg (by omega), hI_sI]
    by_cases z : l = tnL v
    · rw [if_pos ⟨rfl, z⟩, if_pos z]
    · rw [if_neg (fun y => z y.2), if_neg z]
  have k2 : hI g2 (a + 2) l = if l = tnL v then nI y else hI g (a + 2) l := by
    rw [e, hI_sI, if_neg (by omega), hI_sI, if_neg (by omega), hI_sI, if_neg (by omega), hI_sI]
    by_cases z : l = tnL v
    · rw [if_pos ⟨rfl, z⟩, if_pos z]
    · rw [if_neg (fun y => z y.2), if_neg z, hI_sI, if_neg (by omega)]
  have k3 : hI g2 (a + 3) l = if l = tnL v then nI o else hI g (a + 3) l := by
    rw [e, hI_sI, if_neg (by omega), hI_sI, if_neg (by omega), hI_sI]
    by_cases z : l = tnL v
    · rw [if_pos ⟨rfl, z⟩, if_pos z]
    · rw [if_neg (fun y => z y.2), if_neg z, hI_sI, if_neg (by omega), hI_sI, if_neg (by omega)]
  have k4 : hI g2 (a + 4) l = if l = tnL v then nI w else hI g (a + 4) l := by
    rw [e, hI_sI, if_neg (by omega), hI_sI]
    by_cases z : l = tnL v
    · rw [if_pos ⟨rfl, z⟩, if_pos z]
    · rw [if_neg (fun y => z y.2), if_neg z, hI_sI, if_neg (by omega), hI_sI, if_neg (by omega), hI_sI, if_neg (by omega)]
  rw [k1, k2, k3, k4]
  show _ = nI (if l = tnL v then x else tnF v l) ∧ _ = nI (if l = tnL v then y else tnT v l) ∧ _ = nI (if l = tnL v then o else tnO v l) ∧ _ = nI (if l = tnL v then w else tnW v l)
  by_cases z : l = tnL v
  · rw [if_pos z, if_pos z, if_pos z, if_pos z, if_pos z, if_pos z, if_pos z, if_pos z]
    exact ⟨rfl, rfl, rfl, rfl⟩
  · rw [if_neg z, if_neg z, if_neg z, if_neg z, if_neg z, if_neg z, if_neg z, if_neg z]
    exact r l (by omega)
/-- a state moved by writes to the net alone -/
theorem CT_net {g2 : MH} {v2 : TN} (p : CT hb g a T n m t cs v) (hl : LX g2) (f : Fr (fun b => a ≤ b ∧ b ≤ a + 4) g g2) (ni : NI g2 a v2) (eb : v2.2.2 = v.2.2) : CT hb g2 a T n m t cs v2 := by
  obtain ⟨⟨p1, p2, p3, p4⟩, p5⟩ := p
  have la := p3.2.1
  have i9 : ∀ b, b < 244 → hI g2 b = hI g b := fun b hb => f.2.2.2.2 b (by omega)
  refine ⟨⟨⟨p1.1, RdT_P p1.2.1 (i9 129 (by omega)) (i9 130 (by omega)) hl, FrP_rfl _, by rw [i9 129 (by omega)]; exact p1.2.2.2.1, ?_⟩, ⟨Fr_trans p2.1 (Fr_mono (fun b hb => by omega) f), by rw [i9 129 (by omega)]; exact p2.2⟩, ?_, ni⟩, ?_⟩
  · unfold CdC
    rw [i9 131 (by omega), i9 132 (by omega)]
    exact p1.2.2.2.2
  · unfold NSh
    rw [f.1, f.2.1, f.2.2.2.1]
    exact p3
  · unfold LwC tnB tnE
    rw [i9 131 (by omega), eb]
    exact p5
theorem CT_link {Q : Int32 → MH → Prop} (p : CT hb g a T n m t cs v) (hv : TnA v) (hc : cs.1 ≤ 900) (hk : tkK t ≠ 25) (k1 : ∀ t2 cs2 v2 g2, linkL T n t cs v = .inr (t2, cs2, v2) → CT hb g2 a T n m t2 cs2 v2 → Q (nI 1) g2) (k0 : ∀ e g2, linkL T n t cs v = .inl e → CF hb g2 a e → Q (nI 0) g2) : wX5_readLink 129 g Q := by
  have hL := hv.2.2.1
  have m1 : (-1 : Int32) < 0 := by decide
  have m2 : ¬ (0 : Int32) ≤ -1 := by decide
  have nn : ∀ x, x < 1000 → (0 : Int32) ≤ nI x := fun x hx => Int32.not_lt.mp (nI_nn (by omega))
  have eN : ∀ {g : MH}, NI g a v → hI g a 0 - nI 1 = nI (tnK v - 1) := fun q => by rw [q.1.1, nI_subN hv.1]
  have hK := hv.2.1
  unfold linkL at k1 k0
  refine ⟨S_129 (CT_LX p), a, p.1.2.2.1.1, p.1.2.2.1.2.2.2.1, fun z => ?_, fun z => ?_⟩
  · rw [p.1.2.2.2.1.2.2.2.1] at z
    have lt : tnL v < 10 := Nat.lt_of_not_le (fun y => absurd z (Int32.not_lt.mpr (nI_le y (by omega))))
    rw [if_neg (by omega)] at k1 k0
    refine CT_adv p hk (fun g p => ⟨S_129 (CT_LX p), a, p.1.2.2.1.1, p.1.2.2.1.2.2.2.1, ?_⟩)
    rw [eN p.1.2.2.2]
    refine CT_num p hc (by omega) (by omega) (fun w _ => no_bad w) (fun x1 x2 x3 e g p => ⟨fun _ => ?_, fun z => absurd (nn _ (by omega)) z⟩) (fun e0 e g f => ⟨fun z => absurd z m2, fun _ => k0 _ g (e _) f⟩)
    rw [e] at k1 k0
    refine ⟨S_129 (CT_LX p), a, p.1.2.2.1.1, p.1.2.2.1.2.2.2.1, tnL v + 1, n_joined (by omega) hv p.1.2.2.1 p.1.2.2.2 ⟨S_129 (CT_LX p), ?_⟩ (tnL v) 0 (by omega)⟩
    rw [eN p.1.2.2.2]
    refine CT_num p hc (by omega) (by omega) (fun w hw => bad_bt hv (by omega) (by omega)) (fun y1 y2 y3 e g p => ⟨fun z => absurd z (nI_nn (by omega)), fun _ => ?_⟩) (fun e0 e g f => ⟨fun _ => k0 _ g (e _) f, fun z => absurd m1 z⟩)
    rw [e] at k1 k0
    refine ⟨S_129 (CT_LX p), CT_pass (k := 4) p hc (by omega) (by omega) rfl (by omega) (fun _ e g p => ⟨fun _ => ?_, fun z => absurd z (by decide)⟩) (fun e g f => ⟨fun z => absurd nI_0 z, fun _ => k0 _ g (e _) f⟩)⟩
    rw [e] at k1 k0
    refine ⟨S_129 (CT_LX p), CT_num p hc (by omega) (by omega) (fun w _ => no_bad w) (fun z1 z2 z3 e g p => ⟨fun z => absurd z (nI_nn (by omega)), fun _ => ?_⟩) (fun e0 e g f => ⟨fun _ => k0 _ g (e _) f, fun z => absurd m1 z⟩)⟩
    rw [e] at k1 k0
    refine ⟨S_129 (CT_LX p), CT_pass (k := 5) p hc (by omega) (by omega) rfl (by omega) (fun _ e g p => ⟨fun _ => ?_, fun z => absurd z (by decide)⟩) (fun e g f => ⟨fun z => absurd nI_0 z, fun _ => k0 _ g (e _) f⟩)⟩
    rw [e] at k1 k0
    refine ⟨S_129 (CT_LX p), CT_num p hc (by omega) (by omega) (fun w _ => no_bad w) (fun u1 u2 u3 e g p => ⟨fun _ => ?_, fun z => absurd (nn _ (by omega)) z⟩) (fun e0 e g f => ⟨fun z => absurd z m2, fun _ => k0 _ g (e _) f⟩)⟩
    rw [e] at k1
    have n3 := p.1.2.2.1
    have n4 := p.1.2.2.2
    have i3 : ∀ {h : MH} {x y : Nat} {z : Int32} {b : Nat}, b = a + 1 ∨ b = a + 2 ∨ b = a + 3 ∨ b = a + 4 → hI (sI h b y z) a 3 = hI h a 3 := fun {h x y z b} hb => by rw [hI_sI, if_neg (by omega)]
    refine ⟨S_129 (CT_LX p), a, n3.1, n3.2.2.2.1, n3.2.2.2.1, fun z => ?_, fun _ => ⟨a + 1, n3.2.2.2.2.1.1, 10, n3.2.2.2.2.2.1, by rw [n4.1.2.2.2.1]; exact vp_in_nI (by omega) (by omega), fun h7 e7 => ⟨a + 2, by rw [e7]; exact n3.2.2.2.2.1.2.1, 10, by rw [e7]; exact n3.2.2.2.2.2.2.1, ?_⟩⟩⟩
    · rw [n4.1.2.2.2.1] at z
      exact absurd z (nI_ge lt (by omega))
    rw [n4.1.2.2.2.1, nI_clamp (by omega)] at e7
    have a7 : hI h7 a 3 = nI (tnL v) := by rw [e7, hI_sI, if_neg (by omega)]; exact n4.1.2.2.2.1
    rw [a7, nI_clamp (by omega)]
    refine ⟨vp_in_nI (by omega) (by omega), fun h13 e13 => ⟨a + 3, by rw [e13, e7]; exact n3.2.2.2.2.1.2.2.1, 10, by rw [e13, e7]; exact n3.2.2.2.2.2.2.2.1, ?_⟩⟩
    have a13 : hI h13 a 3 = nI (tnL v) := by rw [e13, hI_sI, if_neg (by omega)]; exact a7
    rw [a13, nI_clamp (by omega)]
    refine ⟨vp_in_nI (by omega) (by omega), fun h19 e19 => ⟨a + 4, by rw [e19, e13, e7]; exact n3.2.2.2.2.1.2.2.2.1, 10, by rw [e19, e13, e7]; exact n3.2.2.2.2.2.2.2.2.1, ?_⟩⟩
    have a19 : hI h19 a 3 = nI (tnL v) := by rw [e19, hI_sI, if_neg (by omega)]; exact a13
    rw [a19, nI_clamp (by omega)]
    refine ⟨vp_in_nI (by omega) (by omega), fun h25 e25 h26 e26 => ?_⟩
    have a25 : hI h25 a 3 = nI (tnL v) := by rw [e25, hI_sI, if_neg (by omega)]; exact a19
    rw [a25, nI_add, e25, e19, e13, e7] at e26
    refine k1 _ _ _ h26 rfl (CT_net p ?_ ?_ (NI_add n4 lt e26) rfl)
    · rw [e26]; exact LX_sI (LX_sI (LX_sI (LX_sI (LX_sI (CT_LX p)))))
    · rw [e26]
      exact Fr_trans (Fr_trans (Fr_trans (Fr_trans (Fr_sI ⟨by omega, by omega⟩) (Fr_sI ⟨by omega, by omega⟩)) (Fr_sI ⟨by omega, by omega⟩)) (Fr_sI ⟨by omega, by omega⟩)) (Fr_sI ⟨by omega, by omega⟩)
  · rw [p.1.2.2.2.1.2.2.2.1] at z
    have e10 : tnL v = 10 := by
      have : ¬ tnL v < 10 := fun y => z (nI_lt y (by omega))
      omega
    rw [if_pos e10] at k0
    exact PC_ref p.1.1 (by omega) hc (fun g2 f2 => ⟨Or.inl nI_0, k0 _ g2 rfl (CT_F p.1 f2)⟩)
end CTL
