/-! Part a4: the least price: hash, tags, the lowest bit. -/
theorem slot_ex (x : Int32) : ∃ k, k < 2048 ∧ (x.toUInt32 >>> ((nI 21).toUInt32 &&& Int32.toUInt32 31)).toInt32 = nI k := by
  have e : ((nI 21).toUInt32 &&& Int32.toUInt32 31) = UInt32.ofNat 21 := by decide
  rw [e]
  have h1 : x.toUInt32.toNat < 2 ^ 32 := x.toUInt32.toNat_lt
  refine ⟨x.toUInt32.toNat / 2 ^ 21, by omega, ?_⟩
  apply Int32.toBitVec_inj.mp
  apply BitVec.eq_of_toNat_eq
  rw [nI_bv, BitVec.toNat_ofNat]
  show (x.toUInt32 >>> UInt32.ofNat 21).toNat = _
  rw [UInt32.toNat_shiftRight, show (UInt32.ofNat 21).toNat % 32 = 21 from by decide, Nat.shiftRight_eq_div_pow]
  omega
def lowAll : Nat → Bool
  | 0 => true
  | n + 1 => lowAll n && decide (n = 0 ∨ nI n &&& (-(nI n)) = nI (2 ^ fsB (bt n) 10))
theorem lowAll_ok : ∀ n, lowAll n = true → ∀ s, s < n → s ≠ 0 → nI s &&& (-(nI s)) = nI (2 ^ fsB (bt s) 10)
  | 0, _, s, hs, _ => absurd hs (Nat.not_lt_zero _)
  | n + 1, h, s, hs, h0 => by
    unfold lowAll at h
    rw [Bool.and_eq_true] at h
    by_cases q : s = n
    · have := of_decide_eq_true h.2
      rw [q] at h0 ⊢
      rcases this with z | z
      · exact absurd z h0
      · exact z
    · exact lowAll_ok n h.1 s (by omega) h0
theorem low_bit : ∀ s, s < 1024 → s ≠ 0 → nI s &&& (-(nI s)) = nI (2 ^ fsB (bt s) 10) := lowAll_ok 1024 (by decide +kernel)
theorem fsB_uniq {g : Nat → Nat} {n l : Nat} (hl : l < n) (h : g l ≠ 0) (h0 : ∀ k, k < l → g k = 0) : fsB g n = l := by
  obtain ⟨i1, i2, i3⟩ := fsB_spec g n
  have q := fsB_lt hl h
  by_cases a : fsB g n < l
  · exact absurd (h0 _ a) (i3 q)
  · by_cases b : l < fsB g n
    · exact absurd (i2 _ b) h
    · omega
theorem low_ned {v : NV} {f : Nat → Nat} (hv : NvOK v) (h : ¬ nedB f 1 (nvL v) = 0) : nI (nedB f 1 (nvL v)) &&& (-(nI (nedB f 1 (nvL v)))) = nI (2 ^ fsB f (nvL v)) := by
  have h4 := hv.1
  have g1 := lt_of_pow (nedB_lt f 1 (nvL v)) (by omega)
  have z := ned_fs h
  rw [low_bit _ g1 h, fsB_uniq (l := fsB f (nvL v)) (by omega) (by rw [nedB_bt, if_pos ⟨z.1, by omega⟩]; omega) (fun k hk => by rw [nedB_bt, if_neg (fun y => by have := (fsB_spec f (nvL v)).2.1 k hk; omega)])]
theorem has_link {v : NV} {c l : Nat} (hv : NvOK v) (hc : c < nvC v) (hl : l < nvL v) : ((nI (nvOn v c) ||| nI (nvCh v c)) &&& nI (2 ^ l) = 0) ↔ usN v c l = 0 := by
  have h4 := hv.1
  have h3 := hv.2.2.1 c hc
  have o1 := lt_of_pow h3.2.1 (by omega)
  have o2 := lt_of_pow h3.2.2.2 (by omega)
  have oo : nvOn v c ||| nvCh v c < 1024 := Nat.or_lt_two_pow (n := 10) o1 o2
  have b2 : (2 : Nat) ^ l < 2 ^ 10 := Nat.pow_lt_pow_right (by omega) (by omega)
  have b3 : (nvOn v c ||| nvCh v c) &&& 2 ^ l ≤ nvOn v c ||| nvCh v c := Nat.and_le_left
  rw [nI_or (by omega) (by omega), nI_and (by omega) (by omega), nI_eq0 (by omega), and_pow0, bt_orN]
  unfold usN
  rcases bt01 (nvOn v c) l with a | a <;> rcases bt01 (nvCh v c) l with b | b <;> rw [a, b] <;> simp
theorem nI_shl10 : ∀ a, a < 1024 → nI a <<< (nI 10 &&& 31) = nI (a * 1024) := by decide +kernel
theorem or_add {a b k : Nat} (hb : b < 2 ^ k) : a * 2 ^ k ||| b = a * 2 ^ k + b := by
  have h := Nat.shiftLeft_add_eq_or_of_lt hb a
  rw [Nat.shiftLeft_eq] at h
  exact h.symm
theorem need_nI {a b m : Nat} (ha : a < 1024) (hb : b < 1024) : ((nI a <<< (nI 10 &&& 31)) ||| nI b) * nI 2 + nI m = nI ((a * 1024 + b) * 2 + m) := by
  rw [nI_shl10 a ha, nI_or (by omega) (by omega), show a * 1024 ||| b = a * 1024 + b from or_add (k := 10) hb, nI_mul, nI_add]
theorem lN_shlor {a b k : Nat} (hk : k < 32) (hab : a * 2 ^ k + b < 2 ^ 63) (hb : b < 2 ^ k) (ha : a < 2 ^ 63) (hb2 : b < 2 ^ 63) : (lN a <<< ((nI k).toInt64 &&& 63)) ||| lN b = lN (a * 2 ^ k + b) := by
  apply Int64.toBitVec_inj.mp
  apply BitVec.eq_of_toNat_eq
  rw [Int64.toBitVec_or, BitVec.toNat_or, Int64.toBitVec_shiftLeft, BitVec.shiftLeft_eq', sh63 k hk, BitVec.toNat_shiftLeft, lN_toNat ha, lN_toNat hb2, lN_toNat hab, Nat.shiftLeft_eq, Nat.mod_eq_of_lt (by omega), or_add hb]
theorem price_of (x : Int64) : x.toInt32 &&& (65535 : Int32) = nI (x.toBitVec.toNat % 2 ^ 16) := by
  apply Int32.toBitVec_inj.mp
  apply BitVec.eq_of_toNat_eq
  rw [Int32.toBitVec_and, BitVec.toNat_and, lq_int, show (65535 : Int32).toBitVec.toNat = 2 ^ 16 - 1 from by decide, Nat.and_two_pow_sub_one_eq_mod, nI_bv, BitVec.toNat_ofNat]
  omega
theorem tag_eq {x : Int64} {t : Nat} (ht : t < 2 ^ 63) : (lg_cmp ((x.toUInt64 >>> ((nI 16).toInt64.toUInt64 &&& Int64.toUInt64 63)).toInt64) (lN t) = 0) ↔ x.toBitVec.toNat / 2 ^ 16 = t := by
  rw [lg_cmp_eq]
  have e := lq_shr x (k := 16) (by omega)
  constructor
  · intro q
    rw [q, lN_toNat ht] at e
    exact e.symm
  · intro q
    apply Int64.toBitVec_inj.mp
    apply BitVec.eq_of_toNat_eq
    rw [e, q, lN_toNat ht]
/-- what lacks, read out of the two sets of a tag -/
def fOf (n : Nat) (l : Nat) : Nat := bt (n / 2048) l + bt (n / 2 % 1024) l
/-- the least price that belongs to a tag -/
def lpC (v : NV) (r n : Nat) : Nat := lq v r (n % 2) 30000 (fOf n)
theorem nedB_cong {f g : Nat → Nat} {u : Nat} : ∀ n, (∀ k, k < n → f k = g k) → nedB f u n = nedB g u n
  | 0, _ => rfl
  | n + 1, h => by
    unfold nedB
    rw [nedB_cong n (fun k hk => h k (by omega)), h n (by omega)]
theorem lqF_congf {v : NV} {r aim F : Nat} : ∀ n f g, (∀ l, l < nvL v → f l = g l) → lqF v r aim F n f = lqF v r aim F n g
  | 0, _, _, _ => rfl
  | n + 1, f, g, h => by
    show (if _ then _ else _) = (if _ then _ else _)
    rw [nedB_cong _ h, fsB_cong _ h]
    by_cases q : nedB g 1 (nvL v) = 0
    · rw [if_pos q, if_pos q]
    · rw [if_neg q, if_neg q]
      refine mnF_cong _ (fun c hc b u => ?_)
      rw [lqF_congf n (fBh v c f) (fBh v c g) (fun l hl => by unfold fBh; rw [h l hl])]
theorem mnF_congv {v u : NV} {r l F : Nat} {p q : Nat → Nat} (em : nvMy v r = nvMy u r) : ∀ n, (∀ c, c < n → usN v c l = usN u c l ∧ p c = q c) → mnF v r l F p n = mnF u r l F q n
  | 0, _ => rfl
  | n + 1, h => by
    unfold mnF
    rw [mnF_congv em n (fun c hc => h c (by omega)), em, (h n (by omega)).1, (h n (by omega)).2]
theorem lqF_congv {v u : NV} {r aim F : Nat} (eC : nvC v = nvC u) (eL : nvL v = nvL u) (em : nvMy v r = nvMy u r) (eo : ∀ c, c < nvC v → nvOn v c = nvOn u c ∧ nvCh v c = nvCh u c) (ep : ∀ c, c < nvC v → nvPc v r c = nvPc u r c) : ∀ n f, lqF v r aim F n f = lqF u r aim F n f
  | 0, _ => rfl
  | n + 1, f => by
    show (if _ then _ else _) = (if _ then _ else _)
    rw [← eL, ← eC]
    by_cases q : nedB f 1 (nvL v) = 0
    · rw [if_pos q, if_pos q]
    · rw [if_neg q, if_neg q]
      have eu : ∀ c l, c < nvC v → usN v c l = usN u c l := fun c l hc => by unfold usN; rw [(eo c hc).1, (eo c hc).2]
      refine mnF_congv em _ (fun c hc => ⟨eu c _ hc, ?_⟩)
      have e1 : fBh v c f = fBh u c f := funext (fun l => by unfold fBh; rw [eu c l hc])
      have e2 : pz v r aim c = pz u r aim c := by unfold pz; rw [ep c hc]
      show pz v r aim c + lqF v r aim F n (fBh v c f) = pz u r aim c + lqF u r aim F n (fBh u c f)
      rw [e1, e2, lqF_congv eC eL em eo ep n]
def tgN (v : NV) (f : Nat → Nat) (aim : Nat) : Nat := (nedB f 1 (nvL v) * 1024 + nedB f 2 (nvL v)) * 2 + aim
theorem tgN_lt {v : NV} {f : Nat → Nat} {aim : Nat} (hv : NvOK v) (ha : aim < 2) : tgN v f aim < 2 ^ 21 := by
  have h4 := hv.1
  have g1 := lt_of_pow (nedB_lt f 1 (nvL v)) (by omega)
  have g2 := lt_of_pow (nedB_lt f 2 (nvL v)) (by omega)
  unfold tgN
  omega
theorem lpC_tg {v : NV} {r aim : Nat} {f : Nat → Nat} (hv : NvOK v) (ha : aim < 2) (hf : ∀ l, l < nvL v → f l ≤ 2) : lpC v r (tgN v f aim) = lq v r aim 30000 f := by
  have h4 := hv.1
  have g1 := lt_of_pow (nedB_lt f 1 (nvL v)) (by omega)
  have g2 := lt_of_pow (nedB_lt f 2 (nvL v)) (by omega)
  have e1 : tgN v f aim % 2 = aim := by unfold tgN; omega
  have e2 : tgN v f aim / 2048 = nedB f 1 (nvL v) := by unfold tgN; omega
  have e3 : tgN v f aim / 2 % 1024 = nedB f 2 (nvL v) := by unfold tgN; omega
  unfold lpC lq
  rw [e1]
  refine lqF_congf 20 _ _ (fun l hl => ?_)
  have h2 := hf l hl
  unfold fOf
  rw [e2, e3, nedB_bt, nedB_bt]
  rcases (show f l = 0 ∨ f l = 1 ∨ f l = 2 from by omega) with e | e | e <;> rw [e] <;> simp [hl]
