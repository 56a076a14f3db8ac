/-! Part b0: the class finds a ring. -/
def pkS (d : Nat → Nat) : Nat → Nat
  | 0 => 0
  | n + 1 => pkS d n + d n * 16 ^ n
theorem pkS_lt {d : Nat → Nat} : ∀ k, (∀ n, n < k → d n < 16) → pkS d k < 16 ^ k
  | 0, _ => by show 0 < 1; omega
  | k + 1, h => by
    have ih := pkS_lt k (fun n hn => h n (by omega))
    have h1 := h k (by omega)
    show pkS d k + d k * 16 ^ k < 16 ^ (k + 1)
    rw [Nat.pow_succ]
    have : d k * 16 ^ k ≤ 15 * 16 ^ k := Nat.mul_le_mul_right _ (by omega)
    omega
theorem pkS_dig {d : Nat → Nat} {i : Nat} : ∀ k, i < k → (∀ n, n < k → d n < 16) → pkS d k / 16 ^ i % 16 = d i
  | 0, h, _ => absurd h (by omega)
  | k + 1, h, hd => by
    show (pkS d k + d k * 16 ^ k) / 16 ^ i % 16 = d i
    by_cases q : i = k
    · subst q
      have := pkS_lt i (fun n hn => hd n (by omega))
      rw [Nat.add_mul_div_right _ _ (Nat.pow_pos (by omega)), Nat.div_eq_of_lt this, Nat.zero_add, Nat.mod_eq_of_lt (hd i (by omega))]
    · have ih := pkS_dig (d := d) (i := i) k (by omega) (fun n hn => hd n (by omega))
      have e : d k * 16 ^ k = (d k * 16 ^ (k - i - 1) * 16) * 16 ^ i := by
        have : (16 : Nat) ^ k = 16 ^ (k - i - 1) * 16 * 16 ^ i := by rw [← Nat.pow_succ, ← Nat.pow_add, show (k - i - 1).succ + i = k from by omega]
        rw [this, ← Nat.mul_assoc, ← Nat.mul_assoc]
      rw [e, Nat.add_mul_div_right _ _ (Nat.pow_pos (by omega)), Nat.add_mul_mod_self_right]
      exact ih
theorem pkS_add {d e : Nat → Nat} : ∀ k, pkS (fun n => d n + e n) k = pkS d k + pkS e k
  | 0 => rfl
  | k + 1 => by
    show pkS (fun n => d n + e n) k + (d k + e k) * 16 ^ k = (pkS d k + d k * 16 ^ k) + (pkS e k + e k * 16 ^ k)
    rw [pkS_add k, Nat.add_mul]
    omega
theorem pkS_mul {b : Nat} {e : Nat → Nat} : ∀ k, pkS (fun n => b * e n) k = b * pkS e k
  | 0 => (Nat.mul_zero b).symm
  | k + 1 => by
    show pkS (fun n => b * e n) k + b * e k * 16 ^ k = b * (pkS e k + e k * 16 ^ k)
    rw [pkS_mul k, Nat.mul_add, Nat.mul_assoc]
theorem pkS_e {a : Nat} : ∀ k, pkS (e01 a) k = if a < k then 16 ^ a else 0
  | 0 => by rw [if_neg (by omega)]; rfl
  | k + 1 => by
    show pkS (e01 a) k + e01 a k * 16 ^ k = _
    rw [pkS_e k]
    by_cases q : a = k
    · subst q; rw [if_neg (by omega), if_pos (by omega), e01_s]; omega
    · rw [e01_n q]
      by_cases q2 : a < k
      · rw [if_pos q2, if_pos (by omega)]; omega
      · rw [if_neg q2, if_neg (by omega)]; omega
def pkN (f g : Nat → Nat) (D : Nat) : Nat → Nat
  | 0 => 0
  | l + 1 => pkN f g D l + bt D l * (16 ^ f l + 16 ^ g l)
def mkS : Nat → Nat
  | 0 => 0
  | n + 1 => 13 + 16 * mkS n
theorem land16 (x y : Nat) : (x &&& y) = ((x % 16) &&& (y % 16)) + 16 * ((x / 16) &&& (y / 16)) := by
  have h1 : (x &&& y) % 2 ^ 4 = (x % 2 ^ 4) &&& (y % 2 ^ 4) := Nat.and_mod_two_pow
  have h2 : (x &&& y) / 2 ^ 4 = (x / 2 ^ 4) &&& (y / 2 ^ 4) := Nat.and_div_two_pow
  rw [show (16 : Nat) = 2 ^ 4 from rfl, ← h1, ← h2]
  omega
theorem mk_iff : ∀ n x, x &&& mkS n = 0 ↔ ∀ i, i < n → (x / 16 ^ i % 16) &&& 13 = 0
  | 0, x => ⟨fun _ i hi => absurd hi (by omega), fun _ => Nat.and_zero x⟩
  | n + 1, x => by
    have ih := mk_iff n (x / 16)
    have e : x &&& mkS (n + 1) = (x % 16 &&& 13) + 16 * (x / 16 &&& mkS n) := by
      rw [land16]
      show (x % 16 &&& (13 + 16 * mkS n) % 16) + 16 * (x / 16 &&& (13 + 16 * mkS n) / 16) = _
      rw [show (13 + 16 * mkS n) % 16 = 13 from by omega, show (13 + 16 * mkS n) / 16 = mkS n from by omega]
    rw [e]
    constructor
    · intro z i hi
      cases i with
      | zero => rw [Nat.pow_zero, Nat.div_one]; omega
      | succ i =>
        rw [Nat.pow_succ, Nat.mul_comm, ← Nat.div_div_eq_div_mul]
        exact ih.mp (by omega) i (by omega)
    · intro z
      have z0 := z 0 (by omega)
      rw [Nat.pow_zero, Nat.div_one] at z0
      have zs := ih.mpr (fun i hi => by
        have := z (i + 1) (by omega)
        rw [Nat.pow_succ, Nat.mul_comm, ← Nat.div_div_eq_div_mul] at this
        exact this)
      omega
theorem dig13 : ∀ d, d < 16 → (d &&& 13 = 0 ↔ d = 0 ∨ d = 2) := by decide
theorem nI_mask {x : Nat} (hx : x < 2 ^ 32) : (nI x &&& (-572662307 : Int32)) = 0 ↔ x &&& mkS 8 = 0 := by
  have m : (-572662307 : Int32).toBitVec = BitVec.ofNat 32 (mkS 8) := by decide
  have m2 : mkS 8 < 2 ^ 32 := by decide
  rw [← Int32.toBitVec_inj, Int32.toBitVec_and, m, nI_bv, ← BitVec.toNat_inj, BitVec.toNat_and, BitVec.toNat_ofNat, BitVec.toNat_ofNat, Nat.mod_eq_of_lt hx, Nat.mod_eq_of_lt m2]
  exact Iff.rfl
theorem p16 : ∀ a, a < 8 → nI 1 <<< ((nI 4 * nI a) &&& 31) = nI (16 ^ a) := by decide
section PK
variable {f g : Nat → Nat} {L : Nat}
theorem dg_le (h : Lk f g L) {D n : Nat} : ∀ l, l ≤ L → dg f g D n l ≤ l
  | 0, _ => Nat.le_refl _
  | l + 1, hl => by
    have ih := dg_le h (D := D) (n := n) l (by omega)
    rw [dg_s (h.2 l (by omega)).2.2]
    have b1 := bt01 D l
    have b2 := bt01 (enS f g l) n
    rcases b1 with b | b
    · rw [b, Nat.zero_mul]; omega
    · rw [b, Nat.one_mul]; omega
theorem pkS_z : ∀ k, pkS (fun _ => 0) k = 0
  | 0 => rfl
  | k + 1 => by
    show pkS (fun _ => 0) k + 0 * 16 ^ k = 0
    rw [pkS_z k, Nat.zero_mul]
theorem pk_S (h : Lk f g L) {D : Nat} : ∀ l, l ≤ L → pkN f g D l = pkS (fun n => dg f g D n l) 8
  | 0, _ => by
    have e : (fun n => dg f g D n 0) = fun _ => 0 := rfl
    rw [e, pkS_z]
    rfl
  | l + 1, hl => by
    have e := h.2 l (by omega)
    have s : (fun n => dg f g D n (l + 1)) = fun n => dg f g D n l + bt D l * (e01 (f l) n + e01 (g l) n) := rfl
    rw [s, pkS_add, pkS_mul, pkS_add, pkS_e, pkS_e, if_pos e.1, if_pos e.2.1, ← pk_S h l (by omega)]
    rfl
theorem pk_ok (h : Lk f g L) {D : Nat} : pkN f g D L < 2 ^ 32 ∧ (∀ n, n < 8 → pkN f g D L / 16 ^ n % 16 = dg f g D n L) ∧ ((nI (pkN f g D L) &&& (-572662307 : Int32)) = 0 ↔ ∀ n, n < 8 → dg f g D n L = 0 ∨ dg f g D n L = 2) := by
  have hd : ∀ n, n < 8 → dg f g D n L < 16 := fun n _ => by
    have := dg_le h (D := D) (n := n) L (Nat.le_refl _)
    have := h.1
    omega
  have e := pk_S h (D := D) L (Nat.le_refl _)
  have lt : pkN f g D L < 2 ^ 32 := by
    rw [e]
    exact pkS_lt 8 hd
  have dig : ∀ n, n < 8 → pkN f g D L / 16 ^ n % 16 = dg f g D n L := fun n hn => by
    rw [e]
    exact pkS_dig 8 hn hd
  refine ⟨lt, dig, ?_⟩
  rw [nI_mask lt, mk_iff]
  constructor
  · intro z n hn
    have := z n hn
    rw [dig n hn] at this
    exact (dig13 _ (hd n hn)).mp this
  · intro z n hn
    rw [dig n hn]
    exact (dig13 _ (hd n hn)).mpr (z n hn)
end PK
/-- a net that is told, its links in its rows -/
def NGr (h : MH) (a K L : Nat) (f g : Nat → Nat) : Prop := hS h a = (1, 4) ∧ hI h a 0 = nI K ∧ hI h a 3 = nI L ∧ hR h a 4 = some (a + 1) ∧ hS h (a + 1) = (2, 10) ∧ hR h a 5 = some (a + 2) ∧ hS h (a + 2) = (2, 10) ∧ ∀ l, l < L → hI h (a + 1) l = nI (f l) ∧ hI h (a + 2) l = nI (g l)
section NG
variable {Q : Int32 → MH → Prop} {h : MH} {a K L : Nat} {f g : Nat → Nat}
theorem n_ends (k : Lk f g L) (p : NGr h a K L f g) {D : Nat} (hD : D < 1024) (hq : Q (nI (pkN f g D L)) h) : wX4_endsAtNodes a (nI D) h Q := by
  obtain ⟨p1, p2, p3, p4, p5, p6, p7, p8⟩ := p
  have hL := k.1
  have lp : ∀ n l, l + n = L → wX4_endsAtNodes_4 Q (n + 1) a (nI D) (nI (pkN f g D l)) (nI l) h := by
    intro n
    induction n with
    | zero =>
      intro l hn
      have hn : l = L := by omega
      subst hn
      unfold wX4_endsAtNodes_4
      rw [p3]
      exact ⟨p1, fun _ => hq, fun z => absurd (nI_le (Nat.le_refl _) (by omega)) z⟩
    | succ n ih =>
      intro l hn
      have r := ih (l + 1) (by omega)
      have e := k.2 l (by omega)
      have e8 := p8 l (by omega)
      have b01 := bt01 D l
      have ep : pkN f g D (l + 1) = pkN f g D l + bt D l * (16 ^ f l + 16 ^ g l) := rfl
      unfold wX4_endsAtNodes_4
      rw [p3, nI_bit (by omega) (by omega), nI_eq0 (by omega), nI_add l 1, nI_clamp (show l < 2 ^ 31 by omega)]
      refine ⟨p1, fun z => absurd z (nI_ge (by omega) (by omega)), fun _ => ⟨fun z => ?_, fun z => ⟨a + 1, p4, 10, p5, vp_in_nI (by omega) (by omega), a + 2, p6, 10, p7, vp_in_nI (by omega) (by omega), fun x ex => ?_⟩⟩⟩
      · rw [z, Nat.zero_mul, Nat.add_zero] at ep
        rw [ep] at r
        exact r
      · rw [e8.1, e8.2, p16 _ e.1, p16 _ e.2.1, nI_add, nI_add] at ex
        rw [show bt D l = 1 from by omega, Nat.one_mul] at ep
        rw [ep] at r
        subst ex
        exact r
  exact ⟨L + 1, lp L 0 (by omega)⟩
def lkI : Option Nat → Int32
  | none => -1
  | some l => nI l
theorem n_linkAt (k : Lk f g L) (p : NGr h a K L f g) {X n : Nat} (hX : X < 1024) (hn : n < 8) (hq : Q (lkI (lkF f g X n L 0)) h) : wX4_linkAt a (nI X) (nI n) h Q := by
  obtain ⟨p1, p2, p3, p4, p5, p6, p7, p8⟩ := p
  have hL := k.1
  have lp : ∀ j i, i + j = L → Q (lkI (lkF f g X n j i)) h → wX4_linkAt_2 Q (j + 1) a (nI X) (nI n) (nI i) h := by
    intro j
    induction j with
    | zero =>
      intro i hi kq
      have hi : i = L := by omega
      unfold wX4_linkAt_2
      rw [p3, hi]
      exact ⟨p1, fun _ => kq, fun z => absurd (nI_le (Nat.le_refl _) (by omega)) z⟩
    | succ j ih =>
      intro i hi hq
      have e := k.2 i (by omega)
      have e8 := p8 i (by omega)
      have b01 := bt01 X i
      have r := ih (i + 1) (by omega)
      unfold lkF at hq
      unfold wX4_linkAt_2
      rw [p3, nI_bit (by omega) (by omega), nI_eq0 (by omega), nI_add i 1, nI_clamp (show i < 2 ^ 31 by omega)]
      refine ⟨p1, fun z => absurd z (nI_ge (by omega) (by omega)), fun _ => ⟨fun z => ?_, fun z => ⟨a + 1, p4, 10, p5, vp_in_nI (by omega) (by omega), ?_⟩⟩⟩
      · rw [if_neg (by omega)] at hq
        exact r hq
      · rw [e8.1, nI_eq (by omega) (by omega)]
        refine ⟨fun y => ?_, fun y => ⟨a + 2, p6, 10, p7, vp_in_nI (by omega) (by omega), ?_⟩⟩
        · rw [if_pos ⟨by omega, Or.inl y⟩] at hq; exact hq
        · rw [e8.2, nI_eq (by omega) (by omega)]
          refine ⟨fun x => ?_, fun x => ?_⟩
          · rw [if_neg (by omega)] at hq; exact r hq
          · rw [if_pos ⟨by omega, Or.inr x⟩] at hq; exact hq
  exact ⟨L + 1, lp L 0 (by omega) hq⟩
theorem n_walk (k : Lk f g L) (p : NGr h a K L f g) {D s y : Nat} (hD : D < 1024) (hs : s < 8) (hy : y < 8) (hq : Q (nI (dfN D (wk f g L y L D s).1)) h) : wX4_walk a (nI D) (nI s) (nI y) h Q := by
  have hL := k.1
  have lp : ∀ j X n i, i + j = L → X < 1024 → n < 8 → Q (nI (dfN D (wk f g L y j X n).1)) h → wX4_walk_9 Q (j + 1) a (nI D) (nI y) (nI X) (nI n) (nI i) h := by
    intro j
    induction j with
    | zero =>
      intro X n i hi hX hn kq
      have hi : i = L := by omega
      unfold wX4_walk_9 wX4_walk_82
      rw [p.2.2.1, nI_andn (by omega) (by omega), hi]
      exact ⟨p.1, fun _ => kq, fun z => absurd (nI_le (Nat.le_refl _) (by omega)) z⟩
    | succ j ih =>
      intro X n i hi hX hn hq
      have r := ih
      unfold wX4_walk_9 wX4_walk_82
      rw [p.2.2.1, nI_andn (by omega) (by omega), nI_add i 1]
      refine ⟨p.1, fun z => absurd z (nI_ge (by omega) (by omega)), fun _ => n_linkAt k p hX hn ?_⟩
      unfold wk at hq
      cases e : lkF f g X n L 0 with
      | none =>
        rw [e] at hq
        exact ⟨fun z => absurd z (by decide), fun _ => hq⟩
      | some l =>
        rw [e] at hq
        have hq : Q (nI (dfN D (if f l + g l - n = y then (dfN X (2 ^ l), y) else wk f g L y j (dfN X (2 ^ l)) (f l + g l - n)).1)) h := hq
        obtain ⟨_, a1, b1, c1, _⟩ := lkF_some _ _ _ e
        have e1 := k.2 l (by omega)
        have pl := pow_le10 (show l < 10 by omega)
        have dl : dfN X (2 ^ l) < 2 ^ 10 := dfN_lt hX
        obtain ⟨p1, p2, p3, p4, p5, p6, p7, p8⟩ := id p
        have e8 := p8 l (by omega)
        show (0 ≤ nI l → _) ∧ (¬ (0 ≤ nI l) → _)
        refine ⟨fun _ v ev => ⟨p1, a + 1, p4, 10, p5, vp_in_nI (by omega) (by omega), a + 2, p6, 10, p7, vp_in_nI (by omega) (by omega), fun u eu => ?_⟩, fun z => absurd (Int32.not_lt.mp (nI_nn (by omega))) z⟩
        have ev : v = nI X &&& ((nI 1 <<< (nI l &&& 31)) ^^^ (-1 : Int32)) := ev
        have eu : u = hI h (a + 1) (nI l).toNatClampNeg + hI h (a + 2) (nI l).toNatClampNeg - nI n := eu
        rw [nI_shl l (by omega), nI_andn (by omega) (by omega)] at ev
        have ev : v = nI (dfN X (2 ^ l)) := ev
        rw [nI_clamp (show l < 2 ^ 31 by omega), e8.1, e8.2, nI_add, nI_subN (by omega)] at eu
        subst ev
        subst eu
        rw [nI_eq (by omega) (by omega), nI_andn (by omega) (by omega)]
        refine ⟨fun z => ?_, fun z => ?_⟩
        · rw [if_neg z] at hq
          exact r _ _ (i + 1) (by omega) dl (by omega) hq
        · rw [if_pos z] at hq
          exact hq
  exact ⟨L + 1, lp L D s 0 (by omega) hD hs hq⟩
theorem wk_sub {y : Nat} : ∀ j X n l, bt (wk f g L y j X n).1 l = 1 → bt X l = 1
  | 0, _, _, _, z => z
  | j + 1, X, n, l, z => by
    unfold wk at z
    have del : ∀ i, bt (dfN X (2 ^ i)) l = 1 → bt X l = 1 := fun i w => by
      rw [bt_df] at w
      by_cases q : l = i
      · rw [if_pos q] at w; omega
      · rw [if_neg q] at w; exact w
    cases e : lkF f g X n L 0 with
    | none => rw [e] at z; exact z
    | some i =>
      rw [e] at z
      have z : bt (if f i + g i - n = y then (dfN X (2 ^ i), y) else wk f g L y j (dfN X (2 ^ i)) (f i + g i - n)).1 l = 1 := z
      by_cases q : f i + g i - n = y
      · rw [if_pos q] at z; exact del i z
      · rw [if_neg q] at z; exact del i (wk_sub j _ _ l z)
theorem bt_dfN (a b k : Nat) : bt (dfN a b) k = 1 ↔ bt a k = 1 ∧ bt b k = 0 := by
  have b0 : bt b k = 0 ↔ ¬ b.testBit k = true := by
    rw [← bt_tb]
    have := bt01 b k
    omega
  rw [b0, bt_tb, bt_tb]
  unfold dfN
  rw [Nat.testBit_xor, Nat.testBit_and]
  cases a.testBit k <;> cases b.testBit k <;> simp
theorem df_same {D X : Nat} (hX : X < 2 ^ 10) (hD : D < 2 ^ 10) (sub : ∀ l, bt X l = 1 → bt D l = 1) : dfN D X = D ↔ X = 0 := by
  constructor
  · intro z
    refine mask_ext hX (by decide) (fun c _ => ?_)
    rw [bt_zz]
    refine ⟨fun y => ?_, fun y => absurd y (by omega)⟩
    have := sub c y
    rw [← z, bt_dfN] at this
    omega
  · intro z
    rw [z, dfN_0]
theorem n_isCycle (k : Lk f g L) (p : NGr h a K L f g) {D : Nat} (hD : D < 2 ^ L) (hq : Q (if cyB f g L D = true then nI 1 else nI 0) h) : wX4_isCycle a (nI D) h Q := by
  have hL := k.1
  have hD1 := lt_of_pow hD hL
  refine u_bitCount hD1 ⟨fun z => ?_, fun z => ⟨p.1, n_ends k p hD1 ?_⟩⟩
  · have : ¬ 3 ≤ bcN D 10 := fun y => absurd z (Int32.not_lt.mpr (nI_le y (by have := bcN_le D 10; omega)))
    have c0 : ¬ cyB f g L D = true := fun y => by
      rw [cyB_def] at y
      exact this y.1
    rw [if_neg c0] at hq
    exact hq
  · have b3 : 3 ≤ bcN D 10 := Nat.le_of_not_lt (fun y => z (nI_lt y (by omega)))
    have pk := pk_ok k (D := D)
    rw [pk.2.2]
    obtain ⟨l0, el, a0, b0⟩ := bc_ex hD (by omega) hL
    refine ⟨fun t => ?_, fun t => ?_⟩
    · have e0 : cyB f g L D = true ↔ (wk f g L (f l0) L D (f l0)).1 = 0 := by
        rw [cyB_def]
        unfold rdN
        rw [el]
        exact ⟨fun y => y.2.2, fun y => ⟨b3, t, y⟩⟩
      obtain ⟨p1, p2, p3, p4, p5, p6, p7, p8⟩ := id p
      have lp : ∀ j i, i + j = L → loL D j i = some l0 → wX4_isCycle_23 Q (j + 1) a (nI D) (nI i) h := by
        intro j
        induction j with
        | zero => intro i hi z; exact absurd z (by unfold loL; simp)
        | succ j ih =>
          intro i hi z
          have b01 := bt01 D i
          unfold loL at z
          unfold wX4_isCycle_23
          rw [p3, nI_bit (by omega) (by omega), nI_eq0 (by omega), nI_add i 1, nI_clamp (show i < 2 ^ 31 by omega)]
          refine ⟨p1, fun y => absurd y (nI_ge (by omega) (by omega)), fun _ => ⟨fun y => ?_, fun y => ⟨a + 1, p4, 10, p5, vp_in_nI (by omega) (by omega), vp_in_nI (by omega) (by omega), ?_⟩⟩⟩
          · rw [if_neg (by omega)] at z
            exact ih (i + 1) (by omega) z
          · rw [if_pos (by omega)] at z
            injection z with z
            subst z
            have e := k.2 i (by omega)
            rw [(p8 i (by omega)).1]
            refine n_walk k p hD1 e.1 e.1 ?_
            have hX : (wk f g L (f i) L D (f i)).1 < 2 ^ 10 := wk_lt L D (f i) hD1
            have hd : dfN D (wk f g L (f i) L D (f i)).1 < 2 ^ 10 := dfN_lt hD1
            have e2 : (nI (dfN D (wk f g L (f i) L D (f i)).1) = nI D) ↔ cyB f g L D = true := by
              rw [nI_eq (by omega) (by omega), df_same hX hD1 (fun l => wk_sub L D (f i) l), e0]
            by_cases c : cyB f g L D = true
            · rw [if_pos (e2.mpr c)]
              rw [if_pos c] at hq
              exact ⟨Or.inr (by decide), hq⟩
            · rw [if_neg (fun y => c (e2.mp y))]
              rw [if_neg c] at hq
              exact ⟨Or.inl nI_0, hq⟩
      exact ⟨L + 1, lp L 0 (by omega) el⟩
    · have c0 : ¬ cyB f g L D = true := fun y => by
        rw [cyB_def] at y
        exact t y.2.1
      rw [if_neg c0] at hq
      exact hq
end NG
