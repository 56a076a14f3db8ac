/-! Part b7: the class looks around a ring. -/
def ndK (f g : Nat → Nat) (L D : Nat) : Nat → Nat
  | 0 => 0
  | n + 1 => if dg f g D n L = 0 then ndK f g L D n else ndK f g L D n ||| 2 ^ n
theorem bt_ndK {f g : Nat → Nat} {L D j : Nat} : ∀ n, bt (ndK f g L D n) j = 1 ↔ j < n ∧ 1 ≤ dg f g D j L
  | 0 => by
    show bt 0 j = 1 ↔ _
    rw [bt_zz]
    omega
  | n + 1 => by
    have ih := bt_ndK (f := f) (g := g) (L := L) (D := D) (j := j) n
    unfold ndK
    by_cases z : dg f g D n L = 0
    · rw [if_pos z, ih]
      constructor
      · intro w; omega
      · intro w
        by_cases y : j = n
        · rw [y] at w; omega
        · omega
    · rw [if_neg z, bt_or]
      by_cases y : j = n
      · rw [if_pos y, y]; omega
      · rw [if_neg y, ih]; omega
theorem ndK_lt {f g : Nat → Nat} {L D : Nat} : ∀ n, ndK f g L D n < 2 ^ n
  | 0 => by show 0 < 1; omega
  | n + 1 => by
    have h1 := ndK_lt (f := f) (g := g) (L := L) (D := D) n
    have h2 : (2 : Nat) ^ (n + 1) = 2 ^ n + 2 ^ n := by rw [Nat.pow_succ]; omega
    unfold ndK
    by_cases z : dg f g D n L = 0
    · rw [if_pos z]; omega
    · rw [if_neg z]; exact Nat.or_lt_two_pow (by omega) (by omega)
theorem ndK_on {f g : Nat → Nat} {K L D : Nat} (k : Lk f g L) (hK : ∀ l, l < L → f l < K ∧ g l < K) (h8 : K ≤ 8) : ndK f g L D K = onS f g D L := by
  have l1 : ndK f g L D K < 2 ^ 8 := Nat.lt_of_lt_of_le (ndK_lt K) (Nat.pow_le_pow_right (by omega) h8)
  refine mask_ext l1 (onS_lt k L (Nat.le_refl _)) (fun c _ => ?_)
  rw [bt_ndK, bt_on k L (Nat.le_refl _)]
  refine ⟨fun z => z.2, fun z => ⟨?_, z⟩⟩
  obtain ⟨l, a, _, b⟩ := dg_ex L z
  have := hK l a
  omega
theorem pkS_two {d : Nat → Nat} : ∀ k, (∀ n, n < k → d n ≤ 2) → pkS d k * 15 + 2 ≤ 2 * 16 ^ k
  | 0, _ => by show 0 * 15 + 2 ≤ 2 * 1; omega
  | k + 1, h => by
    have ih := pkS_two k (fun n hn => h n (by omega))
    have h1 := h k (by omega)
    show (pkS d k + d k * 16 ^ k) * 15 + 2 ≤ 2 * 16 ^ (k + 1)
    rw [Nat.pow_succ]
    have : d k * 16 ^ k ≤ 2 * 16 ^ k := Nat.mul_le_mul_right _ h1
    omega
theorem nI_min {x y : Nat} (hx : x < 2 ^ 31) (hy : y < 2 ^ 31) : (if nI y < nI x then nI y else nI x) = nI (min x y) ∧ (if nI x < nI y then nI y else nI x) = nI (max x y) := by
  constructor
  · by_cases c : y < x
    · rw [if_pos (nI_lt c hx), Nat.min_eq_right (by omega)]
    · rw [if_neg (fun z => absurd z (Int32.not_lt.mpr (nI_le (by omega) hy))), Nat.min_eq_left (by omega)]
  · by_cases c : x < y
    · rw [if_pos (nI_lt c hy), Nat.max_eq_right (by omega)]
    · rw [if_neg (fun z => absurd z (Int32.not_lt.mpr (nI_le (by omega) hx))), Nat.max_eq_left (by omega)]
theorem two_b : ∀ a, a < 2 → ∀ b, b < 2 → (nI a &&& nI b &&& nI 1 = 0 ↔ ¬ (a = 1 ∧ b = 1)) := by decide
theorem and_b1 (x y : Int32) : (x &&& y) &&& nI 1 = ((x &&& nI 1) &&& (y &&& nI 1)) &&& nI 1 := by
  apply Int32.toBitVec_inj.mp
  simp only [Int32.toBitVec_and]
  ext i
  simp only [BitVec.getElem_and]
  cases x.toBitVec[i] <;> cases y.toBitVec[i] <;> cases (nI 1).toBitVec[i] <;> rfl
theorem shr2 {N s t : Nat} (hN : N < 2 ^ 31) (hs : s < 32) (ht : t < 32) : ((nI N >>> (nI s &&& 31)) &&& (nI N >>> (nI t &&& 31))) &&& nI 1 = 0 ↔ ¬ (bt N s = 1 ∧ bt N t = 1) := by
  rw [and_b1, nI_bit hN hs, nI_bit hN ht]
  exact two_b _ (bt_lt _ _) _ (bt_lt _ _)
/-- a net that is settled: its rows of rings -/
def NZ (h : MH) (a z K L C : Nat) (f g : Nat → Nat) : Prop := NGr h a K L f g ∧ hI h a 10 = nI C ∧ hR h a 11 = some (z + 1) ∧ hR h a 12 = some (z + 2) ∧ hR h a 13 = some (z + 3) ∧ hR h a 14 = some (z + 4) ∧ hS h (z + 1) = (2, C) ∧ hS h (z + 2) = (2, C) ∧ hS h (z + 3) = (2, C) ∧ hS h (z + 4) = (2, 20 * C) ∧ a + 11 ≤ z
section LA
variable {h : MH} {a z K L C : Nat} {f g : Nat → Nat}
theorem NGr_keep {h1 : MH} (p : NGr h a K L f g) (eS : hS h1 = hS h) (eR : hR h1 = hR h) (e0 : hI h1 a 0 = hI h a 0) (e3 : hI h1 a 3 = hI h a 3) (e1 : hI h1 (a + 1) = hI h (a + 1)) (e2 : hI h1 (a + 2) = hI h (a + 2)) : NGr h1 a K L f g := by
  unfold NGr
  rw [eS, eR, e0, e3, e1, e2]
  exact p
theorem NZ_keep {h1 : MH} (p : NZ h a z K L C f g) (q : Fr (fun b => z + 1 ≤ b ∧ b ≤ z + 4) h h1) : NZ h1 a z K L C f g := by
  obtain ⟨p1, p2, p3, p4, p5, p6, p7, p8, p9, p10, p11⟩ := p
  have i : ∀ b, b < z → hI h1 b = hI h b := fun b hb => q.2.2.2.2 b (by omega)
  refine ⟨NGr_keep p1 q.2.1 q.2.2.2.1 (by rw [i a (by omega)]) (by rw [i a (by omega)]) (i _ (by omega)) (i _ (by omega)), by rw [i a (by omega)]; exact p2, ?_⟩
  rw [q.2.1, q.2.2.2.1]
  exact ⟨p3, p4, p5, p6, p7, p8, p9, p10, p11⟩
theorem n_look {Q : MH → Prop} (k : Lk f g L) (hK : ∀ l, l < L → f l < K ∧ g l < K) (h8 : K ≤ 8) (p : NZ h a z K L C f g) (hC : C ≤ 40) {c D : Nat} (hc : c < C) (hD : D < 2 ^ L) (two : TwoR f g L D) (eD : hI h (z + 1) c = nI D) (e2 : hI h (z + 2) c = 0) (e3 : hI h (z + 3) c = 0) (e4 : ∀ i, 20 * c ≤ i → i < 20 * c + 20 → hI h (z + 4) i = 0) (hq : ∀ h1, Fr (fun b => z + 2 ≤ b ∧ b ≤ z + 4) h h1 → hI h1 (z + 2) c = nI (onS f g D L) → hI h1 (z + 3) c = nI (chN f g D (onS f g D L) L) → (∀ l s, l < L → s < 2 → hI h1 (z + 4) ((c * 10 + l) * 2 + s) = nI (paN f g L D (chN f g D (onS f g D L) L) l s)) → (∀ j, j ≠ c → hI h1 (z + 2) j = hI h (z + 2) j ∧ hI h1 (z + 3) j = hI h (z + 3) j) → (∀ i, (i < 20 * c ∨ 20 * c + 20 ≤ i) → hI h1 (z + 4) i = hI h (z + 4) i) → Q h1) : wX4_lookAround a (nI c) h Q := by
  have hL := k.1
  have hD1 : D < 2 ^ 10 := lt_of_pow hD hL
  have pk := pk_ok k (D := D)
  have pk31 : pkN f g D L < 2 ^ 31 := by
    have := pkS_two (d := fun n => dg f g D n L) 8 (fun n _ => by have := two n; show dg f g D n L ≤ 2; omega)
    rw [← pk_S k L (Nat.le_refl _)] at this
    omega
  have N8 := onS_lt k (D := D) L (Nat.le_refl _)
  have loop : ∀ n l h1, l + n = L → Fr (fun b => z + 2 ≤ b ∧ b ≤ z + 4) h h1 → hI h1 (z + 2) c = nI (onS f g D L) → hI h1 (z + 3) c = nI (chN f g D (onS f g D L) l) → (∀ i s, i < l → s < 2 → hI h1 (z + 4) ((c * 10 + i) * 2 + s) = nI (paN f g L D (chN f g D (onS f g D L) L) i s)) → (∀ i, 20 * c + 2 * l ≤ i → i < 20 * c + 20 → hI h1 (z + 4) i = 0) → (∀ j, j ≠ c → hI h1 (z + 2) j = hI h (z + 2) j ∧ hI h1 (z + 3) j = hI h (z + 3) j) → (∀ i, (i < 20 * c ∨ 20 * c + 20 ≤ i) → hI h1 (z + 4) i = hI h (z + 4) i) → wX4_lookAround_56 Q (n + 1) a (nI c) (nI l) h1 := by
    intro n
    induction n with
    | zero =>
      intro l h1 hn fr a2 a3 a4 a5 a6 a7
      have hn : l = L := by omega
      have pz := NZ_keep p (Fr_mono (fun b hb => by omega) fr)
      obtain ⟨⟨g1, g2, g3, g4⟩, pz2⟩ := pz
      rw [hn] at a3 a4 ⊢
      unfold wX4_lookAround_56
      rw [g3]
      exact ⟨g1, fun _ => hq h1 fr a2 a3 a4 a6 a7, fun y => absurd (nI_le (Nat.le_refl _) (by omega)) y⟩
    | succ n ih =>
      intro l h1 hn fr a2 a3 a4 a5 a6 a7
      have pz := NZ_keep p (Fr_mono (fun b hb => by omega) fr)
      obtain ⟨ng, z2, z3, z4, z5, z6, z7, z8, z9, z10, z11⟩ := pz
      obtain ⟨g1, g2, g3, g4, g5, g6, g7, g8⟩ := id ng
      have e := k.2 l (by omega)
      have gl := g8 l (by omega)
      have eD1 : hI h1 (z + 1) c = nI D := by rw [fr.2.2.2.2 (z + 1) (by omega)]; exact eD
      have bD := bt01 D l
      have r := ih (l + 1)
      have c1 := lt_of_pow (chN_lt f g D (onS f g D L) l) (by omega)
      have pl := pow_le10 (show l < 10 by omega)
      have ec : chN f g D (onS f g D L) (l + 1) = if bt D l = 0 ∧ (enS f g l &&& onS f g D L) = enS f g l then chN f g D (onS f g D L) l ||| 2 ^ l else chN f g D (onS f g D L) l := rfl
      have ic := bt_ch (f := f) (g := g) (s := D) (N := onS f g D L) (j := l) L
      have es := en_sub (f := f) (g := g) (l := l) (N := onS f g D L) e.1 e.2.1
      have ei : ((c * 10 + l) * 2) = 20 * c + 2 * l := by omega
      unfold wX4_lookAround_56
      rw [g3, nI_add l 1, nI_clamp (show c < 2 ^ 31 by omega), nI_clamp (show l < 2 ^ 31 by omega)]
      refine ⟨g1, fun y => absurd y (nI_ge (by omega) (by omega)), fun _ => ⟨z + 1, z3, C, z7, vp_in_nI (by omega) (by omega), ?_⟩⟩
      rw [eD1, nI_bit (by omega) (by omega), nI_eq0 (by omega)]
      refine ⟨fun y => ⟨z + 2, z4, C, z8, vp_in_nI (by omega) (by omega), a + 1, g4, 10, g5, vp_in_nI (by omega) (by omega), vp_in_nI (by omega) (by omega), a + 2, g6, 10, g7, vp_in_nI (by omega) (by omega), ?_⟩, fun y => ⟨z + 4, z6, vp_in_nI (by omega) (by omega), 20 * C, z10, ?_⟩⟩
      · rw [gl.1, gl.2, a2, shr2 (by omega) (by omega) (by omega)]
        refine ⟨fun w => ?_, fun w => ⟨z + 3, z5, C, z9, vp_in_nI (by omega) (by omega), vp_in_nI (by omega) (by omega), fun h38 e38 => ⟨vp_in_nI (by omega) (by omega), vp_in_nI (by omega) (by omega), vp_in_nI (by omega) (by omega), ?_⟩⟩⟩
        · have nc : ¬ (bt D l = 0 ∧ (enS f g l &&& onS f g D L) = enS f g l) := fun x => w (es.mp x.2)
          have b0 : bt (chN f g D (onS f g D L) L) l = 0 := by
            rcases bt01 (chN f g D (onS f g D L) L) l with b | b
            · exact b
            · exact absurd (ic.mp b).2 nc
          rw [if_neg nc] at ec
          rw [ec] at r
          refine r h1 (by omega) fr a2 a3 (fun i s hi hs => ?_) (fun i x1 x2 => a5 i (by omega) x2) a6 a7
          by_cases q : i = l
          · subst q
            rw [pa_no y b0, a5 _ (by omega) (by omega)]
            exact nI_0.symm
          · exact a4 i s (by omega) hs
        · have yc : bt D l = 0 ∧ (enS f g l &&& onS f g D L) = enS f g l := ⟨y, es.mpr (by
            have n1 := bt01 (onS f g D L) (f l)
            have n2 := bt01 (onS f g D L) (g l)
            omega)⟩
          have b1 : bt (chN f g D (onS f g D L) L) l = 1 := ic.mpr ⟨by omega, yc⟩
          rw [if_pos yc] at ec
          rw [ec] at r
          have pa := pa_ch (f := f) (g := g) (L := L) y b1
          rw [a3, nI_shl l (by omega), nI_or (by omega) (by omega)] at e38
          have fr38 : Fr (fun b => z + 2 ≤ b ∧ b ≤ z + 4) h1 h38 := by rw [e38]; exact Fr_sI (by omega)
          have pz38 := NZ_keep p (Fr_mono (fun b hb => by omega) (Fr_trans fr fr38))
          obtain ⟨ng8, y2, y3, y4, y5, y6, y7, y8, y9, y10, y11⟩ := pz38
          have gl8 := ng8.2.2.2.2.2.2.2 l (by omega)
          have eD8 : hI h38 (z + 1) c = nI D := by rw [fr38.2.2.2.2 (z + 1) (by omega)]; exact eD1
          rw [eD8, gl8.1, gl8.2]
          have ls : sidN f g L D l < 2 ^ 10 := dfN_lt hD1
          have lo : dfN D (sidN f g L D l) < 2 ^ 10 := dfN_lt hD1
          refine n_walk k ng8 hD1 e.1 e.2.1 ⟨ng8.1, z + 4, y6, z + 1, y3, C, y7, vp_in_nI (by omega) (by omega), 20 * C, y10, ?_⟩
          rw [eD8, nI_mul, nI_add, nI_mul, nI_add, nI_clamp (show (c * 10 + l) * 2 < 2 ^ 31 by omega), nI_clamp (show (c * 10 + l) * 2 + 1 < 2 ^ 31 by omega)]
          have si : dfN D (wk f g L (g l) L D (f l)).1 = sidN f g L D l := rfl
          rw [si, nI_andn (by omega) (by omega)]
          have so : D ^^^ (D &&& sidN f g L D l) = dfN D (sidN f g L D l) := rfl
          rw [so]
          have mm := nI_min (x := sidN f g L D l) (y := dfN D (sidN f g L D l)) (by omega) (by omega)
          refine ⟨vp_in_nI (by omega) (by omega), fun h55 e55 => ⟨vp_in_nI (by omega) (by omega), vp_in_nI (by omega) (by omega), fun h58 e58 => ?_⟩⟩
          rw [mm.1, ← pa.1] at e55
          have eD5 : hI h55 (z + 1) c = nI D := by rw [e55, hI_sI, if_neg (by omega)]; exact eD8
          rw [eD5, nI_andn (by omega) (by omega), so, mm.2, ← pa.2] at e58
          have i4 : ∀ i, hI h58 (z + 4) i = if i = (c * 10 + l) * 2 + 1 then nI (paN f g L D (chN f g D (onS f g D L) L) l 1) else if i = (c * 10 + l) * 2 then nI (paN f g L D (chN f g D (onS f g D L) L) l 0) else hI h1 (z + 4) i := fun i => by
            rw [e58, hI_sI]
            by_cases x : i = (c * 10 + l) * 2 + 1
            · rw [if_pos ⟨rfl, x⟩, if_pos x]
            · rw [if_neg (fun w => x w.2), if_neg x, e55, hI_sI]
              by_cases x2 : i = (c * 10 + l) * 2
              · rw [if_pos ⟨rfl, x2⟩, if_pos x2]
              · rw [if_neg (fun w => x2 w.2), if_neg x2, e38, hI_sI, if_neg (by omega)]
          have i3 : ∀ j, hI h58 (z + 3) j = if j = c then nI (chN f g D (onS f g D L) l ||| 2 ^ l) else hI h1 (z + 3) j := fun j => by
            rw [e58, hI_sI, if_neg (by omega), e55, hI_sI, if_neg (by omega), e38, hI_sI]
            by_cases x : j = c
            · rw [if_pos ⟨rfl, x⟩, if_pos x]
            · rw [if_neg (fun w => x w.2), if_neg x]
          have i2 : hI h58 (z + 2) = hI h1 (z + 2) := by rw [e58, hI_sI_row (by omega), e55, hI_sI_row (by omega), e38, hI_sI_row (by omega)]
          refine r h58 (by omega) (Fr_trans fr (Fr_trans fr38 (by rw [e58, e55]; exact Fr_trans (Fr_sI (by omega)) (Fr_sI (by omega))))) (by rw [i2]; exact a2) (by rw [i3, if_pos rfl]) (fun i s hi hs => ?_) (fun i x1 x2 => ?_) (fun j hj => ⟨by rw [i2]; exact (a6 j hj).1, by rw [i3, if_neg hj]; exact (a6 j hj).2⟩) (fun i hi => ?_)
          · rw [i4]
            by_cases q : i = l
            · subst q
              rcases (show s = 0 ∨ s = 1 by omega) with q | q <;> subst q
              · rw [if_neg (by omega), if_pos (by omega)]
              · rw [if_pos rfl]
            · rw [if_neg (by omega), if_neg (by omega)]
              exact a4 i s (by omega) hs
          · rw [i4, if_neg (by omega), if_neg (by omega)]
            exact a5 i (by omega) x2
          · rw [i4, if_neg (by omega), if_neg (by omega)]
            exact a7 i hi
      · have b1 : bt D l = 1 := by omega
        rw [nI_mul, nI_add, nI_mul, nI_clamp (show (c * 10 + l) * 2 < 2 ^ 31 by omega), nI_shl l (by omega), nI_andn (by omega) (by omega)]
        refine ⟨vp_in_nI (by omega) (by omega), fun h65 e65 => ?_⟩
        have nc : ¬ (bt D l = 0 ∧ (enS f g l &&& onS f g D L) = enS f g l) := by omega
        rw [if_neg nc] at ec
        rw [ec] at r
        have pa := pa_on (f := f) (g := g) (L := L) (ch := chN f g D (onS f g D L) L) b1
        have so : D ^^^ (D &&& 2 ^ l) = dfN D (2 ^ l) := rfl
        rw [so, ← pa.1] at e65
        have i4 : ∀ i, hI h65 (z + 4) i = if i = (c * 10 + l) * 2 then nI (paN f g L D (chN f g D (onS f g D L) L) l 0) else hI h1 (z + 4) i := fun i => by
          rw [e65, hI_sI]
          by_cases x : i = (c * 10 + l) * 2
          · rw [if_pos ⟨rfl, x⟩, if_pos x]
          · rw [if_neg (fun w => x w.2), if_neg x]
        have i2 : hI h65 (z + 2) = hI h1 (z + 2) := by rw [e65, hI_sI_row (by omega)]
        have i3 : hI h65 (z + 3) = hI h1 (z + 3) := by rw [e65, hI_sI_row (by omega)]
        refine r h65 (by omega) (Fr_trans fr (by rw [e65]; exact Fr_sI (by omega))) (by rw [i2]; exact a2) (by rw [i3]; exact a3) (fun i s hi hs => ?_) (fun i x1 x2 => ?_) (fun j hj => by rw [i2, i3]; exact a6 j hj) (fun i hi => ?_)
        · rw [i4]
          by_cases q : i = l
          · subst q
            rcases (show s = 0 ∨ s = 1 by omega) with q | q <;> subst q
            · rw [if_pos (by omega)]
            · rw [if_neg (by omega), pa.2, a5 _ (by omega) (by omega)]
              exact nI_0.symm
          · rw [if_neg (by omega)]
            exact a4 i s (by omega) hs
        · rw [i4, if_neg (by omega)]
          exact a5 i (by omega) x2
        · rw [i4, if_neg (by omega)]
          exact a7 i hi
  have nodes : ∀ n i h1, i + n = K → Fr (fun b => z + 2 ≤ b ∧ b ≤ z + 4) h h1 → (∀ b, b ≠ z + 2 → hI h1 b = hI h b) → hI h1 (z + 2) c = nI (ndK f g L D i) → (∀ j, j ≠ c → hI h1 (z + 2) j = hI h (z + 2) j) → wX4_lookAround_13 Q (n + 1) a (nI c) (nI (pkN f g D L)) (nI i) h1 := by
    intro n
    induction n with
    | zero =>
      intro i h1 hn fr o a2 a3
      have hn : i = K := by omega
      have pz := NZ_keep p (Fr_mono (fun b hb => by omega) fr)
      obtain ⟨⟨g1, g2, g3, g4⟩, pz2⟩ := pz
      unfold wX4_lookAround_13
      rw [g2, hn]
      refine ⟨g1, fun _ => ⟨_, loop L 0 h1 (by omega) fr ?_ ?_ (fun i s hi => absurd hi (by omega)) (fun i x1 x2 => ?_) (fun j hj => ⟨a3 j hj, by rw [o _ (by omega)]⟩) (fun i _ => by rw [o _ (by omega)])⟩, fun y => absurd (nI_le (Nat.le_refl _) (by omega)) y⟩
      · rw [a2, hn, ndK_on k hK h8]
      · rw [o _ (by omega), e3]; exact nI_0.symm
      · rw [o _ (by omega)]; exact e4 i (by omega) x2
    | succ n ih =>
      intro i h1 hn fr o a2 a3
      have pz := NZ_keep p (Fr_mono (fun b hb => by omega) fr)
      obtain ⟨⟨g1, g2, g3, g4⟩, z2, z3, z4, z5, z6, z7, z8, z9, z10, z11⟩ := pz
      have nl : ndK f g L D i < 2 ^ 8 := Nat.lt_of_lt_of_le (ndK_lt i) (Nat.pow_le_pow_right (by omega) (by omega))
      have pi := pow_le8 (show i < 8 by omega)
      have dl : pkN f g D L / 2 ^ (4 * i) ≤ pkN f g D L := Nat.div_le_self _ _
      have dm : pkN f g D L / 2 ^ (4 * i) % 2 ^ 4 = dg f g D i L := by
        rw [Nat.pow_mul]
        exact pk.2.1 i (by omega)
      have dt := two i
      have en : ndK f g L D (i + 1) = if dg f g D i L = 0 then ndK f g L D i else ndK f g L D i ||| 2 ^ i := rfl
      unfold wX4_lookAround_13
      rw [g2, nI_add i 1, nI_clamp (show c < 2 ^ 31 by omega), nI_mul, pk_shrN pk31 _ (4 * i) (sh31 _ (by omega)), pk_andN (by omega) 4 (by decide), dm, nI_shl i (by omega)]
      refine ⟨g1, fun y => absurd y (nI_ge (by omega) (by omega)), fun _ => ⟨z + 2, z4, C, z8, vp_in_nI (by omega) (by omega), vp_in_nI (by omega) (by omega), fun h74 e74 => ?_⟩⟩
      have ev : h74 = sI h1 (z + 2) c (nI (ndK f g L D (i + 1))) := by
        rw [e74, a2, en]
        by_cases x : dg f g D i L = 0
        · rw [if_pos ((nI_eq0 (by omega)).mpr x), if_pos x, nI_or (by omega) (by omega), Nat.or_zero]
        · rw [if_neg (fun w => x ((nI_eq0 (by omega)).mp w)), if_neg x, nI_or (by omega) (by omega)]
      refine ih (i + 1) h74 (by omega) (Fr_trans fr (by rw [ev]; exact Fr_sI (by omega))) (fun b hb => by rw [ev, hI_sI_row hb]; exact o b hb) (by rw [ev, hI_sI, if_pos ⟨rfl, rfl⟩]) (fun j hj => by rw [ev, hI_sI, if_neg (fun w => hj w.2)]; exact a3 j hj)
  obtain ⟨ng, z2, z3, z4, z5, z6, z7, z8, z9, z10, z11⟩ := id p
  unfold wX4_lookAround
  rw [nI_clamp (show c < 2 ^ 31 by omega)]
  refine ⟨ng.1, z + 1, z3, C, z7, vp_in_nI (by omega) (by omega), ?_⟩
  rw [eD]
  exact n_ends k ng hD1 ⟨_, nodes K 0 h (by omega) (Fr_rfl _ _) (fun _ _ => rfl) (by rw [e2]; exact nI_0.symm) (fun _ _ => rfl)⟩
end LA
