/-! Part b8: the class finds all rings. -/
theorem bc7 : ∀ D, D < 7 → bcN D 10 < 3 := by decide
theorem nS_7 {f g : Nat → Nat} {L : Nat} : ∀ k, k ≤ 7 → nS (cyB f g L) k = 0
  | 0, _ => rfl
  | k + 1, h => by
    show nS (cyB f g L) k + (if cyB f g L k = true then 1 else 0) = 0
    have : ¬ cyB f g L k = true := fun z => by
      have := (cyB_def.mp z).1
      have := bc7 k (by omega)
      omega
    rw [nS_7 k (by omega), if_neg this]
/-- the rows of rings, settled -/
def ZR (h : MH) (z L C : Nat) (f g : Nat → Nat) (c : Nat) : Prop := hI h (z + 1) c = nI (atN (cyB f g L) (2 ^ L) c) ∧ hI h (z + 2) c = nI (onS f g (atN (cyB f g L) (2 ^ L) c) L) ∧ hI h (z + 3) c = nI (chN f g (atN (cyB f g L) (2 ^ L) c) (onS f g (atN (cyB f g L) (2 ^ L) c) L) L) ∧ ∀ l s, l < L → s < 2 → hI h (z + 4) ((c * 10 + l) * 2 + s) = nI (paN f g L (atN (cyB f g L) (2 ^ L) c) (chN f g (atN (cyB f g L) (2 ^ L) c) (onS f g (atN (cyB f g L) (2 ^ L) c) L) L) l s)
/-- what is not touched -/
def FZ (a z : Nat) (h h1 : MH) : Prop := hN h1 = z + 5 ∧ hL h1 = hL h ∧ (∀ b, b < z → hS h1 b = hS h b) ∧ (∀ b, b < z → b ≠ a → hI h1 b = hI h b ∧ hR h1 b = hR h b) ∧ (∀ k, k ≠ 10 → hI h1 a k = hI h a k) ∧ ∀ k, k < 11 → hR h1 a k = hR h a k
section FD
variable {a K L : Nat} {f g : Nat → Nat}
theorem n_rings {Q : MH → Prop} {B : MH} {z C : Nat} (k : Lk f g L) (hK : ∀ l, l < L → f l < K ∧ g l < K) (h8 : K ≤ 8) (pB : NZ B a z K L C f g) (hC : C ≤ 40) (eC : C = nS (cyB f g L) (2 ^ L)) (sz : hS B z = (2, 40)) (fo : ∀ c, c < C → hI B z c = nI (atN (cyB f g L) (2 ^ L) c)) (ze : ∀ b j, z + 1 ≤ b → hI B b j = 0) (hq : ∀ h1, Fr (fun b => z + 1 ≤ b ∧ b ≤ z + 4) B h1 → (∀ c, c < C → ZR h1 z L C f g c) → Q h1) (bb tt : Nat) : ∃ m, wX4_findCycles_105 Q m bb tt a z (nI 0) B := by
  have lp : ∀ n c h1, c + n = C → Fr (fun b => z + 1 ≤ b ∧ b ≤ z + 4) B h1 → (∀ d, d < c → ZR h1 z L C f g d) → (∀ d, c ≤ d → hI h1 (z + 2) d = 0 ∧ hI h1 (z + 3) d = 0) → (∀ i, 20 * c ≤ i → hI h1 (z + 4) i = 0) → wX4_findCycles_105 Q (n + 1) bb tt a z (nI c) h1 := by
    intro n
    induction n with
    | zero =>
      intro c h1 hn fr zr z2 z4
      have hn : c = C := by omega
      have p := NZ_keep pB fr
      unfold wX4_findCycles_105
      rw [p.2.1, hn]
      rw [hn] at zr
      exact ⟨p.1.1, fun _ => hq h1 fr zr, fun y => absurd (nI_le (Nat.le_refl _) (by omega)) y⟩
    | succ n ih =>
      intro c h1 hn fr zr z2 z4
      have p := NZ_keep pB fr
      obtain ⟨ng, q2, q3, q4, q5, q6, q7, q8, q9, q10, q11⟩ := id p
      have cy := at_ok (p := cyB f g L) (k := 2 ^ L) (c := c) (by omega)
      have two := ((cyB_iff k cy.1).mp cy.2.1).2.1
      unfold wX4_findCycles_105
      rw [q2, nI_add c 1, nI_clamp (show c < 2 ^ 31 by omega)]
      refine ⟨ng.1, fun y => absurd y (nI_ge (by omega) (by omega)), fun _ => ⟨z + 1, q3, 40, ?_, vp_in_nI (by omega) (by omega), C, q7, vp_in_nI (by omega) (by omega), fun h47 e47 => ?_⟩⟩
      · rw [fr.2.1]; exact sz
      · rw [fr.2.2.2.2 z (by omega), fo c (by omega)] at e47
        have f47 : Fr (fun b => z + 1 ≤ b ∧ b ≤ z + 4) h1 h47 := by rw [e47]; exact Fr_sI (by omega)
        have i47 : ∀ b, b ≠ z + 1 → hI h47 b = hI h1 b := fun b hb => by rw [e47, hI_sI_row hb]
        refine n_look k hK h8 (NZ_keep p f47) hC (c := c) (D := atN (cyB f g L) (2 ^ L) c) (by omega) cy.1 two (by rw [e47, hI_sI, if_pos ⟨rfl, rfl⟩]) (by rw [i47 _ (by omega)]; exact (z2 c (Nat.le_refl _)).1) (by rw [i47 _ (by omega)]; exact (z2 c (Nat.le_refl _)).2) (fun i x1 _ => by rw [i47 _ (by omega)]; exact z4 i x1) (fun h2 fr2 b2 b3 b4 b5 b6 => ?_)
        have i2 : hI h2 (z + 1) = hI h47 (z + 1) := fr2.2.2.2.2 _ (by omega)
        refine ih (c + 1) h2 (by omega) (Fr_trans fr (Fr_trans f47 (Fr_mono (fun b hb => by omega) fr2))) (fun d hd => ?_) (fun d hd => ?_) (fun i hi => ?_)
        · by_cases q : d = c
          · subst q
            refine ⟨?_, b2, b3, b4⟩
            rw [i2, e47, hI_sI, if_pos ⟨rfl, rfl⟩]
          · obtain ⟨d1, d2, d3, d4⟩ := zr d (by omega)
            refine ⟨?_, ?_, ?_, fun l s hl hs => ?_⟩
            · rw [i2, e47, hI_sI, if_neg (fun w => q w.2)]; exact d1
            · rw [(b5 d q).1, i47 _ (by omega)]; exact d2
            · rw [(b5 d q).2, i47 _ (by omega)]; exact d3
            · have hL := k.1
              rw [b6 _ (by omega), i47 _ (by omega)]; exact d4 l s hl hs
        · rw [(b5 d (by omega)).1, (b5 d (by omega)).2, i47 _ (by omega), i47 _ (by omega)]
          exact z2 d (by omega)
        · rw [b6 i (by omega), i47 _ (by omega)]
          exact z4 i (by omega)
  exact ⟨_, lp C 0 B (by omega) (Fr_rfl _ _) (fun d hd => absurd hd (by omega)) (fun d _ => ⟨ze _ _ (by omega), ze _ _ (by omega)⟩) (fun i _ => ze _ _ (by omega))⟩
theorem n_find {Q : MH → Prop} {h : MH} (k : Lk f g L) (sm : Sm f g L) (hK : ∀ l, l < L → f l < K ∧ g l < K) (h8 : K ≤ 8) (p : NGr h a K L f g) (e10 : hI h a 10 = 0) (ha : a + 11 ≤ hN h) (zh : Zh h) (hq : ∀ h1, FZ a (hN h) h h1 → NZ h1 a (hN h) K L (nS (cyB f g L) (2 ^ L)) f g → (∀ c, c < nS (cyB f g L) (2 ^ L) → ZR h1 (hN h) L (nS (cyB f g L) (2 ^ L)) f g c) → Q h1) : wX4_findCycles 5 960 a h Q := by
  have hL10 := k.1
  have C40 := forty k sm
  have p2L : 2 ^ L ≤ 2 ^ 10 := Nat.pow_le_pow_right (by omega) hL10
  have mono : ∀ D, D ≤ 2 ^ L → nS (cyB f g L) D ≤ nS (cyB f g L) (2 ^ L) := fun D hD => by
    have := nS_mono (p := cyB f g L) (2 ^ L - D) D
    rw [show D + (2 ^ L - D) = 2 ^ L from by omega] at this
    exact this
  refine ⟨by omega, by omega, fun z ez h2 e2 => ?_⟩
  have s2 : ∀ b, b < z → hS h2 b = hS h b := fun b hb => by rw [e2, hS_al, if_neg (by omega)]
  have sz : hS h2 z = (2, 40) := by rw [e2, hS_al, if_pos ez]
  have n2 : hN h2 = z + 1 := by rw [e2, hN_al, ez]
  have i2 : ∀ b, hI h2 b = hI h b := fun b => by rw [e2]; funext j; exact hI_al _ _ _ _
  have r2 : ∀ b, hR h2 b = hR h b := fun b => by rw [e2]; funext j; exact hR_al _ _ _ _
  have l2 : hL h2 = hL h := by rw [e2]; rfl
  have p2 : NGr h2 a K L f g := by
    obtain ⟨p1, p2, p3, p4, p5, p6, p7, p8⟩ := p
    exact ⟨by rw [s2 _ (by omega)]; exact p1, by rw [i2]; exact p2, by rw [i2]; exact p3, by rw [r2]; exact p4, by rw [s2 _ (by omega)]; exact p5, by rw [r2]; exact p6, by rw [s2 _ (by omega)]; exact p7, fun l hl => by rw [i2, i2]; exact p8 l hl⟩
  have loop : ∀ n D h1, D + n = max (2 ^ L) 7 → 7 ≤ D → Fr (fun b => b = a ∨ b = z) h2 h1 → (∀ j, j ≠ 10 → hI h1 a j = hI h2 a j) → hI h1 a 10 = nI (nS (cyB f g L) D) → (∀ c, c < nS (cyB f g L) D → hI h1 z c = nI (atN (cyB f g L) (2 ^ L) c)) → wX4_findCycles_8 Q (n + 1) 4 920 a z (nI D) h1 := by
    intro n
    induction n with
    | zero =>
      intro D h1 hn h7 fr ea e10 fo
      have q := NGr_keep p2 fr.2.1 fr.2.2.2.1 (ea 0 (by omega)) (ea 3 (by omega)) (fr.2.2.2.2 _ (by omega)) (fr.2.2.2.2 _ (by omega))
      have eC : nS (cyB f g L) D = nS (cyB f g L) (2 ^ L) := by
        by_cases w : 2 ^ L ≤ 7
        · rw [nS_7 _ w, show D = 7 from by omega, nS_7 7 (Nat.le_refl _)]
        · rw [show D = 2 ^ L from by omega]
      rw [eC] at e10 fo
      have c1 : (nI (nS (cyB f g L) (2 ^ L))).toNatClampNeg = nS (cyB f g L) (2 ^ L) := nI_clamp (by omega)
      unfold wX4_findCycles_8
      rw [q.2.2.1, nI_shl L (by omega)]
      refine ⟨q.1, fun _ => ?_, fun y => absurd (nI_le (by omega) (by omega)) y⟩
      rw [e10, c1]
      refine ⟨nI_nn (by omega), by omega, by omega, by omega, fun a6 ea6 h7 e7 => ⟨?_, fun h13 e13 => ?_⟩⟩
      · rw [e7, hS_al, if_neg (by rw [fr.1]; omega)]; exact q.1
      have i13 : ∀ b, hI h13 b = hI h1 b := fun b => by rw [e13, e7]; rfl
      have n1 : hN h1 = z + 1 := fr.1.trans n2
      have e10b : hI h13 a 10 = nI (nS (cyB f g L) (2 ^ L)) := by rw [i13]; exact e10
      have nn13 : hN h13 = z + 2 := by rw [e13, hN_sR, e7, hN_al, n1]
      have s13 : ∀ b, b < z + 1 → hS h13 b = hS h1 b := fun b hb => by rw [e13, hS_sR, e7, hS_al, if_neg (by omega)]
      have s13a : hS h13 (z + 1) = (2, nS (cyB f g L) (2 ^ L)) := by rw [e13, hS_sR, e7, hS_al, if_pos (by omega)]
      rw [e10b, c1]
      refine ⟨nI_nn (by omega), by omega, by omega, by omega, fun a14 ea14 h15 e15 => ⟨?_, fun h21 e21 => ?_⟩⟩
      · rw [e15, hS_al, if_neg (by omega), s13 _ (by omega)]; exact q.1
      have i21 : ∀ b, hI h21 b = hI h1 b := fun b => by rw [e21, e15]; exact i13 b
      have e10c : hI h21 a 10 = nI (nS (cyB f g L) (2 ^ L)) := by rw [i21]; exact e10
      have nn21 : hN h21 = z + 3 := by rw [e21, hN_sR, e15, hN_al, nn13]
      have s21 : ∀ b, b < z + 2 → hS h21 b = hS h13 b := fun b hb => by rw [e21, hS_sR, e15, hS_al, if_neg (by omega)]
      have s21a : hS h21 (z + 2) = (2, nS (cyB f g L) (2 ^ L)) := by rw [e21, hS_sR, e15, hS_al, if_pos (by omega)]
      rw [e10c, c1]
      refine ⟨nI_nn (by omega), by omega, by omega, by omega, fun a22 ea22 h23 e23 => ⟨?_, fun h29 e29 => ?_⟩⟩
      · rw [e23, hS_al, if_neg (by omega), s21 _ (by omega), s13 _ (by omega)]; exact q.1
      have i29 : ∀ b, hI h29 b = hI h1 b := fun b => by rw [e29, e23]; exact i21 b
      have e10d : hI h29 a 10 = nI (nS (cyB f g L) (2 ^ L)) := by rw [i29]; exact e10
      have nn29 : hN h29 = z + 4 := by rw [e29, hN_sR, e23, hN_al, nn21]
      have s29 : ∀ b, b < z + 3 → hS h29 b = hS h21 b := fun b hb => by rw [e29, hS_sR, e23, hS_al, if_neg (by omega)]
      have s29a : hS h29 (z + 3) = (2, nS (cyB f g L) (2 ^ L)) := by rw [e29, hS_sR, e23, hS_al, if_pos (by omega)]
      rw [e10d, nI_mul, nI_mul, nI_clamp (show nS (cyB f g L) (2 ^ L) * 10 * 2 < 2 ^ 31 by omega)]
      refine ⟨nI_nn (by omega), by omega, by omega, by omega, fun a30 ea30 h31 e31 => ⟨?_, fun h37 e37 => ?_⟩⟩
      · rw [e31, hS_al, if_neg (by omega), s29 _ (by omega), s21 _ (by omega), s13 _ (by omega)]; exact q.1
      have i37 : ∀ b, hI h37 b = hI h1 b := fun b => by rw [e37, e31]; exact i29 b
      have nn37 : hN h37 = z + 5 := by rw [e37, hN_sR, e31, hN_al, nn29]
      have s37 : ∀ b, b < z + 4 → hS h37 b = hS h29 b := fun b hb => by rw [e37, hS_sR, e31, hS_al, if_neg (by omega)]
      have s37a : hS h37 (z + 4) = (2, nS (cyB f g L) (2 ^ L) * 10 * 2) := by rw [e37, hS_sR, e31, hS_al, if_pos (by omega)]
      have hr : ∀ b j, hR h37 b j = if b = a ∧ j = 14 then some (z + 4) else if b = a ∧ j = 13 then some (z + 3) else if b = a ∧ j = 12 then some (z + 2) else if b = a ∧ j = 11 then some (z + 1) else hR h1 b j := fun b j => by
        rw [e37, hR_sR, e31, hR_al, e29, hR_sR, e23, hR_al, e21, hR_sR, e15, hR_al, e13, hR_sR, e7, hR_al]
        rw [show a30 = z + 4 from by omega, show a22 = z + 3 from by omega, show a14 = z + 2 from by omega, show a6 = z + 1 from by omega]
      have sB : ∀ b, b < z + 1 → hS h37 b = hS h2 b := fun b hb => by rw [s37 _ (by omega), s29 _ (by omega), s21 _ (by omega), s13 _ (by omega), fr.2.1]
      have hl37 : hL h37 = hL h2 := by rw [e37, e31, e29, e23, e21, e15, e13, e7]; exact fr.2.2.1
      have pB : NZ h37 a z K L (nS (cyB f g L) (2 ^ L)) f g := by
        obtain ⟨q1, q2, q3, q4, q5, q6, q7, q8⟩ := p2
        refine ⟨⟨?_, ?_, ?_, ?_, ?_, ?_, ?_, fun l hl => ?_⟩, ?_, ?_, ?_, ?_, ?_, ?_, ?_, ?_, ?_, by omega⟩
        · rw [sB _ (by omega)]; exact q1
        · rw [i37, ea 0 (by omega)]; exact q2
        · rw [i37, ea 3 (by omega)]; exact q3
        · rw [hr, if_neg (by omega), if_neg (by omega), if_neg (by omega), if_neg (by omega), fr.2.2.2.1]; exact q4
        · rw [sB _ (by omega)]; exact q5
        · rw [hr, if_neg (by omega), if_neg (by omega), if_neg (by omega), if_neg (by omega), fr.2.2.2.1]; exact q6
        · rw [sB _ (by omega)]; exact q7
        · rw [i37, i37, fr.2.2.2.2 _ (by omega), fr.2.2.2.2 _ (by omega)]; exact q8 l hl
        · rw [i37]; exact e10
        · rw [hr, if_neg (by omega), if_neg (by omega), if_neg (by omega), if_pos ⟨rfl, rfl⟩]
        · rw [hr, if_neg (by omega), if_neg (by omega), if_pos ⟨rfl, rfl⟩]
        · rw [hr, if_neg (by omega), if_pos ⟨rfl, rfl⟩]
        · rw [hr, if_pos ⟨rfl, rfl⟩]
        · rw [s37 _ (by omega), s29 _ (by omega), s21 _ (by omega)]; exact s13a
        · rw [s37 _ (by omega), s29 _ (by omega)]; exact s21a
        · rw [s37 _ (by omega)]; exact s29a
        · rw [s37a, show nS (cyB f g L) (2 ^ L) * 10 * 2 = 20 * nS (cyB f g L) (2 ^ L) from by omega]
      refine n_rings (Q := Q) k hK h8 pB C40 rfl (by rw [sB _ (by omega)]; exact sz) (fun c hc => by rw [i37]; exact fo c hc) (fun b j hb => by rw [i37, fr.2.2.2.2 _ (by omega), i2]; exact (zh b j (by omega)).1) (fun h9 fr9 zr => hq h9 ?_ (by rw [← ez]; exact NZ_keep pB fr9) (by rw [← ez]; exact zr)) _ _
      · rw [← ez]
        refine ⟨by rw [fr9.1, nn37], by rw [fr9.2.2.1, hl37, l2], fun b hb => by rw [fr9.2.1, sB _ (by omega), s2 _ hb], fun b hb hba => ⟨?_, ?_⟩, fun j hj => ?_, fun j hj => ?_⟩
        · rw [fr9.2.2.2.2 _ (by omega), i37, fr.2.2.2.2 _ (by omega), i2]
        · rw [fr9.2.2.2.1]
          funext j
          rw [hr, if_neg (by omega), if_neg (by omega), if_neg (by omega), if_neg (by omega), fr.2.2.2.1, r2]
        · rw [fr9.2.2.2.2 _ (by omega), i37, ea j hj, i2]
        · rw [fr9.2.2.2.1, hr, if_neg (by omega), if_neg (by omega), if_neg (by omega), if_neg (by omega), fr.2.2.2.1, r2]
    | succ n ih =>
      intro D h1 hn h7 fr ea e10 fo
      have hD : D < 2 ^ L := by omega
      have q := NGr_keep p2 fr.2.1 fr.2.2.2.1 (ea 0 (by omega)) (ea 3 (by omega)) (fr.2.2.2.2 _ (by omega)) (fr.2.2.2.2 _ (by omega))
      have es : nS (cyB f g L) (D + 1) = nS (cyB f g L) D + (if cyB f g L D = true then 1 else 0) := rfl
      have m1 := mono (D + 1) (by omega)
      have r := ih (D + 1)
      unfold wX4_findCycles_8
      rw [q.2.2.1, nI_shl L (by omega), nI_add D 1]
      refine ⟨q.1, fun y => absurd y (nI_ge (by omega) (by omega)), fun _ => ?_⟩
      rw [e10]
      have no : ¬ cyB f g L D = true → wX4_findCycles_8 Q (n + 1) 4 920 a z (nI (D + 1)) h1 := fun w => by
        rw [if_neg w, Nat.add_zero] at es
        rw [es] at r
        exact r h1 (by omega) (by omega) fr ea e10 fo
      refine ⟨fun y => no (fun w => ?_), fun y => n_isCycle k q hD ⟨fun w => no (fun x => ?_), fun w => ?_⟩⟩
      · rw [if_pos w] at es
        have : 40 ≤ nS (cyB f g L) D := Nat.le_of_not_lt (fun x => absurd y (nI_ge x (by omega)))
        omega
      · rw [if_pos x] at w
        exact absurd w (by decide)
      · have x : cyB f g L D = true := by
          by_cases x : cyB f g L D = true
          · exact x
          · rw [if_neg x] at w; exact absurd nI_0 w
        rw [if_pos x] at es
        rw [es] at r m1
        rw [e10, nI_clamp (show nS (cyB f g L) D < 2 ^ 31 by omega)]
        refine ⟨q.1, 40, by rw [fr.2.1]; exact sz, vp_in_nI (by omega) (by omega), fun h57 e57 h58 e58 => ?_⟩
        have e10b : hI h57 a 10 = nI (nS (cyB f g L) D) := by rw [e57, hI_sI, if_neg (by omega)]; exact e10
        rw [e10b, nI_add] at e58
        refine r h58 (by omega) (by omega) (Fr_trans fr (by rw [e58, e57]; exact Fr_trans (Fr_sI (Or.inr rfl)) (Fr_sI (Or.inl rfl)))) (fun j hj => ?_) ?_ (fun c hc => ?_)
        · rw [e58, hI_sI, if_neg (fun w => hj w.2), e57, hI_sI, if_neg (by omega)]; exact ea j hj
        · rw [e58, hI_sI, if_pos ⟨rfl, rfl⟩]
        · rw [e58, hI_sI, if_neg (by omega), e57, hI_sI]
          by_cases w2 : c = nS (cyB f g L) D
          · rw [if_pos ⟨rfl, w2⟩, w2, at_D x _ hD]
          · rw [if_neg (fun y => w2 y.2)]; exact fo c (by omega)
  have m7 := nS_7 (f := f) (g := g) (L := L) 7 (Nat.le_refl _)
  exact ⟨_, loop (max (2 ^ L) 7 - 7) 7 h2 (by omega) (by omega) (Fr_rfl _ _) (fun _ _ => rfl) (by rw [i2, e10, m7]; exact nI_0.symm) (fun c hc => absurd hc (by omega))⟩
end FD
