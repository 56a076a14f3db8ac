/-! Part b9: the class settles a net. -/
theorem lN_or {a b : Nat} (ha : a < 2 ^ 63) (hb : b < 2 ^ 63) : lN a ||| lN b = lN (a ||| b) := by
  apply Int64.toBitVec_inj.mp
  apply BitVec.eq_of_toNat_eq
  rw [Int64.toBitVec_or, BitVec.toNat_or, lN_toNat ha, lN_toNat hb, lN_toNat (Nat.or_lt_two_pow ha hb)]
theorem l_one : ∀ c, c < 40 → ((1 : Int64) <<< ((nI c).toInt64 &&& 63)) = lN (2 ^ c) := by decide
theorem n_tell {Q : MH → Prop} {h : MH} {x1 x2 x3 x4 x5 : Int32} (hl : LX h) (hq : ∀ h2, Fr (fun b => b = 133) h h2 → hI h2 133 0 = x1 → hI h2 133 1 = x2 → hI h2 133 2 = x3 → hI h2 133 3 = x4 → hI h2 133 4 = x5 → Q h2) : wX3_tell 131 x1 x2 x3 x4 x5 h Q := by
  unfold wX3_tell
  rw [nI_clamp (by omega), nI_clamp (by omega), nI_clamp (by omega), nI_clamp (by omega), nI_clamp (by omega)]
  refine ⟨S_131 hl, 133, R_131_6 hl, 5, S_133 hl, vp_in_nI (by omega) (by omega), fun h7 e7 => ⟨vp_in_nI (by omega) (by omega), fun h9 e9 => ⟨vp_in_nI (by omega) (by omega), fun h11 e11 => ⟨vp_in_nI (by omega) (by omega), fun h13 e13 => ⟨vp_in_nI (by omega) (by omega), fun h15 e15 => ?_⟩⟩⟩⟩⟩
  refine hq h15 (by rw [e15, e13, e11, e9, e7]; exact Fr_trans (Fr_trans (Fr_trans (Fr_trans (Fr_sI rfl) (Fr_sI rfl)) (Fr_sI rfl)) (Fr_sI rfl)) (Fr_sI rfl)) ?_ ?_ ?_ ?_ ?_
  · rw [e15, hI_sI, if_neg (by omega), e13, hI_sI, if_neg (by omega), e11, hI_sI, if_neg (by omega), e9, hI_sI, if_neg (by omega), e7, hI_sI, if_pos ⟨rfl, rfl⟩]
  · rw [e15, hI_sI, if_neg (by omega), e13, hI_sI, if_neg (by omega), e11, hI_sI, if_neg (by omega), e9, hI_sI, if_pos ⟨rfl, rfl⟩]
  · rw [e15, hI_sI, if_neg (by omega), e13, hI_sI, if_neg (by omega), e11, hI_sI, if_pos ⟨rfl, rfl⟩]
  · rw [e15, hI_sI, if_neg (by omega), e13, hI_sI, if_pos ⟨rfl, rfl⟩]
  · rw [e15, hI_sI, if_pos ⟨rfl, rfl⟩]
section LAWS
variable {Q : Int32 → MH → Prop} {h : MH} {v : TN} {cs : CD}
theorem n_law {w : Nat → Int32} {m : Nat} (hl : LX h) (h900 : cs.1 ≤ 900) (cd : CdC h cs) (ok : LwO cs.2 cs.1 m (tnB v m) (tnE v m)) (hb : tnB v m ≠ tnE v m) (td : TdC (hI h 133) w m) (hq : ∀ g, Fr (fun b => b = 134) h g → Q (lwV w cs.2 (tnB v m) (tnE v m)) g) : wX3_workOut 131 (nI (tnB v m)) (nI (tnE v m)) h Q := by
  obtain ⟨o1, o2, o3⟩ := LwO_v ok hb
  exact ⟨_, n_work (f := cs.2) (m := m) hl (by omega) (fun j _ hj => cd.2 j (by omega)) td hq (tnE v m - tnB v m) (tnB v m) [] h (Nat.le_refl _) (by omega) (by show 0 ≤ 64; omega) (Fr_rfl _ _) trivial (o3 w).1⟩
theorem n_cost {r l : Nat} (hl : LX h) (h900 : cs.1 ≤ 900) (cd : CdC h cs) (lw : LwC h v) (ok : LwO cs.2 cs.1 0 (tnB v 0) (tnE v 0)) (td : TdC (hI h 133) (wLk v r l) 0) (hq : ∀ g, Fr (fun b => b = 134) h g → Q (nI (prC v cs r l)) g) : wX3_linkCost 131 (nI (tnO v l)) h Q := by
  unfold wX3_linkCost
  rw [lw.1, lw.2.1]
  unfold prC at hq
  by_cases z : tnB v 0 = tnE v 0
  · rw [if_pos z] at hq
    rw [z]
    exact ⟨S_131 hl, fun y => absurd rfl y, fun _ => hq h (Fr_rfl _ _)⟩
  · rw [if_neg z] at hq
    have o := LwO_v ok z
    refine ⟨S_131 hl, fun _ => n_law hl h900 cd ok z td (fun g fr => ?_), fun y => absurd ((nI_eq (by omega) (by omega)).mp y) z⟩
    have := (clN_ok (lwV (wLk v r l) cs.2 (tnB v 0) (tnE v 0))).2.2.2
    rw [this]
    exact hq g fr
theorem n_may {r D ch : Nat} (hl : LX h) (h900 : cs.1 ≤ 900) (cd : CdC h cs) (lw : LwC h v) (ok : LwO cs.2 cs.1 1 (tnB v 1) (tnE v 1)) (td : TdC (hI h 133) (wRg v r D ch) 1) (hq : ∀ g, Fr (fun b => b = 134) h g → Q (if mbC v cs r D ch = true then nI 1 else nI 0) g) : wX3_mayBe 131 h Q := by
  unfold wX3_mayBe
  rw [lw.2.2.1, lw.2.2.2]
  by_cases z : tnB v 1 = tnE v 1
  · have e : mbC v cs r D ch = true := by
      unfold mbC
      rw [decide_eq_true z, Bool.true_or]
    rw [if_pos e] at hq
    rw [z]
    exact ⟨S_131 hl, fun _ => hq h (Fr_rfl _ _), fun y => absurd rfl y⟩
  · have o := LwO_v ok z
    refine ⟨S_131 hl, fun y => absurd ((nI_eq (by omega) (by omega)).mp y) z, fun _ => n_law hl h900 cd ok z td (fun g fr => ?_)⟩
    have b := (o.2.2 (wRg v r D ch)).2 (by omega)
    have e : mbC v cs r D ch = true ↔ lwV (wRg v r D ch) cs.2 (tnB v 1) (tnE v 1) = nI 1 := by
      unfold mbC
      rw [Bool.or_eq_true, decide_eq_true_iff, decide_eq_true_iff]
      exact ⟨fun x => x.resolve_left z, fun x => Or.inr x⟩
    have hq := hq g fr
    rcases b with b | b
    · rw [b, if_pos nI_0]
      rw [if_neg (fun x => absurd (b.symm.trans (e.mp x)) (by decide))] at hq
      exact ⟨Or.inl nI_0, hq⟩
    · rw [b, if_neg (by decide)]
      rw [if_pos (e.mpr b)] at hq
      exact ⟨Or.inr (by decide), hq⟩
end LAWS
/-- what settling may change -/
def FrS (a : Nat) (B h : MH) : Prop := hN h = hN B ∧ hS h = hS B ∧ hR h = hR B ∧ (∀ b, b ≠ 133 → b ≠ 134 → b ≠ a + 5 → hI h b = hI B b) ∧ ∀ b, b ≠ a + 6 → hL h b = hL B b
theorem FrS_rfl (a : Nat) (B : MH) : FrS a B B := ⟨rfl, rfl, rfl, fun _ _ _ _ => rfl, fun _ _ => rfl⟩
theorem FrS_Fr {a : Nat} {B h h1 : MH} {S : Nat → Prop} (p : FrS a B h) (hS : ∀ b, S b → b = 133 ∨ b = 134 ∨ b = a + 5) (f : Fr S h h1) : FrS a B h1 := ⟨f.1.trans p.1, f.2.1.trans p.2.1, f.2.2.2.1.trans p.2.2.1, fun b b1 b2 b3 => (f.2.2.2.2 b (fun q => by have := hS b q; omega)).trans (p.2.2.2.1 b b1 b2 b3), fun b hb => by rw [f.2.2.1]; exact p.2.2.2.2 b hb⟩
/-- all that the settling rests on -/
def SB (B : MH) (a z : Nat) (v : TN) (cs : CD) : Prop := LX B ∧ CdC B cs ∧ LwC B v ∧ NZ B a z (tnK v) (tnL v) (ofC v) (tnF v) (tnT v) ∧ (∀ c, c < ofC v → ZR B z (tnL v) (ofC v) (tnF v) (tnT v) c) ∧ (hR B a 6 = some (a + 3) ∧ hR B a 7 = some (a + 4) ∧ hR B a 8 = some (a + 5) ∧ hR B a 9 = some (a + 6)) ∧ (hS B (a + 3) = (2, 10) ∧ hS B (a + 4) = (2, 10) ∧ hS B (a + 5) = (2, 100) ∧ hS B (a + 6) = (3, 10)) ∧ (∀ l, l < tnL v → hI B (a + 3) l = nI (tnO v l) ∧ hI B (a + 4) l = nI (tnW v l)) ∧ 244 ≤ a
section SET
variable {a z : Nat} {v : TN} {cs : CD}
theorem SB_keep {B h : MH} (p : SB B a z v cs) (f : FrS a B h) : SB h a z v cs := by
  obtain ⟨p1, p2, p3, p4, p5, p6, p7, p8, p9⟩ := p
  obtain ⟨f1, f2, f3, f4, f5⟩ := f
  have hz := p4.2.2.2.2.2.2.2.2.2.2
  have i : ∀ b, b ≠ 133 → b ≠ 134 → b ≠ a + 5 → hI h b = hI B b := f4
  refine ⟨?_, ?_, ?_, ?_, fun c hc => ?_, by rw [f3]; exact p6, by rw [f2]; exact p7, fun l hl => by rw [i _ (by omega) (by omega) (by omega), i _ (by omega) (by omega) (by omega)]; exact p8 l hl, p9⟩
  · unfold LX
    rw [f1, f2, f3]
    exact p1
  · unfold CdC
    rw [i _ (by omega) (by omega) (by omega), i _ (by omega) (by omega) (by omega)]
    exact p2
  · unfold LwC
    rw [i _ (by omega) (by omega) (by omega)]
    exact p3
  · obtain ⟨q1, q2, q3⟩ := p4
    refine ⟨NGr_keep q1 f2 f3 (by rw [i _ (by omega) (by omega) (by omega)]) (by rw [i _ (by omega) (by omega) (by omega)]) (i _ (by omega) (by omega) (by omega)) (i _ (by omega) (by omega) (by omega)), by rw [i _ (by omega) (by omega) (by omega)]; exact q2, ?_⟩
    rw [f2, f3]
    exact q3
  · have q := p5 c hc
    unfold ZR
    rw [i (z + 1) (by omega) (by omega) (by omega), i (z + 2) (by omega) (by omega) (by omega), i (z + 3) (by omega) (by omega) (by omega), i (z + 4) (by omega) (by omega) (by omega)]
    exact q
theorem n_settles {Q : MH → Prop} {B : MH} (ok : TnOK v cs) (h900 : cs.1 ≤ 900) (sb : SB B a z v cs) (z6 : ∀ r, hL B (a + 6) r = 0) (hq : ∀ h, FrS a B h → (∀ r l, r < 10 → l < tnL v → hI h (a + 5) (r * 10 + l) = nI (prC v cs r l)) → (∀ r, r < 10 → hL h (a + 6) r = lN (myN (fun c => mbC v cs r (ofOn v c) (ofCh v (ofOn v c))) (ofC v))) → Q h) (bb tt : Nat) : ∃ m, wX4_settle_6 Q m bb tt a 131 (nI 0) B := by
  have lk := ok.2.1
  have L10 := lk.1
  have C40 : ofC v ≤ 40 := forty lk ok.2.2.1
  have hz := sb.2.2.2.1.2.2.2.2.2.2.2.2.2.2
  have a244 := sb.2.2.2.2.2.2.2.2
  -- the rings by a rate
  have rings : ∀ (KK : Nat → Nat → Nat → Nat → Int32 → MH → Prop) (r : Nat), r < 10 → ∀ n c h, c + n = ofC v → FrS a B h → (∀ i, hI h (a + 5) i = hI h (a + 5) i) → hL h (a + 6) r = lN (myN (fun c => mbC v cs r (ofOn v c) (ofCh v (ofOn v c))) c) → (∀ g, FrS a B g → hI g (a + 5) = hI h (a + 5) → (∀ j, j ≠ r → hL g (a + 6) j = hL h (a + 6) j) → hL g (a + 6) r = lN (myN (fun c => mbC v cs r (ofOn v c) (ofCh v (ofOn v c))) (ofC v)) → KK bb tt a 131 (nI (r + 1)) g) → wX4_settle_80 Q KK (n + 1) bb tt a 131 (nI r) (nI c) h := by
    intro KK r hr n
    induction n with
    | zero =>
      intro c h hn fr _ e6 kk
      have hn : c = ofC v := by omega
      have s := SB_keep sb fr
      unfold wX4_settle_80
      rw [s.2.2.2.1.2.1, hn, nI_add r 1]
      rw [hn] at e6
      exact ⟨s.2.2.2.1.1.1, fun _ => kk h fr rfl (fun _ _ => rfl) e6, fun y => absurd (nI_le (Nat.le_refl _) (by omega)) y⟩
    | succ n ih =>
      intro c h hn fr _ e6 kk
      have s := SB_keep sb fr
      obtain ⟨s1, s2, s3, ⟨ng, y2, y3, y4, y5, y6, y7, y8, y9, y10, y11⟩, s5, s6, s7, s8, s9⟩ := id s
      have zr := s5 c (by omega)
      have cy := of_cyc ok (show c < ofC v by omega)
      have D1 := lt_of_pow cy.1 L10
      have ch1 : ofCh v (ofOn v c) < 1024 := lt_of_pow (chN_lt _ _ _ _ _) L10
      have eD : hI h (z + 1) c = nI (ofOn v c) := zr.1
      have eC : hI h (z + 3) c = nI (ofCh v (ofOn v c)) := zr.2.2.1
      have em : myN (fun c => mbC v cs r (ofOn v c) (ofCh v (ofOn v c))) (c + 1) = if mbC v cs r (ofOn v c) (ofCh v (ofOn v c)) = true then myN (fun c => mbC v cs r (ofOn v c) (ofCh v (ofOn v c))) c ||| 2 ^ c else myN (fun c => mbC v cs r (ofOn v c) (ofCh v (ofOn v c))) c := rfl
      have ml : myN (fun c => mbC v cs r (ofOn v c) (ofCh v (ofOn v c))) c < 2 ^ 63 := Nat.lt_of_lt_of_le (myN_lt c) (Nat.pow_le_pow_right (by omega) (by omega))
      have pl : 2 ^ c < 2 ^ 63 := Nat.pow_lt_pow_right (by omega) (by omega)
      have r1 := ih (c + 1)
      unfold wX4_settle_80
      rw [y2, nI_add c 1, nI_clamp (show c < 2 ^ 31 by omega), nI_clamp (show r < 2 ^ 31 by omega)]
      refine ⟨ng.1, fun y => absurd y (nI_ge (by omega) (by omega)), fun _ => ⟨z + 1, y3, ofC v, y7, vp_in_nI (by omega) (by omega), ?_⟩⟩
      rw [eD]
      refine u_bitCount D1 ⟨ng.1, a + 3, s6.1, z + 1, y3, ofC v, y7, vp_in_nI (by omega) (by omega), ?_⟩
      rw [eD]
      refine u_sumOf ng.1 L10 ng.2.2.1 s7.1 (fun l hl => (s8 l hl).1) (by omega) ⟨ng.1, a + 4, s6.2.1, z + 1, y3, ofC v, y7, vp_in_nI (by omega) (by omega), ?_⟩
      rw [eD]
      refine u_sumOf ng.1 L10 ng.2.2.1 s7.2.1 (fun l hl => (s8 l hl).2) (by omega) ⟨ng.1, z + 3, y5, ofC v, y9, vp_in_nI (by omega) (by omega), ?_⟩
      rw [eC]
      refine u_bitCount ch1 ⟨S_131 s1, n_tell s1 (fun g fg t0 t1 t2 t3 t4 => ?_)⟩
      have frg := FrS_Fr fr (fun b hb => Or.inl hb) fg
      have sg := SB_keep sb frg
      have lg : hL g (a + 6) r = lN (myN (fun c => mbC v cs r (ofOn v c) (ofCh v (ofOn v c))) c) := by rw [fg.2.2.1]; exact e6
      refine ⟨sg.2.2.2.1.1.1, a + 6, sg.2.2.2.2.2.1.2.2.2, 10, sg.2.2.2.2.2.2.1.2.2.2, vp_in_nI (by omega) (by omega), S_131 sg.1, n_may (r := r) (D := ofOn v c) (ch := ofCh v (ofOn v c)) sg.1 h900 sg.2.1 sg.2.2.1 (ok.2.2.2.2 1 (by omega)) ⟨fun k hk => ?_, fun y => absurd y (by omega), fun _ => ⟨t3, t4⟩⟩ (fun g2 fg2 => ?_)⟩
      · rcases (show k = 0 ∨ k = 1 ∨ k = 2 by omega) with q | q | q <;> subst q
        · exact t0
        · exact t1
        · exact t2
      · have frg2 := FrS_Fr frg (fun b hb => Or.inr (Or.inl hb)) fg2
        have sg2 := SB_keep sb frg2
        have i5 : hI g2 (a + 5) = hI h (a + 5) := by rw [fg2.2.2.2.2 _ (by omega), fg.2.2.2.2 _ (by omega)]
        have l5 : hL g2 = hL h := by rw [fg2.2.2.1, fg.2.2.1]
        have step : ∀ g3, g3 = sL g2 (a + 6) r (lN (myN (fun c => mbC v cs r (ofOn v c) (ofCh v (ofOn v c))) (c + 1))) → wX4_settle_80 Q KK (n + 1) bb tt a 131 (nI r) (nI (c + 1)) g3 := fun g3 e3 => by
          have fr3 : FrS a B g3 := by
            rw [e3]
            exact ⟨frg2.1, frg2.2.1, frg2.2.2.1, frg2.2.2.2.1, fun b hb => by
              funext j
              rw [hL_sL, if_neg (fun w => hb w.1)]
              exact congrFun (frg2.2.2.2.2 b hb) j⟩
          refine r1 g3 (by omega) fr3 (fun _ => rfl) (by rw [e3, hL_sL, if_pos ⟨rfl, rfl⟩]) (fun g4 f4 a4 b4 c4 => kk g4 f4 ?_ (fun j hj => ?_) c4)
          · rw [a4, e3]; exact i5
          · rw [b4 j hj, e3, hL_sL, if_neg (fun w => hj w.2), l5]
        rw [lg]
        by_cases x : mbC v cs r (ofOn v c) (ofCh v (ofOn v c)) = true
        · rw [if_pos x] at em ⊢
          refine ⟨fun y => absurd y (by decide), fun _ => ⟨10, sg2.2.2.2.2.2.2.1.2.2.2, vp_in_nI (by omega) (by omega), fun g3 e3 => step g3 ?_⟩⟩
          rw [e3, l_one c (by omega), lN_or ml pl, em]
        · rw [if_neg x] at em ⊢
          refine ⟨fun _ => ⟨10, sg2.2.2.2.2.2.2.1.2.2.2, vp_in_nI (by omega) (by omega), fun g3 e3 => step g3 ?_⟩, fun y => absurd nI_0 y⟩
          rw [e3, Int64.or_zero, em]
  -- the links by a rate
  have links : ∀ (KK : Nat → Nat → Nat → Nat → Int32 → MH → Prop) (r : Nat), r < 10 → ∀ n l h, l + n = tnL v → FrS a B h → (∀ j i, ((j < r ∧ i < tnL v) ∨ (j = r ∧ i < l)) → hI h (a + 5) (j * 10 + i) = nI (prC v cs j i)) → hL h (a + 6) r = 0 → (∀ g, FrS a B g → (∀ j i, j ≤ r → i < tnL v → hI g (a + 5) (j * 10 + i) = nI (prC v cs j i)) → (∀ j, j ≠ r → hL g (a + 6) j = hL h (a + 6) j) → hL g (a + 6) r = lN (myN (fun c => mbC v cs r (ofOn v c) (ofCh v (ofOn v c))) (ofC v)) → KK bb tt a 131 (nI (r + 1)) g) → wX4_settle_14 Q KK (n + 1) bb tt a 131 (nI r) (nI l) h := by
    intro KK r hr n
    induction n with
    | zero =>
      intro l h hn fr e5 e6 kk
      have hn : l = tnL v := by omega
      have s := SB_keep sb fr
      unfold wX4_settle_14
      rw [s.2.2.2.1.1.2.2.1, hn]
      refine ⟨s.2.2.2.1.1.1, fun _ => ⟨_, rings KK r hr (ofC v) 0 h (by omega) fr (fun _ => rfl) ?_ (fun g f4 a4 b4 c4 => kk g f4 (fun j i hj hi => ?_) b4 c4)⟩, fun y => absurd (nI_le (Nat.le_refl _) (by omega)) y⟩
      · rw [e6]; rfl
      · rw [a4]; exact e5 j i (by omega)
    | succ n ih =>
      intro l h hn fr e5 e6 kk
      have s := SB_keep sb fr
      obtain ⟨s1, s2, s3, ⟨ng, y2⟩, s5, s6, s7, s8, s9⟩ := id s
      have s8l := s8 l (by omega)
      have ngl := ng.2.2.2.2.2.2.2 l (by omega)
      unfold wX4_settle_14
      rw [ng.2.2.1, nI_add l 1, nI_clamp (show l < 2 ^ 31 by omega), nI_mul, nI_add, nI_clamp (show r * 10 + l < 2 ^ 31 by omega)]
      refine ⟨ng.1, fun y => absurd y (nI_ge (by omega) (by omega)), fun _ => ⟨a + 3, s6.1, 10, s7.1, vp_in_nI (by omega) (by omega), a + 4, s6.2.1, 10, s7.2.1, vp_in_nI (by omega) (by omega), a + 1, ng.2.2.2.1, 10, ng.2.2.2.2.1, vp_in_nI (by omega) (by omega), a + 2, ng.2.2.2.2.2.1, 10, ng.2.2.2.2.2.2.1, vp_in_nI (by omega) (by omega), S_131 s1, ?_⟩⟩
      rw [s8l.1, s8l.2, ngl.1, ngl.2]
      refine n_tell s1 (fun g fg t0 t1 t2 t3 t4 => ?_)
      have frg := FrS_Fr fr (fun b hb => Or.inl hb) fg
      have sg := SB_keep sb frg
      refine ⟨sg.2.2.2.1.1.1, a + 5, sg.2.2.2.2.2.1.2.2.1, a + 3, sg.2.2.2.2.2.1.1, 10, sg.2.2.2.2.2.2.1.1, vp_in_nI (by omega) (by omega), S_131 sg.1, ?_⟩
      rw [(sg.2.2.2.2.2.2.2.1 l (by omega)).1]
      refine n_cost (r := r) (l := l) sg.1 h900 sg.2.1 sg.2.2.1 (ok.2.2.2.2 0 (by omega)) ⟨fun k hk => ?_, fun _ => ⟨t3, t4⟩, fun y => absurd rfl y⟩ (fun g2 fg2 => ?_)
      · rcases (show k = 0 ∨ k = 1 ∨ k = 2 by omega) with q | q | q <;> subst q
        · exact t0
        · exact t1
        · exact t2
      · have frg2 := FrS_Fr frg (fun b hb => Or.inr (Or.inl hb)) fg2
        have sg2 := SB_keep sb frg2
        refine ⟨100, sg2.2.2.2.2.2.2.1.2.2.1, vp_in_nI (by omega) (by omega), fun g3 e3 => ?_⟩
        have f3 : Fr (fun b => b = a + 5) g2 g3 := by rw [e3]; exact Fr_sI rfl
        have l3 : hL g3 = hL h := by rw [f3.2.2.1, fg2.2.2.1, fg.2.2.1]
        refine ih (l + 1) g3 (by omega) (FrS_Fr frg2 (fun b hb => Or.inr (Or.inr hb)) f3) (fun j i hj => ?_) (by rw [l3]; exact e6) (fun g4 f4 a4 b4 c4 => kk g4 f4 a4 (fun j hj => by rw [b4 j hj, l3]) c4)
        rw [e3, hI_sI]
        by_cases x : j = r ∧ i = l
        · rw [if_pos ⟨rfl, by omega⟩, x.1, x.2]
        · rw [if_neg (by omega), fg2.2.2.2.2 _ (by omega), fg.2.2.2.2 _ (by omega)]
          exact e5 j i (by omega)
  have rates : ∀ n r h, r + n = 10 → FrS a B h → (∀ j i, j < r → i < tnL v → hI h (a + 5) (j * 10 + i) = nI (prC v cs j i)) → (∀ j, j < r → hL h (a + 6) j = lN (myN (fun c => mbC v cs j (ofOn v c) (ofCh v (ofOn v c))) (ofC v))) → (∀ j, r ≤ j → hL h (a + 6) j = 0) → wX4_settle_6 Q (n + 1) bb tt a 131 (nI r) h := by
    intro n
    induction n with
    | zero =>
      intro r h hn fr e5 e6 e7
      have hn : r = 10 := by omega
      subst hn
      exact ⟨fun _ => hq h fr e5 e6, fun y => absurd (nI_le (Nat.le_refl _) (by omega)) y⟩
    | succ n ih =>
      intro r h hn fr e5 e6 e7
      refine ⟨fun y => absurd y (nI_ge (by omega) (by omega)), fun _ => ⟨_, links _ r (by omega) (tnL v) 0 h (by omega) fr (fun j i hj => e5 j i (by omega) (by omega)) (e7 r (Nat.le_refl _)) (fun g f4 a4 b4 c4 => ih (r + 1) g (by omega) f4 (fun j i hj hi => a4 j i (by omega) hi) (fun j hj => ?_) (fun j hj => ?_))⟩⟩
      · by_cases x : j = r
        · rw [x]; exact c4
        · rw [b4 j x]; exact e6 j (by omega)
      · rw [b4 j (by omega)]; exact e7 j (by omega)
  exact ⟨_, rates 10 0 B (by omega) (FrS_rfl _ _) (fun j i hj => absurd hj (by omega)) (fun j hj => absurd hj (by omega)) (fun j _ => z6 j)⟩
end SET
