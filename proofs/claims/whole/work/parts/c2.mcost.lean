/-! Part c2: the reference reckons costs, and which rings may be. -/
/-- a told net in the reference's row -/
def MTold (h : MH) (v : TN) (cs : CD) : Prop := (hI h 224 0 = nI (tnN v) ∧ hI h 224 1 = nI (tnK v) ∧ hI h 224 2 = nI (tnL v)) ∧ (∀ m, m < 2 → hI h 224 (3 + m) = (if tnB v m < tnE v m then nI 1 else 0) ∧ hI h 224 (5 + m) = nI (tnB v m) ∧ hI h 224 (7 + m) = nI (tnE v m - tnB v m)) ∧ (∀ l, l < tnL v → hI h 224 (9 + 2 * l) = nI (tnF v l) ∧ hI h 224 (9 + 2 * l + 1) = nI (tnT v l) ∧ hI h 224 (29 + l) = nI (tnO v l) ∧ hI h 224 (39 + l) = nI (tnW v l)) ∧ ∀ i, i < cs.1 → hI h 224 (1437 + i) = nI (cs.2 i)
theorem MTold_keep {h h1 : MH} {v : TN} {cs : CD} (p : MTold h v cs) (e : hI h1 224 = hI h 224) : MTold h1 v cs := by
  unfold MTold
  rw [e]
  exact p
section MC
variable {v : TN} {cs : CD}
theorem m_law {Q : Int32 → MH → Prop} {h : MH} {w : Nat → Int32} {m : Nat} (hm : m < 2) (hl : LX h) (h900 : cs.1 ≤ 900) (mt : MTold h v cs) (ok : LwO cs.2 cs.1 m (tnB v m) (tnE v m)) (hb : tnB v m ≠ tnE v m) (ht : ∀ j, j < 7 → wok m (1000 + j) → hI h 229 j = w j) (hq : ∀ g, Fr (fun b => b = 228) h g → Q (lwV w cs.2 (tnB v m) (tnE v m)) g) : wX10_reckons 223 (nI m) h Q := by
  obtain ⟨o1, o2, o3⟩ := LwO_v ok hb
  have mm := mt.2.1 m hm
  exact ⟨_, m_reck (f := cs.2) (w := w) (m := m) (B := tnB v m) (E := tnE v m) hl hm (by omega) (by omega) mm.2.2 mm.2.1 (fun j _ hj => mt.2.2.2 j (by omega)) ht hq (tnE v m - tnB v m) 0 [] h (by omega) (by show 0 ≤ 64; omega) (Fr_rfl _ _) trivial (o3 w).1⟩
theorem m_cost {Q : Int32 → MH → Prop} {h : MH} {D r : Nat} (hl : LX h) (h900 : cs.1 ≤ 900) (mt : MTold h v cs) (ok : TnOK v cs) (hD : D < 1024) (hr : r < 10) (hq : ∀ h1, Fr (fun b => 228 ≤ b ∧ b ≤ 229) h h1 → Q (nI (smN (prC v cs r) D (tnL v))) h1) : wX10_costOf 223 (nI D) (nI r) h Q := by
  have L10 := ok.2.1.1
  have c2 : (nI 2).toNatClampNeg = 2 := by decide
  have lp : ∀ n l g, l + n = tnL v → Fr (fun b => 228 ≤ b ∧ b ≤ 229) h g → wX10_costOf_5 Q (n + 1) 223 (nI D) (nI r) (nI (smN (prC v cs r) D l)) (nI l) g := by
    intro n
    induction n with
    | zero =>
      intro l g hn fr
      have hn : l = tnL v := by omega
      have lg := LX_Fr fr hl
      have mg := MTold_keep mt (fr.2.2.2.2 224 (by omega))
      unfold wX10_costOf_5
      rw [c2]
      refine ⟨S_223 lg, 224, R_223_1 lg, 7011, S_224 lg, vp_in_nI (by omega) (by omega), ?_⟩
      rw [mg.1.2.2, hn]
      exact ⟨fun _ => hq g fr, fun z => absurd (nI_le (Nat.le_refl _) (by omega)) z⟩
    | succ n ih =>
      intro l g hn fr
      have lg := LX_Fr fr hl
      have mg := MTold_keep mt (fr.2.2.2.2 224 (by omega))
      have ml := mg.2.2.1 l (by omega)
      have bD := bt01 D l
      have o4 := ok.2.2.2.1 l (by omega)
      have es : smN (prC v cs r) D (l + 1) = smN (prC v cs r) D l + bt D l * prC v cs r l := rfl
      have r1 := ih (l + 1)
      unfold wX10_costOf_5
      rw [c2]
      refine ⟨S_223 lg, 224, R_223_1 lg, 7011, S_224 lg, vp_in_nI (by omega) (by omega), ?_⟩
      rw [mg.1.2.2, nI_add l 1]
      refine ⟨fun z => absurd z (nI_ge (by omega) (by omega)), fun _ => u_isIn (by omega) (by omega) ?_⟩
      rw [nI_eq0 (by omega)]
      refine ⟨fun z => ?_, fun z => ?_⟩
      · have b1 : bt D l = 1 := by omega
        rw [b1, Nat.one_mul] at es
        rw [es] at r1
        rw [show (nI 0).toNatClampNeg = 0 from by decide, show (nI 1).toNatClampNeg = 1 from by decide, show (nI 3).toNatClampNeg = 3 from by decide, show (nI 4).toNatClampNeg = 4 from by decide, nI_add 29 l, nI_add 39 l, nI_clamp (show 29 + l < 2 ^ 31 by omega), nI_clamp (show 39 + l < 2 ^ 31 by omega)]
        refine ⟨S_223 lg, 229, R_223_17 lg, 7, S_229 lg, vp_in_nI (by omega) (by omega), fun h15 e15 => ?_⟩
        have f15 : Fr (fun b => 228 ≤ b ∧ b ≤ 229) g h15 := by rw [e15]; exact Fr_sI (by omega)
        have l15 := LX_Fr f15 lg
        refine ⟨224, R_223_1 l15, 7011, S_224 l15, vp_in_nI (by omega) (by omega), vp_in_nI (by omega) (by omega), fun h22 e22 => ⟨vp_in_nI (by omega) (by omega), vp_in_nI (by omega) (by omega), fun h25 e25 => ?_⟩⟩
        have i15 : hI h15 224 = hI g 224 := f15.2.2.2.2 224 (by omega)
        rw [i15, ml.2.2.1] at e22
        have f22 : Fr (fun b => 228 ≤ b ∧ b ≤ 229) h15 h22 := by rw [e22]; exact Fr_sI (by omega)
        have i22 : hI h22 224 = hI g 224 := (f22.2.2.2.2 224 (by omega)).trans i15
        rw [i22, ml.2.2.2] at e25
        have f25 : Fr (fun b => 228 ≤ b ∧ b ≤ 229) g h25 := Fr_trans (Fr_trans f15 f22) (by rw [e25]; exact Fr_sI (by omega))
        have l25 := LX_Fr f25 lg
        have i25 : hI h25 224 = hI g 224 := f25.2.2.2.2 224 (by omega)
        refine u_endOf (k := 0) l25 (by omega) (by omega) ⟨7, S_229 l25, vp_in_nI (by omega) (by omega), fun h31 e31 => ?_⟩
        rw [i25, Nat.add_zero, ml.1] at e31
        have f31 : Fr (fun b => 228 ≤ b ∧ b ≤ 229) g h31 := Fr_trans f25 (by rw [e31]; exact Fr_sI (by omega))
        have l31 := LX_Fr f31 lg
        have i31 : hI h31 224 = hI g 224 := f31.2.2.2.2 224 (by omega)
        refine ⟨S_223 l31, 229, R_223_17 l31, u_endOf (k := 1) l31 (by omega) (by omega) ⟨7, S_229 l31, vp_in_nI (by omega) (by omega), fun h40 e40 => ?_⟩⟩
        rw [i31, ml.2.1] at e40
        have f40 : Fr (fun b => 228 ≤ b ∧ b ≤ 229) g h40 := Fr_trans f31 (by rw [e40]; exact Fr_sI (by omega))
        have l40 := LX_Fr f40 lg
        have i40 : hI h40 224 = hI g 224 := f40.2.2.2.2 224 (by omega)
        have m40 := MTold_keep mg i40
        have mm := m40.2.1 0 (by omega)
        have wd : ∀ j, j < 5 → hI h40 229 j = wLk v r l j := fun j hj => by
          rw [e40, hI_sI, e31, hI_sI, e25, hI_sI, e22, hI_sI, e15, hI_sI]
          rcases (show j = 0 ∨ j = 1 ∨ j = 2 ∨ j = 3 ∨ j = 4 by omega) with q | q | q | q | q <;> subst q <;> simp [wLk]
        refine ⟨S_223 l40, 224, R_223_1 l40, 7011, S_224 l40, vp_in_nI (by omega) (by omega), ?_⟩
        rw [show (3 : Nat) = 3 + 0 from rfl, mm.1]
        have fin : ∀ g2 x, Fr (fun b => 228 ≤ b ∧ b ≤ 229) h g2 → clN x = prC v cs r l → wX10_costOf_122 Q (wX10_costOf_5 Q (n + 1)) 223 (nI D) (nI r) (nI (smN (prC v cs r) D l)) (nI l) x g2 := fun g2 x f2 ex u eu => by
          rw [(clN_ok x).2.2.1, ex, nI_add] at eu
          subst eu
          rw [nI_add l 1]
          exact r1 g2 (by omega) f2
        by_cases b : tnB v 0 = tnE v 0
        · rw [if_neg (by omega)]
          refine ⟨fun _ => ⟨vp_in_nI (by omega) (by omega), ?_⟩, fun y => absurd y (by decide)⟩
          rw [i40, ml.2.2.1]
          refine fin h40 _ (Fr_trans fr f40) ?_
          unfold prC clN
          rw [if_pos b, if_pos (nI_le o4.1 (by omega)), if_pos (nI_le (by omega) (by omega)), nI_clamp (by omega)]
        · have o := LwO_v (ok.2.2.2.2 0 (by omega)) b
          rw [if_pos o.1]
          refine ⟨fun y => absurd rfl y, fun _ => m_law (by omega) l40 h900 m40 (ok.2.2.2.2 0 (by omega)) b (w := wLk v r l) (fun j hj hw => wd j (by unfold wok at hw; omega)) (fun g2 f2 => fin g2 _ (Fr_trans fr (Fr_trans f40 (Fr_mono (fun b hb => by omega) f2))) ?_)⟩
          unfold prC
          rw [if_neg b]
      · rw [z, Nat.zero_mul, Nat.add_zero] at es
        rw [es] at r1
        exact r1 g (by omega) fr
  exact ⟨_, lp (tnL v) 0 h (by omega) (Fr_rfl _ _)⟩
theorem m_may {Q : Int32 → MH → Prop} {h : MH} {D ch r : Nat} (hl : LX h) (h900 : cs.1 ≤ 900) (mt : MTold h v cs) (ok : TnOK v cs) (hD : D < 1024) (hc : ch < 1024) (er : hI h 224 114 = nI r) (hq : ∀ h1, Fr (fun b => 228 ≤ b ∧ b ≤ 229) h h1 → Q (if mbC v cs r D ch = true then nI 1 else nI 0) h1) : wX10_mayBe 223 (nI D) (nI ch) h Q := by
  have L10 := ok.2.1.1
  have c0 : (nI 0).toNatClampNeg = 0 := by decide
  have c1 : (nI 1).toNatClampNeg = 1 := by decide
  have c2 : (nI 2).toNatClampNeg = 2 := by decide
  have mm := mt.2.1 1 (by omega)
  unfold wX10_mayBe
  rw [c0, c1, c2, show (nI 4).toNatClampNeg = 4 from by decide, show (nI 114).toNatClampNeg = 114 from by decide]
  refine ⟨S_223 hl, 224, R_223_1 hl, 7011, S_224 hl, vp_in_nI (by omega) (by omega), ?_⟩
  rw [show (4 : Nat) = 3 + 1 from rfl, mm.1]
  by_cases b : tnB v 1 = tnE v 1
  · have e : mbC v cs r D ch = true := by
      unfold mbC
      rw [decide_eq_true b, Bool.true_or]
    rw [if_neg (by omega)]
    rw [if_pos e] at hq
    exact ⟨fun y => absurd rfl y, fun _ => hq h (Fr_rfl _ _)⟩
  · have o := LwO_v (ok.2.2.2.2 1 (by omega)) b
    rw [if_pos o.1]
    refine ⟨fun _ => ⟨229, R_223_17 hl, vp_in_nI (by omega) (by omega), 7, S_229 hl, vp_in_nI (by omega) (by omega), fun h13 e13 => ⟨vp_in_nI (by omega) (by omega), fun h15 e15 => ⟨vp_in_nI (by omega) (by omega), fun h17 e17 => ?_⟩⟩⟩, fun y => absurd y (by decide)⟩
    rw [er] at e13
    have lp : ∀ n l g, l + n = tnL v → Fr (fun b => 228 ≤ b ∧ b ≤ 229) h g → hI g 229 0 = nI r → hI g 229 1 = nI (smN (tnO v) D l) → hI g 229 2 = nI (smN (tnW v) D l) → wX10_mayBe_40 Q (n + 1) 223 (nI D) (nI ch) (nI l) g := by
      intro n
      induction n with
      | zero =>
        intro l g hn fr w0 w1 w2
        have hn : l = tnL v := by omega
        rw [hn] at w1 w2
        have lg := LX_Fr fr hl
        have mg := MTold_keep mt (fr.2.2.2.2 224 (by omega))
        unfold wX10_mayBe_40
        rw [c1, c2, show (nI 5).toNatClampNeg = 5 from by decide, show (nI 6).toNatClampNeg = 6 from by decide]
        refine ⟨S_223 lg, 224, R_223_1 lg, 7011, S_224 lg, vp_in_nI (by omega) (by omega), ?_⟩
        rw [mg.1.2.2, hn]
        refine ⟨fun _ => ⟨229, R_223_17 lg, u_bitsOf (by omega) ⟨7, S_229 lg, vp_in_nI (by omega) (by omega), fun h31 e31 => ?_⟩⟩, fun z => absurd (nI_le (Nat.le_refl _) (by omega)) z⟩
        have f31 : Fr (fun b => 228 ≤ b ∧ b ≤ 229) g h31 := by rw [e31]; exact Fr_sI (by omega)
        have l31 := LX_Fr f31 lg
        refine ⟨S_223 l31, 229, R_223_17 l31, u_bitsOf (by omega) ⟨7, S_229 l31, vp_in_nI (by omega) (by omega), fun h40 e40 => ?_⟩⟩
        have f40 : Fr (fun b => 228 ≤ b ∧ b ≤ 229) g h40 := Fr_trans f31 (by rw [e40]; exact Fr_sI (by omega))
        have l40 := LX_Fr f40 lg
        have m40 := MTold_keep mg (f40.2.2.2.2 224 (by omega))
        refine ⟨S_223 l40, m_law (by omega) l40 h900 m40 (ok.2.2.2.2 1 (by omega)) b (w := wRg v r D ch) (fun j hj hw => ?_) (fun g2 f2 => ?_)⟩
        · have hj2 : j = 0 ∨ j = 1 ∨ j = 2 ∨ j = 5 ∨ j = 6 := by unfold wok at hw; omega
          rw [e40, hI_sI, e31, hI_sI]
          rcases hj2 with q | q | q | q | q <;> subst q <;> simp [wRg, w0, w1, w2]
        · have bb := (o.2.2 (wRg v r D ch)).2 (by omega)
          have e : mbC v cs r D ch = true ↔ lwV (wRg v r D ch) cs.2 (tnB v 1) (tnE v 1) = nI 1 := by
            unfold mbC
            rw [Bool.or_eq_true, decide_eq_true_iff, decide_eq_true_iff]
            exact ⟨fun x => x.resolve_left b, fun x => Or.inr x⟩
          have hq := hq g2 (Fr_trans fr (Fr_trans f40 (Fr_mono (fun b hb => by omega) f2)))
          by_cases x : lwV (wRg v r D ch) cs.2 (tnB v 1) (tnE v 1) = nI 1
          · rw [if_pos x]
            rw [if_pos (e.mpr x)] at hq
            exact ⟨Or.inr (by decide), hq⟩
          · rw [if_neg x]
            rw [if_neg (fun y => x (e.mp y))] at hq
            exact ⟨Or.inl nI_0, hq⟩
      | succ n ih =>
        intro l g hn fr w0 w1 w2
        have lg := LX_Fr fr hl
        have mg := MTold_keep mt (fr.2.2.2.2 224 (by omega))
        have ml := mg.2.2.1 l (by omega)
        have bD := bt01 D l
        have e1 : smN (tnO v) D (l + 1) = smN (tnO v) D l + bt D l * tnO v l := rfl
        have e2 : smN (tnW v) D (l + 1) = smN (tnW v) D l + bt D l * tnW v l := rfl
        have r1 := ih (l + 1)
        unfold wX10_mayBe_40 wX10_mayBe_79
        rw [c1, c2, nI_add 29 l, nI_add 39 l, nI_clamp (show 29 + l < 2 ^ 31 by omega), nI_clamp (show 39 + l < 2 ^ 31 by omega)]
        refine ⟨S_223 lg, 224, R_223_1 lg, 7011, S_224 lg, vp_in_nI (by omega) (by omega), ?_⟩
        rw [mg.1.2.2, nI_add l 1]
        refine ⟨fun z => absurd z (nI_ge (by omega) (by omega)), fun _ => ⟨229, R_223_17 lg, 7, S_229 lg, vp_in_nI (by omega) (by omega), u_isIn (by omega) (by omega) ?_⟩⟩
        rw [nI_eq0 (by omega), w1]
        refine ⟨fun z => ⟨7, S_229 lg, vp_in_nI (by omega) (by omega), fun h57 e57 => ?_⟩, fun z => ⟨S_223 lg, 224, R_223_1 lg, 7011, S_224 lg, vp_in_nI (by omega) (by omega), ?_⟩⟩
        · have e1 : smN (tnO v) D (l + 1) = smN (tnO v) D l := by rw [e1, z, Nat.zero_mul]; omega
          have e2 : smN (tnW v) D (l + 1) = smN (tnW v) D l := by rw [e2, z, Nat.zero_mul]; omega
          rw [nI_add, Nat.add_zero] at e57
          have f57 : Fr (fun b => 228 ≤ b ∧ b ≤ 229) g h57 := by rw [e57]; exact Fr_sI (by omega)
          have l57 := LX_Fr f57 lg
          have w57 : hI h57 229 2 = nI (smN (tnW v) D l) := by rw [e57, hI_sI, if_neg (by omega)]; exact w2
          refine ⟨S_223 l57, 229, R_223_17 l57, 7, S_229 l57, vp_in_nI (by omega) (by omega), u_isIn (by omega) (by omega) ?_⟩
          rw [nI_eq0 (by omega), w57, nI_add, Nat.add_zero]
          refine ⟨fun _ => ⟨7, S_229 l57, vp_in_nI (by omega) (by omega), fun h69 e69 => ?_⟩, fun y => absurd z y⟩
          rw [e1, e2] at r1
          refine r1 h69 (by omega) (Fr_trans fr (Fr_trans f57 (by rw [e69]; exact Fr_sI (by omega)))) ?_ ?_ ?_
          · rw [e69, hI_sI, if_neg (by omega), e57, hI_sI, if_neg (by omega)]; exact w0
          · rw [e69, hI_sI, if_neg (by omega), e57, hI_sI, if_pos ⟨rfl, rfl⟩]
          · rw [e69, hI_sI, if_pos ⟨rfl, rfl⟩]
        · have b1 : bt D l = 1 := by omega
          rw [b1, Nat.one_mul] at e1 e2
          rw [ml.2.2.1]
          refine ⟨7, S_229 lg, vp_in_nI (by omega) (by omega), fun h57 e57 => ?_⟩
          rw [nI_add] at e57
          have f57 : Fr (fun b => 228 ≤ b ∧ b ≤ 229) g h57 := by rw [e57]; exact Fr_sI (by omega)
          have l57 := LX_Fr f57 lg
          have i57 : hI h57 224 = hI g 224 := f57.2.2.2.2 224 (by omega)
          have w57 : hI h57 229 2 = nI (smN (tnW v) D l) := by rw [e57, hI_sI, if_neg (by omega)]; exact w2
          refine ⟨S_223 l57, 229, R_223_17 l57, 7, S_229 l57, vp_in_nI (by omega) (by omega), u_isIn (by omega) (by omega) ?_⟩
          rw [nI_eq0 (by omega), w57]
          refine ⟨fun y => absurd y (by omega), fun _ => ⟨S_223 l57, 224, R_223_1 l57, 7011, S_224 l57, vp_in_nI (by omega) (by omega), 7, S_229 l57, vp_in_nI (by omega) (by omega), fun h69 e69 => ?_⟩⟩
          rw [i57, ml.2.2.2, nI_add] at e69
          rw [e1, e2] at r1
          refine r1 h69 (by omega) (Fr_trans fr (Fr_trans f57 (by rw [e69]; exact Fr_sI (by omega)))) ?_ ?_ ?_
          · rw [e69, hI_sI, if_neg (by omega), e57, hI_sI, if_neg (by omega)]; exact w0
          · rw [e69, hI_sI, if_neg (by omega), e57, hI_sI, if_pos ⟨rfl, rfl⟩]
          · rw [e69, hI_sI, if_pos ⟨rfl, rfl⟩]
    refine ⟨_, lp (tnL v) 0 h17 (by omega) (by rw [e17, e15, e13]; exact Fr_trans (Fr_trans (Fr_sI (by omega)) (Fr_sI (by omega))) (Fr_sI (by omega))) ?_ ?_ ?_⟩
    · rw [e17, hI_sI, if_neg (by omega), e15, hI_sI, if_neg (by omega), e13, hI_sI, if_pos ⟨rfl, rfl⟩]
    · rw [e17, hI_sI, if_neg (by omega), e15, hI_sI, if_pos ⟨rfl, rfl⟩]; rfl
    · rw [e17, hI_sI, if_pos ⟨rfl, rfl⟩]; rfl
end MC
