/-! Part c4: the reference reads a net, all of it. -/
def FrN (h g : MH) : Prop := Fr (fun b => b = 223 ∨ b = 224 ∨ b = 227 ∨ (228 ≤ b ∧ b ≤ 233)) h g
theorem m_copy {Q : Int32 → MH → Prop} {g0 : MH} (hl : LX g0) (hq : ∀ g, Fr (fun b => b = 224) g0 g → (∀ j, hI g 224 j = if j < 2337 then hI g0 227 j else hI g0 224 j) → wX10_net_170 Q 1 223 (nI 2337) g) : ∀ n k g, k + n = 2337 → Fr (fun b => b = 224) g0 g → (∀ j, hI g 224 j = if j < k then hI g0 227 j else hI g0 224 j) → wX10_net_170 Q (n + 1) 223 (nI k) g := by
  intro n
  induction n with
  | zero =>
    intro k g hn fr e
    have hn : k = 2337 := by omega
    subst hn
    exact hq g fr e
  | succ n ih =>
    intro k g hn fr e
    have lg := LX_Fr fr hl
    unfold wX10_net_170
    rw [nI_add k 1, nI_clamp (show k < 2 ^ 31 by omega)]
    refine ⟨fun z => absurd z (nI_ge (by omega) (by omega)), fun _ => ⟨S_223 lg, 224, R_223_1 lg, 227, R_223_4 lg, 2337, S_227 lg, vp_in_nI (by omega) (by omega), 7011, S_224 lg, vp_in_nI (by omega) (by omega), fun h67 e67 => ?_⟩⟩
    refine ih (k + 1) h67 (by omega) (Fr_trans fr (by rw [e67]; exact Fr_sI rfl)) (fun j => ?_)
    rw [e67, hI_sI]
    by_cases q : j = k
    · rw [if_pos ⟨rfl, q⟩, if_pos (by omega), q]
      exact Fr_I fr (by omega) k
    · rw [if_neg (fun w => q w.2), e j]
      by_cases q2 : j < k
      · rw [if_pos q2, if_pos (by omega)]
      · rw [if_neg q2, if_neg (by omega)]
theorem m_netR {Q : Int32 → MH → Prop} {h : MH} {T : Nat → Nat} {n nf : Nat} (hl : LX h) (hn : n ≤ nf) (h900 : nf ≤ 900) (e5 : hI h 223 5 = nI nf) (tx : ∀ k, k < n → T k < 256 ∧ hI h 226 k = nI (T k)) (k1 : ∀ t2 cs v g, netL T n = .inr (t2, cs, v) → LX g → FrN h g → hI g 223 5 = nI 0 → hI g 223 13 = 0 → hI g 223 14 = -1 → MIv (hI g 224) v → (∀ i, i < cs.1 → hI g 224 (1437 + i) = nI (cs.2 i)) → (∀ j, 2337 ≤ j → hI g 224 j = hI h 224 j) → RgV g (nvOf v cs) (tnR v) → Q (nI (tnN v)) g) (k0 : ∀ e g, netL T n = .inl e → 0 < e.1 → e.1 < 5 → LX g → Fr (fun b => b = 223 ∨ b = 227) h g → hI g 223 5 = nI 0 → hI g 223 13 = nI e.1 → hI g 223 14 = nI e.2 → hI g 223 23 = hI h 223 23 → Q ((-30 : Int32) - nI e.1) g) : wX10_net 223 (nI n) h Q := by
  refine ⟨S_223 hl, fun h2 e2 => u_within (fun _ _ => ⟨fun _ => ?_, fun z => absurd z (by decide)⟩) (fun z => absurd z ?_)⟩
  rotate_left
  · rw [Int32.toInt_toInt64, show hI h2 223 5 = nI nf from by rw [e2, hI_sI, if_neg (by omega)]; exact e5, nI_tI (by omega), nI_tI (by omega)]
    have : (0 : Int64).toInt = 0 := by decide
    omega
  have l2 : LX h2 := by rw [e2]; exact LX_sI hl
  refine ⟨S_223 l2, fun h6 e6 h7 e7 h8 e8 h9 e9 => ?_⟩
  have f9 : Fr (fun b => b = 223) h h9 := by
    rw [e9, e8, e7, e6, e2]
    exact Fr_trans (Fr_trans (Fr_trans (Fr_trans (Fr_sI rfl) (Fr_sI rfl)) (Fr_sI rfl)) (Fr_sI rfl)) (Fr_sI rfl)
  have i9 : ∀ k, hI h9 223 k = if k = 11 then nI 0 else if k = 7 then nI 0 else if k = 5 then nI 0 else if k = 8 then nI n else if k = 0 then nI 0 else hI h 223 k := fun k => by
    rw [e9, hI_sI, e8, hI_sI, e7, hI_sI, e6, hI_sI, e2, hI_sI]
    simp only [true_and]
  have l9 := LX_Fr f9 hl
  refine ⟨227, R_223_4 l9, u_plain (m := 2337) (by omega) (S_227 l9) ?_⟩
  generalize e10 : rI h9 227 (filI (hI h9 227) 0 2337 0) = hb
  have f10 : Fr (fun b => b = 227) h9 hb := by rw [← e10]; exact Fr_rI rfl
  have z10 : ∀ k, k < 2337 → hI hb 227 k = 0 := fun k hk => by
    rw [← e10, hI_rI, if_pos rfl]
    unfold filI
    rw [if_pos (by omega)]
  have lb := LX_Fr f10 l9
  have ib : ∀ k, hI hb 223 k = hI h9 223 k := fun k => Fr_I f10 (by omega) k
  have fb : Fr (fun b => b = 223 ∨ b = 227) h hb := Fr_trans (Fr_mono (fun b q => Or.inl q) f9) (Fr_mono (fun b q => Or.inr q) f10)
  refine ⟨S_223 lb, m_next (h0 := hb) (T := T) (n := n) (p := 0) (Nat.zero_le _) (a := hI hb 223 6) (kd := hI hb 223 9) (nu := hI hb 223 10) (wa := hI hb 223 12) ⟨lb, FrX_rfl _, ⟨by omega, by rw [ib, i9]; rfl, fun k hk => by rw [Fr_I fb (by omega)]; exact tx k hk⟩, rfl, by rw [ib, i9]; rfl, rfl, rfl, by rw [ib, i9]; exact nI_0, rfl⟩ (fun g rm => ?_)⟩
  obtain ⟨m, em⟩ := nI_sur (hI g 223 15)
  have rms := RmT_self rm
  obtain ⟨nu, wa, rmm, _⟩ := rm
  have fx := rmm.2.1
  have lg : LX g := rmm.1
  have z227 : ∀ k, k < 2337 → hI g 227 k = 0 := fun k hk => by rw [Fr_I fx.1 (by omega)]; exact z10 k hk
  have mt : MT hb g T n m (tkN T n 0) (0, fun _ => 0) tn0 := by
    refine ⟨⟨TkOK_N (Nat.zero_le _), rms, FrQ_rfl _, em, by rw [z227 1436 (by omega)]; exact nI_0.symm, fun i hi => absurd hi (by show ¬ i < 0; omega)⟩, ⟨Fr_mono (fun b q => Or.inl q) fx.1, fun k hk _ => fx.2 k hk⟩, ⟨?_, fun k hk => ?_, fun l hl => absurd hl (by show ¬ l < 0; omega), fun k _ b _ => z227 k (by omega)⟩⟩
    · rw [z227 0 (by omega), z227 1 (by omega), z227 2 (by omega), z227 114 (by omega)]
      exact ⟨nI_0.symm, nI_0.symm, nI_0.symm, nI_0.symm⟩
    · rw [z227 _ (by omega), z227 _ (by omega), z227 _ (by omega)]
      have eB : tnB tn0 k = 0 := by
        unfold tnB
        by_cases q : k = 0
        · rw [if_pos q]; rfl
        · rw [if_neg q]; rfl
      have eE : tnE tn0 k = 0 := by
        unfold tnE
        by_cases q : k = 0
        · rw [if_pos q]; rfl
        · rw [if_neg q]; rfl
      rw [eB, eE, if_neg (by omega)]
      exact ⟨rfl, nI_0.symm, nI_0.symm⟩
  -- the end, with a net
  have good : ∀ m3 t3 cs3 v3 g3, netL T n = .inr (t3, cs3, v3) → MT hb g3 T n m3 t3 cs3 v3 → wX10_net_126 Q 223 g3 := fun m3 t3 cs3 v3 g3 en p => by
    have tf := TF_net en
    have tr := Tn_rate en
    have ta := tf.1.1
    have c9 := tf.2.1
    have l3 := MT_LX p
    have w0 := PM_11 p.1
    refine ⟨S_223 l3, fun h43 e43 => ?_⟩
    have w43 : hI h43 223 11 = 0 := by rw [e43, hI_sI, if_neg (by omega)]; exact w0
    refine ⟨fun z => absurd w43 z, fun _ => ?_⟩
    have l43 : LX h43 := by rw [e43]; exact LX_sI l3
    refine ⟨S_223 l43, fun h45 e45 => ?_⟩
    have l45 : LX h45 := by rw [e45]; exact LX_sI l43
    have w45 : hI h45 223 11 = 0 := by rw [e45, hI_sI, if_neg (by omega)]; exact w43
    have f45 : Fr (fun b => b = 223) g3 h45 := by rw [e45, e43]; exact Fr_trans (Fr_sI rfl) (Fr_sI rfl)
    refine ⟨S_223 l45, fun _ => ⟨_, m_copy l45 (fun g4 f4 e4 => ?_) 2337 0 h45 (by omega) (Fr_rfl _ _) (fun j => by rw [if_neg (by omega)])⟩, fun z => absurd w45 z⟩
    have l4 := LX_Fr f4 l45
    have i227 : hI h45 227 = hI g3 227 := f45.2.2.2.2 227 (by omega)
    have e4a : ∀ j, j < 2337 → hI g4 224 j = hI g3 227 j := fun j hj => by rw [e4 j, if_pos hj, i227]
    have mi : MIv (hI g4 224) v3 := MIv_cong (fun k hk => e4a k (by omega)) p.2.2 tf.2.2.2.2.1.1
    have cd : ∀ i, i < cs3.1 → hI g4 224 (1437 + i) = nI (cs3.2 i) := fun i hi => by
      rw [e4a _ (by omega)]
      exact p.1.2.2.2.2.2 i hi
    have told : MTold g4 v3 cs3 := ⟨⟨mi.1.1, mi.1.2.1, mi.1.2.2.1⟩, mi.2.1, mi.2.2.1, cd⟩
    have f224 : hI g3 224 = hI h 224 := by
      rw [p.2.1.1.2.2.2.2 224 (by omega)]
      exact fb.2.2.2.2 224 (by omega)
    refine ⟨fun _ => ⟨S_223 l4, m_lays l4 (by omega) told tf.2.2.2 (by omega) mi.1.2.2.2 (fun g5 f5 rg => ?_)⟩, fun z => absurd (nI_le (Nat.le_refl _) (by omega)) z⟩
    have l5 := LX_Fr f5.1 l4
    have i5 : hI g5 224 = hI g4 224 := f5.1.2.2.2.2 224 (by omega)
    refine ⟨S_223 l5, 224, R_223_1 l5, 7011, S_224 l5, vp_in_nI (by omega) (by omega), ?_⟩
    rw [show (nI 0).toNatClampNeg = 0 from by decide, i5, mi.1.1]
    have q23 : ∀ k, k ≠ 23 → k ≠ 13 → k ≠ 14 → hI g5 223 k = hI g3 223 k := fun k k1 k2 k3 => by
      rw [f5.2 k k1, Fr_I f4 (by omega), e45, hI_sI, if_neg (fun w => k3 w.2), e43, hI_sI, if_neg (fun w => k2 w.2)]
    refine k1 t3 cs3 v3 g5 en l5 ?_ ?_ ?_ ?_ (by rw [i5]; exact mi) (by rw [i5]; exact cd) (fun j hj => ?_) rg
    · exact Fr_trans (Fr_trans (Fr_mono (fun b q => by omega) fb) (Fr_mono (fun b q => by omega) p.2.1.1)) (Fr_trans (Fr_mono (fun b q => by omega) f45) (Fr_trans (Fr_mono (fun b q => by omega) f4) (Fr_mono (fun b q => by omega) f5.1)))
    · rw [q23 5 (by omega) (by omega) (by omega), p.2.1.2 5 (by unfold isPf; omega) (by omega), ib, i9]; rfl
    · rw [f5.2 13 (by omega), Fr_I f4 (by omega), e45, hI_sI, if_neg (by omega), e43, hI_sI, if_pos ⟨rfl, rfl⟩]; exact w0
    · rw [f5.2 14 (by omega), Fr_I f4 (by omega), e45, hI_sI, if_pos ⟨rfl, rfl⟩]
    · rw [i5, e4 j, if_neg (by omega), f45.2.2.2.2 224 (by omega), f224]
  -- the end, with a fault
  have bad : ∀ e g3, netL T n = .inl e → MD hb g3 e → wX10_net_126 Q 223 g3 := fun e g3 en d => by
    have w0 := MD_11 d
    obtain ⟨d1, d2, d3, d4, d5, d6⟩ := d
    refine ⟨S_223 d1, fun h43 e43 => ?_⟩
    have l43 : LX h43 := by rw [e43]; exact LX_sI d1
    have w43 : hI h43 223 11 = nI e.1 := by rw [e43, hI_sI, if_neg (by omega)]; exact d5
    have w43b : hI h43 223 12 = nI e.2 := by rw [e43, hI_sI, if_neg (by omega)]; exact d6
    have wne : ¬ (nI e.1 = 0) := by rw [← d5]; exact w0
    rw [w43, w43b]
    refine ⟨fun _ => ⟨S_223 l43, fun h45 e45 => ?_⟩, fun z => absurd z wne⟩
    have l45 : LX h45 := by rw [e45]; exact LX_sI l43
    have w45 : hI h45 223 11 = nI e.1 := by rw [e45, hI_sI, if_neg (by omega)]; exact w43
    rw [w45]
    refine ⟨S_223 l45, fun z => absurd z wne, fun _ => k0 e h45 en d3 d4 l45 ?_ ?_ ?_ ?_ ?_⟩
    · exact Fr_trans fb (Fr_trans d2.1 (by rw [e45, e43]; exact Fr_trans (Fr_sI (Or.inl rfl)) (Fr_sI (Or.inl rfl))))
    · rw [e45, hI_sI, if_neg (by omega), e43, hI_sI, if_neg (by omega), d2.2 5 (by unfold isPf; omega) (by omega), ib, i9]; rfl
    · rw [e45, hI_sI, if_neg (by omega), e43, hI_sI, if_pos ⟨rfl, rfl⟩]; exact d5
    · rw [e45, hI_sI, if_pos ⟨rfl, rfl⟩]
    · rw [e45, hI_sI, if_neg (by omega), e43, hI_sI, if_neg (by omega), d2.2 23 (by unfold isPf; omega) (by omega), ib, i9]; rfl
  refine ⟨S_223 lg, MT_head mt (fun t2 cs2 v2 g7 eh p => ?_) (fun e g7 eh d => ⟨1, ?_⟩)⟩
  · have tf := TF_head (TkOK_N (Nat.zero_le _)) eh
    have en : netL T n = linesL T n (n + 1) t2 cs2 v2 := by
      unfold netL
      rw [eh]
      rfl
    exact ⟨_, MT_lines (n + 1) m t2 cs2 v2 g7 p tf.2.2.2.1 tf.2.1 (by omega) (fun m3 t3 cs3 v3 g8 e3 p3 => good m3 t3 cs3 v3 g8 (en.trans e3) p3) (fun e g8 e3 d3 => bad e g8 (en.trans e3) d3)⟩
  · have en : netL T n = .inl e := by
      unfold netL
      rw [eh]
      rfl
    exact ⟨S_223 d.1, fun _ => bad e g7 en d, fun z => absurd z (MD_11 d)⟩
