/-! Part c1: the class reads a net, all of it. -/
theorem lines_end {T : Nat → Nat} {n : Nat} {t2 : TK} {cs2 : CD} {v2 : TN} : ∀ k t cs v, linesL T n k t cs v = .inr (t2, cs2, v2) → tkK t2 = 24
  | 0, _, _, _, h => absurd h (by unfold linesL; simp)
  | k + 1, t, cs, v, h => by
    unfold linesL at h
    by_cases q : tkK t = 24
    · rw [if_pos q] at h
      have e := lr_inr h
      injection e with ea eb
      rw [← ea]
      exact q
    · rw [if_neg q] at h
      obtain ⟨u, c, w, h1, h2⟩ := bndL_inr h
      exact lines_end k u c w h2
theorem n_read {Q : Option Nat → MH → Prop} {h : MH} {T : Nat → Nat} {n : Nat} (hl : LX h) (zh : Zh h) (hn : n ≤ 900) (tx : ∀ k, k < n → T k < 256 ∧ hI h 130 k = sgn8 (nI (T k))) (k1 : ∀ t2 cs v g a, netL T n = .inr (t2, cs, v) → FH h g → hI g 129 1 = 0 → hI g 129 2 = -1 → NetV g a (nvOf v cs) → hI g a 1 = nI (tnR v) → Q (some a) g) (k0 : ∀ e g, netL T n = .inl e → FH h g → 0 < e.1 → e.1 < 5 → hI g 129 1 = nI e.1 → hI g 129 2 = nI e.2 → Q none g) : wX5_readNet 16 1125 129 (nI n) h Q := by
  have h244 := hl.1
  refine ⟨S_129 hl, fun h2 e2 h3 e3 h4 e4 h5 e5 h6 e6 => ⟨by omega, by omega, fun a ea h10 e10 => ⟨by omega, by omega, ?_⟩⟩⟩
  have f6 : Fr (fun b => b = 129) h h6 := by
    rw [e6, e5, e4, e3, e2]
    exact Fr_trans (Fr_trans (Fr_trans (Fr_trans (Fr_sI rfl) (Fr_sI rfl)) (Fr_sI rfl)) (Fr_sI rfl)) (Fr_sI rfl)
  have na : a = hN h := ea.trans f6.1
  have i6 : ∀ k, hI h6 129 k = if k = 8 then nI 0 else if k = 6 then nI n else if k = 2 then -1 else if k = 1 then nI 0 else if k = 0 then nI 0 else hI h 129 k := fun k => by
    rw [e6, hI_sI, e5, hI_sI, e4, hI_sI, e3, hI_sI, e2, hI_sI]
    simp only [true_and]
  have n10 : hN h10 = a + 1 := by rw [e10, hN_al, ea]
  refine u_X4_init (by rw [e10, hS_al, if_pos ea]) (by omega) ?_
  have hl10 : LX h10 := by rw [e10]; exact LX_al (LX_Fr f6 hl)
  have i14 : ∀ b, b ≠ a → hI (mk4 h10 a) b = hI h6 b := fun b hb => by
    funext j
    rw [mk4_I, hI_sI, if_neg (fun w => hb w.1), hI_sI, if_neg (fun w => hb w.1), hI_sI, if_neg (fun w => hb w.1), hI_sI, if_neg (fun w => hb w.1), hI_sI, if_neg (fun w => hb w.1), e10]
    exact hI_al _ _ _ _
  have s14 : ∀ b, b < a → hS (mk4 h10 a) b = hS h b := fun b hb => by
    rw [mk4_S, n10, if_neg (by omega), if_neg (by omega), if_neg (by omega), if_neg (by omega), if_neg (by omega), if_neg (by omega), if_neg (by omega), if_neg (by omega), if_neg (by omega), if_neg (by omega), e10, hS_al, if_neg (by omega), f6.2.1]
  have r14 : ∀ b j, b ≠ a → hR (mk4 h10 a) b j = hR h b j := fun b j hb => by
    rw [mk4_R, if_neg (fun w => hb w.1), if_neg (fun w => hb w.1), if_neg (fun w => hb w.1), if_neg (fun w => hb w.1), if_neg (fun w => hb w.1), if_neg (fun w => hb w.1), if_neg (fun w => hb w.1), if_neg (fun w => hb w.1), if_neg (fun w => hb w.1), if_neg (fun w => hb w.1), e10, hR_al, f6.2.2.2.1]
  have l14 : ∀ b, hL (mk4 h10 a) b = hL h b := fun b => by
    funext j
    rw [mk4_L, e10, hL_al, f6.2.2.1]
  have hl14 : LX (mk4 h10 a) := LX_keep hl (by rw [hN_mk4]; omega) (fun b hb => s14 b (by omega)) (fun b k hb _ => r14 b k (by omega))
  have nn14 : hN (mk4 h10 a) = a + 11 := by rw [hN_mk4, n10]
  refine ⟨S_129 hl14, fun h16 e16 => ?_⟩
  have i16 : ∀ b, hI h16 b = hI (mk4 h10 a) b := fun b => by rw [e16]; rfl
  have hl16 : LX h16 := by
    rw [e16]
    exact LX_sR hl14 tabR_129_5
  have nn16 : hN h16 = a + 11 := by rw [e16, hN_sR, nn14]
  have s16 : ∀ b, hS h16 b = hS (mk4 h10 a) b := fun b => by rw [e16, hS_sR]
  have r16 : ∀ b j, hR h16 b j = if b = 129 ∧ j = 5 then some a else hR (mk4 h10 a) b j := fun b j => by rw [e16, hR_sR]
  have l16 : ∀ b, hL h16 b = hL h b := fun b => by rw [e16]; exact l14 b
  refine ⟨131, R_129_4 hl16, S_131 hl16, S_131 hl16, fun g2 x2 g3 x3 g4 x4 g5 x5 g6 x6 => ?_⟩
  have fb : Fr (fun b => b = 131) h16 g6 := by
    rw [x6, x5, x4, x3, x2]
    exact Fr_trans (Fr_trans (Fr_trans (Fr_trans (Fr_sI rfl) (Fr_sI rfl)) (Fr_sI rfl)) (Fr_sI rfl)) (Fr_sI rfl)
  have b131 : ∀ k, 1 ≤ k → k ≤ 5 → hI g6 131 k = nI 0 := fun k a1 a2 => by
    rw [x6, hI_sI, x5, hI_sI, x4, hI_sI, x3, hI_sI, x2, hI_sI]
    rcases (show k = 1 ∨ k = 2 ∨ k = 3 ∨ k = 4 ∨ k = 5 by omega) with q | q | q | q | q <;> subst q <;> simp
  have hlb : LX g6 := LX_Fr fb hl16
  have ib : ∀ b, b ≠ 129 → b ≠ 131 → b ≠ a → hI g6 b = hI h b := fun b b1 b2 b3 => by rw [fb.2.2.2.2 b b2, i16, i14 b b3, f6.2.2.2.2 b b1]
  have ib9 : ∀ k, hI g6 129 k = hI h6 129 k := fun k => by rw [fb.2.2.2.2 129 (by omega), i16, i14 129 (by omega)]
  have iba : ∀ k, hI g6 a k = hI (mk4 h10 a) a k := fun k => by rw [fb.2.2.2.2 a (by omega), i16]
  have nnb : hN g6 = a + 11 := fb.1.trans nn16
  have sb : ∀ b, hS g6 b = hS (mk4 h10 a) b := fun b => by rw [fb.2.1]; exact s16 b
  have rb : ∀ b j, hR g6 b j = if b = 129 ∧ j = 5 then some a else hR (mk4 h10 a) b j := fun b j => by rw [fb.2.2.2.1]; exact r16 b j
  have lb : ∀ b, hL g6 b = hL h b := fun b => by rw [fb.2.2.1]; exact l16 b
  obtain ⟨m, em⟩ := nI_sur (hI g6 129 10)
  -- what the reading leaves alone
  have close : ∀ g, FrC a g6 g → LX g → FH h g := fun g fg lg => by
    refine ⟨by rw [fg.1.1, nnb]; omega, fun b hb => by rw [fg.1.2.1, sb, s14 b (by omega)], fun b hb hb2 => ⟨?_, ?_, ?_⟩, lg, ?_⟩
    · rw [fg.1.2.2.2.2 b (by omega), ib b (by omega) (by omega) (by omega)]
    · rw [fg.1.2.2.1, lb]
    · funext j
      rw [fg.1.2.2.2.1, rb, if_neg (by omega), r14 b j (by omega)]
    · rw [fg.2, ib9, i6]; rfl
  refine ⟨S_129 hlb, n_advance (h0 := g6) (T := T) (n := n) (p := 0) (Nat.zero_le _) (s := hI g6 129 7) (v := hI g6 129 9) ⟨hlb, FrR_rfl _, ⟨hn, by rw [ib9, i6]; rfl, fun k hk => by rw [ib 130 (by omega) (by omega) (by omega)]; exact tx k hk⟩, rfl, by rw [ib9, i6]; rfl, rfl, by rw [ib9, i6]; exact nI_0, by rw [ib9, i6]; rfl⟩ (fun g rd => ?_)⟩
  have hlg : LX g := rd.1
  have fr := rd.2.1
  have ig : ∀ b, b ≠ 129 → hI g b = hI g6 b := fun b hb => fr.1.2.2.2.2 b hb
  have ct : CT g6 g a T n m (tkN T n 0) (0, fun _ => 0) ((1, 0, 0, 0), (fun _ => 0, fun _ => 0, fun _ => 0, fun _ => 0), (0, 0, 0, 0)) := by
    refine ⟨⟨⟨TkOK_N (Nat.zero_le _), RdT_self rd, FrP_rfl _, by rw [fr.2 10 (by omega)]; exact em, by rw [ig 131 (by omega)]; exact b131 1 (by omega) (by omega), fun i hi => absurd hi (by show ¬ i < 0; omega)⟩, ⟨Fr_mono (fun b hb => Or.inl hb) fr.1, fr.2 0 (by omega)⟩, ?_, ?_⟩, ?_⟩
    · unfold NSh
      rw [fr.1.1, fr.1.2.1, fr.1.2.2.2.1]
      rw [rb, if_pos ⟨rfl, rfl⟩, sb, sb, sb, sb, sb, sb, sb, rb, rb, rb, rb, rb, rb, nnb]
      refine ⟨rfl, by omega, by omega, ?_, ⟨?_, ?_, ?_, ?_, ?_, ?_⟩, ?_, ?_, ?_, ?_, ?_, ?_⟩
      · rw [mk4_S, n10, if_neg (by omega), if_neg (by omega), if_neg (by omega), if_neg (by omega), if_neg (by omega), if_neg (by omega), if_neg (by omega), if_neg (by omega), if_neg (by omega), if_neg (by omega), e10, hS_al, if_pos ea]
      · rw [if_neg (by omega), mk4_R, n10]; simp
      · rw [if_neg (by omega), mk4_R, n10]; simp
      · rw [if_neg (by omega), mk4_R, n10]; simp
      · rw [if_neg (by omega), mk4_R, n10]; simp
      · rw [if_neg (by omega), mk4_R, n10]; simp
      · rw [if_neg (by omega), mk4_R, n10]; simp
      · rw [mk4_S, n10, if_neg (by omega), if_neg (by omega), if_neg (by omega), if_neg (by omega), if_neg (by omega), if_neg (by omega), if_neg (by omega), if_neg (by omega), if_neg (by omega), if_pos rfl]
      · rw [mk4_S, n10, if_neg (by omega), if_neg (by omega), if_neg (by omega), if_neg (by omega), if_neg (by omega), if_neg (by omega), if_neg (by omega), if_neg (by omega), if_pos (by omega)]
      · rw [mk4_S, n10, if_neg (by omega), if_neg (by omega), if_neg (by omega), if_neg (by omega), if_neg (by omega), if_neg (by omega), if_neg (by omega), if_pos (by omega)]
      · rw [mk4_S, n10, if_neg (by omega), if_neg (by omega), if_neg (by omega), if_neg (by omega), if_neg (by omega), if_neg (by omega), if_pos (by omega)]
      · rw [mk4_S, n10, if_neg (by omega), if_neg (by omega), if_neg (by omega), if_neg (by omega), if_neg (by omega), if_pos (by omega)]
      · rw [mk4_S, n10, if_neg (by omega), if_neg (by omega), if_neg (by omega), if_neg (by omega), if_pos (by omega)]
    · refine ⟨⟨?_, ?_, ?_, ?_, ?_⟩, fun l hl => absurd hl (by show ¬ l < 0; omega)⟩
      · rw [ig a (by omega), iba, mk4_I, hI_sI, if_neg (by omega), hI_sI, if_neg (by omega), hI_sI, if_neg (by omega), hI_sI, if_neg (by omega), hI_sI, if_pos ⟨rfl, rfl⟩]; rfl
      · rw [ig a (by omega), iba, mk4_I, hI_sI, if_neg (by omega), hI_sI, if_neg (by omega), hI_sI, if_neg (by omega), hI_sI, if_pos ⟨rfl, rfl⟩]; rfl
      · rw [ig a (by omega), iba, mk4_I, hI_sI, if_neg (by omega), hI_sI, if_neg (by omega), hI_sI, if_pos ⟨rfl, rfl⟩]; rfl
      · rw [ig a (by omega), iba, mk4_I, hI_sI, if_neg (by omega), hI_sI, if_pos ⟨rfl, rfl⟩]; rfl
      · rw [ig a (by omega), iba, mk4_I, hI_sI, if_pos ⟨rfl, rfl⟩]; exact nI_0
    · unfold LwC
      rw [ig 131 (by omega)]
      exact ⟨b131 2 (by omega) (by omega), b131 3 (by omega) (by omega), b131 4 (by omega) (by omega), b131 5 (by omega) (by omega)⟩
  refine ⟨S_129 hlg, CT_head ct (fun t2 cs2 v2 g7 eh p => ?_) (fun e g7 eh f => ⟨1, ?_⟩)⟩
  · have tf := TF_head (TkOK_N (Nat.zero_le _)) eh
    have en : netL T n = linesL T n (n + 1) t2 cs2 v2 := by
      unfold netL
      rw [eh]
      rfl
    refine ⟨_, CT_lines (n + 1) 0 m t2 cs2 v2 g7 p tf.2.2.2.1 tf.2.1 (Nat.zero_le _) (by omega) (fun m3 t3 cs3 v3 g8 e3 p3 => ?_) (fun e g8 e3 f3 => ?_)⟩
    · have tf3 := TF_net (en.trans e3)
      have t24 := lines_end _ _ _ _ e3
      have ta := tf3.1.1
      have l9 := tf3.2.1
      have l10 := tf3.2.2.1
      obtain ⟨⟨pc, fc, ns, nn⟩, lw⟩ := id p3
      have zg : Zh g8 := fun b k hb => by
        rw [fc.1.1, nnb] at hb
        have z := zh b k (by omega)
        refine ⟨?_, ?_, ?_⟩
        · rw [fc.1.2.2.2.2 b (by omega), ib b (by omega) (by omega) (by omega)]; exact z.1
        · rw [fc.1.2.2.1, lb]; exact z.2.1
        · rw [fc.1.2.2.2.1, rb, if_neg (by omega), r14 b k (by omega)]; exact z.2.2
      have z6 : ∀ r, hL g8 (a + 6) r = 0 := fun r => by
        rw [fc.1.2.2.1, lb]
        exact (zh (a + 6) r (by omega)).2.1
      refine ⟨fun _ => ⟨S_129 pc.2.1.1, a, ns.1, 131, R_129_4 pc.2.1.1, ns.2.2.2.1, by omega, by omega, n_settle p3 tf3.2.2.2 (by omega) (by omega) zg z6 (fun h1 hl1 hn1 es1 ei1 nv er => ?_)⟩, fun z => absurd z (by decide)⟩
      have fh := close g8 fc pc.2.1.1
      have ng8 : hN g8 = a + 11 := fc.1.1.trans nnb
      have i1 := ei1 129 (by omega) (by omega) (by omega) (by omega)
      refine ⟨S_129 hl1, a, by rw [i1.2.2]; exact ns.1, k1 t3 cs3 v3 h1 a (en.trans e3) ?_ ?_ ?_ nv er⟩
      · refine ⟨by omega, fun b hb => by rw [es1 b (by omega)]; exact fh.2.1 b hb, fun b hb hb2 => ?_, hl1, by rw [i1.1]; exact fh.2.2.2.2⟩
        have x := ei1 b (by omega) (by omega) (by omega) (by omega)
        rw [x.1, x.2.1, x.2.2]
        exact fh.2.2.1 b hb hb2
      · rw [i1.1, pc.2.1.2.2.2.2.2.2.1, if_neg (by omega)]
      · rw [i1.1, pc.2.1.2.2.2.2.2.2.2, if_neg (by omega)]
    · exact ⟨fun z => absurd nI_0 z, fun _ => k0 e g8 (en.trans e3) (close g8 f3.2.1 f3.1) f3.2.2.1 f3.2.2.2.1 f3.2.2.2.2.1 f3.2.2.2.2.2⟩
  · have en : netL T n = .inl e := by
      unfold netL
      rw [eh]
      rfl
    have d : wX5_readNet_87 Q 5 960 129 (nI 0) g7 := ⟨fun z => absurd nI_0 z, fun _ => k0 e g7 en (close g7 f.2.1 f.1) f.2.2.1 f.2.2.2.1 f.2.2.2.2.1 f.2.2.2.2.2⟩
    exact ⟨fun z => absurd z (by decide), fun _ => ⟨fun _ => d, fun z => absurd nI_0 z⟩⟩
