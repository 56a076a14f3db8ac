/-! Part z0a: net, both sides. -/
def as0 (r : Nat) : AS := (r, 0, fun _ => 0, fun _ => none)
theorem CvEq_FH {h g : MH} (f : FH h g) (hl : LX h) : CvEq h g := ⟨f.1, fun b hb => by
  have := hl.1
  have q := f.2.2.1 b (by omega) (by omega)
  exact ⟨f.2.1 b (by omega), q.1, q.2.1, q.2.2⟩⟩
theorem TY_FH {h g : MH} (e : ∀ b, 207 ≤ b → b ≤ 243 → b < 215 ∨ 241 ≤ b → hI g b = hI h b ∧ hL g b = hL h b) (p : TY h) : TY g := by
  intro t ht
  have q := p t ht
  unfold TY1 at *
  rw [(e (207 + 2 * t) (by omega) (by omega) (by omega)).1, (e 241 (by omega) (by omega) (by omega)).1, (e 242 (by omega) (by omega) (by omega)).1, (e (208 + 2 * t) (by omega) (by omega) (by omega)).2, (e 243 (by omega) (by omega) (by omega)).2]
  exact q
theorem ST3_net_c {lp : NV → Nat → Nat → Nat} {A : Nat} : ST3_net (RLY (RRc (CVA lp A))) (RLY (RRc (CVA lp A))) := by
  intro y h hr zh P kP
  obtain ⟨hl, t1, t2, d, ok, c, m⟩ := hr
  have ck := CVA_keep lp A
  have h244 := hl.1
  have cl := rd_close (x := nI 0) ck hl t1 t2 ok c m
  obtain ⟨nf, n900, e1, e2, tp, f1, f2⟩ := id t1
  -- a number that can't be
  have refuse : ¬ (0 ≤ y.toInt ∧ y.toInt ≤ (nf : Int)) → P (-3) h := fun z => kP _ _ (S_223 hl) (fun P2 k2 => by
    refine ⟨S_223 hl, fun h2 x2 => u_within (fun p1 p2 => absurd ⟨p1, ?_⟩ z) (fun _ => ⟨fun q => absurd nI_0 q, fun _ => ?_⟩)⟩
    · rw [x2]
      exact k2 _ cl
    · rw [show hI h2 223 5 = nI nf from by rw [x2, hI_sI, if_neg (by omega)]; exact e2, Int32.toInt_toInt64, nI_tI (by omega)] at p2
      exact p2)
  have n0 : (0 : Int32).toInt = 0 := by decide
  refine ⟨fun z => refuse (fun q => ?_), fun z => ⟨S_128 hl, 129, R_128_0 hl, S_129 hl, fun z2 => ⟨by omega, by omega, ?_⟩, fun z2 => refuse (fun q => ?_)⟩⟩
  · have := Int32.lt_iff_toInt_lt.mp z
    omega
  rotate_left
  · rw [e1] at z2
    refine z2 (Int32.le_iff_toInt_le.mpr ?_)
    rw [nI_tI (by omega)]
    exact q.2
  rw [e1] at z2
  have yc := nI_cases y nf (by omega)
  have yy : 0 ≤ y.toInt ∧ y.toInt ≤ (nf : Int) := by
    have a1 := Int32.le_iff_toInt_le.mp (Int32.not_lt.mp z)
    have a2 := Int32.le_iff_toInt_le.mp z2
    rw [nI_tI (by omega)] at a2
    omega
  rcases yc with ⟨n, hn, ey⟩ | yc
  rotate_left
  · exact absurd yy yc
  subst ey
  -- the text
  have tT : ∀ k, k < n → (hI h 226 k).toNatClampNeg < 256 ∧ hI h 130 k = sgn8 (nI (hI h 226 k).toNatClampNeg) ∧ hI h 226 k = nI (hI h 226 k).toNatClampNeg := fun k hk => by
    obtain ⟨x1, b, b1, b2⟩ := tp k (by omega)
    have e : (hI h 226 k).toNatClampNeg = b := by rw [b2]; exact nI_clamp (by omega)
    rw [e]
    refine ⟨b1, ?_, b2⟩
    rw [x1, b2]
  refine n_read (T := fun k => (hI h 226 k).toNatClampNeg) hl zh (by omega) (fun k hk => ⟨(tT k hk).1, (tT k hk).2.1⟩) (fun t2' cs v g a en fh f129 f129b nv er => ⟨fun a9 ea9 => ?_, fun z => absurd z (by simp)⟩) (fun e g en fh p0 p5 g1 g2 => ⟨fun a9 ea9 => absurd ea9 (by simp), fun _ => ?_⟩)
  · injection ea9 with ea9
    subst ea9
    obtain ⟨fh1, fh2, fh3, lg, fh5⟩ := id fh
    have tf := TF_net en
    have tr := Tn_rate en
    have okT := tf.2.2.2
    have cs9 : cs.1 ≤ 900 := by
      have := tf.1.1
      have := tf.2.1
      omega
    have na : (135 ≤ a ∧ a ≤ 145) ∨ 244 ≤ a := by
      have := nv.2.2.1
      unfold NA at this
      omega
    refine ⟨S_128 lg, fun h11 e11 => ?_⟩
    have l11 : LX h11 := by rw [e11]; exact LX_sR lg tabR_128_1
    have i11 : hI h11 = hI g := by rw [e11]; rfl
    refine ⟨146, R_128_2 l11, by rw [e11, hS_sR]; exact nv.2.1, S_146 l11, ?_⟩
    rw [i11, er]
    refine u_begin6 l11 (by decide) ?_
    have l17 := LX_bgS (a := 146) (r := nI (tnR v)) l11
    have f17 : Fr (fun b => 146 ≤ b ∧ b ≤ 148) h11 (bgS h11 146 (nI (tnR v))) := by
      unfold bgS mdS
      exact Fr_trans (Fr_trans (Fr_trans (Fr_sI (by omega)) (Fr_rI (by omega))) (Fr_sI (by omega))) (Fr_rI (by omega))
    have s17 := bgS_V h11 146 (nI (tnR v))
    refine ⟨S_128 l17, 165, R_128_5 l17, S_165 l17, u_forget l17 ?_⟩
    generalize e17 : bgS h11 146 (nI (tnR v)) = h17 at l17 f17 s17 ⊢
    generalize e23 : sI h17 165 2 (nI 0) = h23
    have f23 : Fr (fun b => (146 ≤ b ∧ b ≤ 148) ∨ b = 165) h11 h23 := by
      rw [← e23]
      exact Fr_trans (Fr_mono (fun b q => Or.inl q) f17) (Fr_sI (Or.inr rfl))
    have l23 : LX h23 := LX_Fr f23 l11
    have ig : ∀ b, ¬ ((146 ≤ b ∧ b ≤ 148) ∨ b = 165) → hI h23 b = hI g b := fun b hb => by rw [f23.2.2.2.2 b hb, i11]
    have hr23 : ∀ b j, hR h23 b j = if b = 128 ∧ j = 1 then some a else hR g b j := fun b j => by rw [f23.2.2.2.1, e11, hR_sR]
    have hl23 : hL h23 = hL g := by rw [f23.2.2.1, e11]; rfl
    have hs23 : hS h23 = hS g := by rw [f23.2.1, e11]; rfl
    have hn23 : hN h23 = hN g := by rw [f23.1, e11]; rfl
    have nq : NetEq g h23 := ⟨by omega, fun b hb => ⟨by rw [hs23], ig b (by unfold NA at hb; omega), by funext j; rw [hr23, if_neg (by unfold NA at hb; omega)], fun _ => by rw [hl23]⟩⟩
    have nv23 := NetV_keep nq nv
    refine ⟨by rw [hs23]; exact nv.2.1, ?_⟩
    rw [show hI h23 a 2 = nI (tnN v) from nv23.2.2.2.2.1]
    refine kP _ _ (S_223 l23) (fun P2 k2 => ?_)
    have fh26 : ∀ b, 135 ≤ b → b < 244 → ¬ ((146 ≤ b ∧ b ≤ 148) ∨ b = 165) → hI h23 b = hI h b := fun b b1 b2 b3 => by rw [ig b b3, (fh3 b (by omega) (by omega)).1]
    refine m_netR (T := fun k => (hI h 226 k).toNatClampNeg) (nf := nf) l23 hn n900 (by rw [fh26 223 (by omega) (by omega) (by omega)]; exact e2) (fun k hk => by rw [fh26 226 (by omega) (by omega) (by omega)]; exact ⟨(tT k hk).1, (tT k hk).2.2⟩) (fun t3 cs3 v3 g5 en3 l5 f5 a5 a13 a14 mi cd old rg => ?_) (fun e g5 en3 => by rw [en] at en3; exact absurd en3 (by simp))
    have eq3 := lr_inr (en.symm.trans en3)
    injection eq3 with q1 q2
    injection q2 with q2 q3
    subst q2
    subst q3
    refine k2 g5 ?_
    have i5 : ∀ b, (b < 223 ∨ b = 225 ∨ b = 226 ∨ 234 ≤ b) → hI g5 b = hI h23 b := fun b hb => f5.2.2.2.2 b (by omega)
    have cv : CvEq h g5 := by
      have q := CvEq_FH fh hl
      refine ⟨by rw [f5.1, hn23]; exact q.1, fun b hb => ?_⟩
      obtain ⟨w1, w2, w3, w4⟩ := q.2 b hb
      refine ⟨by rw [f5.2.1, hs23]; exact w1, by rw [i5 b (by omega), ig b (by omega)]; exact w2, by rw [f5.2.2.1, hl23]; exact w3, ?_⟩
      rw [f5.2.2.2.1]
      funext j
      rw [hr23, if_neg (by omega), w4]
    refine ⟨l5, ⟨0, by omega, ?_, a5, fun k hk => absurd hk (by omega), ?_, ?_⟩, ?_, (nvOf v cs, as0 (tnR v), [], dI d), ⟨⟨?_, ?_, fun k _ => ⟨Nat.zero_le _, fun _ => rfl⟩, fun u _ c k p z => absurd z (by simp [asW, dS, as0])⟩, fun s hs => absurd hs (by simp [dH]), by simp [dH], ok.2.2.2⟩, ⟨⟨a, ?_, ?_⟩, ?_, ?_, fun t ht => ?_, fun k hk => ?_, ck h g5 cv c.2.2.2.2.2⟩, okT.2.1.1, ?_, rg, ?_, ?_, fun i s hs => absurd hs (by simp [dH]), fun t ht => ?_⟩
    · rw [i5 129 (by omega), ig 129 (by omega), fh5]; exact nI_0.symm
    · rw [i5 129 (by omega), ig 129 (by omega), f129, a13]
    · rw [i5 129 (by omega), ig 129 (by omega), f129b, a14]
    · refine TY_FH (fun b b1 b2 b3 => ⟨?_, ?_⟩) t2
      · rw [i5 b (by omega)]; exact fh26 b (by omega) (by omega) (by omega)
      · rw [f5.2.2.1, hl23, (fh3 b (by omega) (by omega)).2.1]
    · show tnR v < 10
      omega
    · show 0 < 2 ^ tnL v
      exact Nat.two_pow_pos _
    · rw [f5.2.2.2.1, hr23, if_pos ⟨rfl, rfl⟩]
    · refine NetV_keep ⟨by rw [f5.1]; exact Nat.le_refl _, fun b hb => ⟨by rw [f5.2.1], i5 b (by unfold NA at hb; omega), by rw [f5.2.2.2.1], fun _ => by rw [f5.2.2.1]⟩⟩ nv23
    · have sv : StV h23 146 (nI (tnR v), 0, (fun _ => 0), fun _ => -1) := by
        rw [← e23]
        exact StV_row (hI_sI_row (by omega)) (hI_sI_row (by omega)) (hI_sI_row (by omega)) s17
      have sv5 : StV g5 146 (nI (tnR v), 0, (fun _ => 0), fun _ => -1) := StV_row (i5 146 (by omega)) (i5 147 (by omega)) (i5 148 (by omega)) sv
      exact ⟨sv5.1, sv5.2.1.trans nI_0.symm, fun k hk => (sv5.2.2.1 k hk).trans nI_0.symm, sv5.2.2.2⟩
    · obtain ⟨pp, hi⟩ := c.2.2.1
      have hi11 : HiV h17 pp ((dH d).map encS) := HiV_row (fun b b1 b2 => by rw [f17.2.2.2.2 b (by omega), i11, (fh3 b (by omega) (by omega)).1]) hi
      have hi23 : HiV h23 pp [] := by rw [← e23]; exact forget_V hi11
      exact ⟨pp, HiV_row (fun b b1 b2 => i5 b (by omega)) hi23⟩
    · refine ImC_cong ht (CvEq_net cv) ?_ (fun b b1 b2 => by rw [i5 b (by omega)]; exact fh26 b (by omega) (by omega) (by omega)) (c.2.2.2.1 t ht)
      rw [f5.2.2.2.1, hr23, if_neg (by omega), (fh3 215 (by omega) (by omega)).2.2]
    · rw [i5 198 (by omega), fh26 198 (by omega) (by omega) (by omega)]
      exact c.2.2.2.2.1 k hk
    · exact MNet_of cs9 okT ⟨mi.1.1, mi.1.2.1, mi.1.2.2.1⟩ mi.2.1 mi.2.2.1 cd
    · refine ⟨fun c hc hb => ?_, ?_, ?_, fun u j hu hj => ?_⟩
      · have hb40 : bcN (asM (nvOf v cs) (as0 (tnR v))) c ≤ c := bcN_le _ _
        have C40 : ofC v ≤ 40 := forty okT.2.1 okT.2.2.1
        have hc : c < ofC v := hc
        show hI g5 224 (49 + bcN (asM (nvOf v cs) (as0 (tnR v))) c) = nI 0
        rw [mi.2.2.2 _ (by omega) (by omega) (by omega)]
        exact nI_0.symm
      · show hI g5 224 113 = nI 0
        rw [mi.2.2.2 _ (by omega) (by omega) (by omega)]
        exact nI_0.symm
      · exact mi.1.2.2.2
      · show hI g5 224 (49 + (66 + 3 * u + j)) = 0
        exact mi.2.2.2 _ (by omega) (by omega) (by omega)
    · show hI g5 224 175 = nI 0
      rw [mi.2.2.2 _ (by omega) (by omega) (by omega)]
      exact nI_0.symm
    · have mt := m.2.2.2.2.2.2 t ht
      have e25 : hI g5 225 = hI h 225 := by rw [i5 225 (by omega)]; exact fh26 225 (by omega) (by omega) (by omega)
      have e24 : ∀ j, 2337 ≤ j → hI g5 224 j = hI h 224 j := fun j hj => by rw [old j hj, fh26 224 (by omega) (by omega) (by omega)]
      show ImM g5 t (dI d t)
      cases hd : dI d t with
      | none =>
        rw [hd] at mt
        show hI g5 225 t = 0
        rw [e25]
        exact mt
      | some w =>
        obtain ⟨w, s⟩ := w
        rw [hd] at mt
        obtain ⟨m1, m2, m3, m4⟩ := mt
        have ef : (fun k => hI g5 224 (2337 * (t + 1) + k)) = fun k => hI h 224 (2337 * (t + 1) + k) := funext (fun k => e24 _ (by omega))
        have ef2 : (fun k => hI g5 224 (2337 * (t + 1) + 49 + k)) = fun k => hI h 224 (2337 * (t + 1) + 49 + k) := funext (fun k => e24 _ (by omega))
        refine ⟨by rw [e25]; exact m1, m2, ?_, ?_⟩
        · rw [ef]; exact m3
        · rw [ef2]; exact m4
  · obtain ⟨fh1, fh2, fh3, lg, fh5⟩ := id fh
    have ih : ∀ b, 135 ≤ b → b < 244 → hI g b = hI h b := fun b b1 b2 => (fh3 b (by omega) (by omega)).1
    refine ⟨S_128 lg, 129, R_128_0 lg, S_129 lg, ?_⟩
    rw [g1]
    refine kP _ _ (S_223 lg) (fun P2 k2 => m_netR (T := fun k => (hI h 226 k).toNatClampNeg) (nf := nf) lg hn n900 (by rw [ih 223 (by omega) (by omega)]; exact e2) (fun k hk => by rw [ih 226 (by omega) (by omega)]; exact ⟨(tT k hk).1, (tT k hk).2.2⟩) (fun t3 cs3 v3 g5 en3 => by rw [en] at en3; exact absurd en3 (by simp)) (fun e3 g5 en3 _ _ l5 f5 a5 a13 a14 a23 => ?_))
    have eq3 : e = e3 := by
      have := en.symm.trans en3
      injection this
    subst eq3
    refine k2 g5 ?_
    have i5 : ∀ b, b ≠ 223 → b ≠ 227 → hI g5 b = hI g b := fun b b1 b2 => f5.2.2.2.2 b (by omega)
    have cv : CvEq h g5 := by
      have q := CvEq_FH fh hl
      refine ⟨by rw [f5.1]; exact q.1, fun b hb => ?_⟩
      obtain ⟨w1, w2, w3, w4⟩ := q.2 b hb
      exact ⟨by rw [f5.2.1]; exact w1, by rw [i5 b (by omega) (by omega)]; exact w2, by rw [f5.2.2.1]; exact w3, by rw [f5.2.2.2.1]; exact w4⟩
    refine ⟨l5, ⟨0, by omega, ?_, a5, fun k hk => absurd hk (by omega), ?_, ?_⟩, ?_, d, ok, ?_, ?_⟩
    · rw [i5 129 (by omega) (by omega), fh5]; exact nI_0.symm
    · rw [i5 129 (by omega) (by omega), g1, a13]
    · rw [i5 129 (by omega) (by omega), g2, a14]
    · refine TY_FH (fun b b1 b2 b3 => ⟨?_, ?_⟩) t2
      · rw [i5 b (by omega) (by omega)]; exact ih b (by omega) (by omega)
      · rw [f5.2.2.1, (fh3 b (by omega) (by omega)).2.1]
    · refine CP_cong ck cv ?_ (fun t ht => ?_) (fun b b1 b2 => by rw [i5 b (by omega) (by omega)]; exact ih b (by omega) (by omega)) c
      · rw [f5.2.2.2.1, (fh3 128 (by omega) (by omega)).2.2]
      · rw [f5.2.2.2.1, (fh3 215 (by omega) (by omega)).2.2]
    · exact MP_cong (by rw [a23, ih 223 (by omega) (by omega)]) (by rw [i5 224 (by omega) (by omega)]; exact ih _ (by omega) (by omega)) (by rw [i5 225 (by omega) (by omega)]; exact ih _ (by omega) (by omega)) (fun b b1 b2 => by rw [i5 b (by omega) (by omega)]; exact ih b (by omega) (by omega)) m
