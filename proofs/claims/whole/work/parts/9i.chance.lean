/-! ===== chance, mean ===== -/
def LFr (h g : MH) : Prop := hN g = hN h ∧ hS g = hS h ∧ hR g = hR h ∧ (∀ b, b ≠ 205 → b ≠ 223 → hL g b = hL h b) ∧ (∀ b, ¬ SL 3 b → b ≠ 223 → b ≠ 240 → hI g b = hI h b) ∧ (∀ k, 1 ≤ k → hI g 223 k = hI h 223 k) ∧ ∀ k, k < 360 → hI g 198 k = 0
theorem lfr_close {CV : MH → Prop} (ck : ∀ h h1, CvEq h h1 → CV h → CV h1) {h g : MH} {d : DV} (hl : LX h) (t1 : TP h) (t2 : TY h) (ok : DOK d) (c : CP CV h d) (m : MP h d) (f : LFr h g) : RLY (RRc CV) g := by
  obtain ⟨f1, f2, f3, f4, f5, f6, f7⟩ := f
  have ni : ∀ b, ¬ ((156 ≤ b ∧ b < 165) ∨ b = 198 ∨ b = 223 ∨ b = 240) → hI g b = hI h b := fun b hb => f5 b (by unfold SL; omega) (by omega) (by omega)
  have q : CvEq h g := ⟨Nat.le_of_eq f1.symm, fun b hb => ⟨by rw [f2], ni b (by omega), f4 b (by omega) (by omega), by rw [f3]⟩⟩
  refine ⟨?_, TP_cong (ni _ (by omega)) (ni _ (by omega)) (ni _ (by omega)) (f6 _ (by omega)) (f6 _ (by omega)) (f6 _ (by omega)) t1, ?_, d, ok, ?_, MP_cong (f6 _ (by omega)) (ni _ (by omega)) (ni _ (by omega)) (fun b b1 b2 => ni b (by omega)) m⟩
  · unfold LX
    rw [f1, f2, f3]
    exact hl
  · intro t ht
    have y := t2 t ht
    unfold TY1 at *
    rw [ni (207 + 2 * t) (by omega), ni 241 (by omega), ni 242 (by omega), f4 (208 + 2 * t) (by omega) (by omega), f4 243 (by omega) (by omega)]
    exact y
  · obtain ⟨⟨a, ca, cn⟩, cs, ⟨p, ch⟩, ci, cb, cv⟩ := c
    exact ⟨⟨a, by rw [f3]; exact ca, NetV_keep (CvEq_net q) cn⟩, StV_row (ni _ (by omega)) (ni _ (by omega)) (ni _ (by omega)) cs, ⟨p, HiV_row (fun b b1 b2 => ni b (by omega)) ch⟩, fun t ht => ImC_cong ht (CvEq_net q) (by rw [f3]) (fun b b1 b2 => ni b (by omega)) (ci t ht), f7, ck h g q cv⟩
theorem nI_lN {n : Nat} (h : n < 2 ^ 31) : (nI n).toInt64 = lN n := by
  apply Int64.toInt_inj.mp
  rw [Int32.toInt_toInt64, nI_toInt h, lN_toInt h]
theorem pow10_le : ∀ n, n ≤ 3 → 10 ^ n ≤ 1000 := by decide
theorem lot_le {v : NV} (hv : NvOK v) {u : Nat} : ∀ n s, lotV v (valC v u) n s ≤ 20 * 10 ^ n
  | 0, s => by
    have le := lost_le hv s
    show valC v u s ≤ 20 * 10 ^ 0
    unfold valC
    by_cases q : u = 0
    · rw [if_pos q]
      by_cases q2 : lostA v s = 0
      · rw [if_pos q2]; omega
      · rw [if_neg q2]; omega
    · rw [if_neg q]; omega
  | n + 1, s => by
    have h := sumC_le (f := fun l => lotV v (valC v u) n (lotS v s l)) (b := 20 * 10 ^ n) 10 (fun k _ => lot_le hv n _)
    show sumC (fun l => lotV v (valC v u) n (lotS v s l)) 10 ≤ 20 * 10 ^ (n + 1)
    rw [Nat.pow_succ]
    omega
noncomputable def lotA (v : NV) (u n w : Nat) (s : AS) : Int32 := if w = 0 then nI (lotV v (valC v u) n s / Nat.gcd (lotV v (valC v u) n s) (10 ^ n)) else nI (10 ^ n / Nat.gcd (lotV v (valC v u) n s) (10 ^ n))
theorem n_lots {Q : Int32 → MH → Prop} {h : MH} {v : NV} {s : AS} {a u n w : Nat} (hu : u < 2) (hn : n ≤ 3) (hw : w < 2) (hl : LX h) (ca : hR h 128 1 = some a) (p : NetV h a v) (ok : AsOK v s) (ps : StV h 146 (encS s)) (hz : ∀ k, k < 360 → hI h 198 k = 0) (hq : ∀ g, LFr h g → hI g 223 = hI h 223 → hI g 240 = hI h 240 → hL g 223 = hL h 223 → Q (lotA v u n w s) g) : wX9_lotsFraction 128 (nI n) (nI w) (nI u) h Q := by
  have le := lot_le (u := u) p.1 n s
  have p10 := pow10_le n hn
  have p0 : 0 < 10 ^ n := Nat.pow_pos (by omega)
  have lp : ∀ m i, i + m = n → wX9_lotsFraction_30 Q (m + 1) 128 (nI n) (nI w) (nI u) (nI (10 ^ i)) (nI i) h := by
    intro m
    induction m with
    | zero =>
      intro i hi
      have hi : i = n := by omega
      subst hi
      unfold wX9_lotsFraction_30
      refine ⟨fun _ => ⟨S_128 hl, 205, R_128_8 hl, 146, R_128_2 hl, n_sumLots hu i 300 146 s h _ (by omega) hn hl ca p ok (by decide) ps hz (by omega) (by omega) (fun g f hzg => ?_)⟩, fun z => absurd (nI_le (Nat.le_refl _) (by omega)) z⟩
      have hlg := LX_Fr f hl
      refine ⟨S_205 hlg, ?_⟩
      rw [nI_lN (by omega), nI_lN (by omega)]
      refine n_begin1 (k := 10) hlg (by omega) (by omega) p0 (by omega) (by omega) ⟨S_128 hlg, 205, R_128_8 hlg, S_205 hlg, ?_⟩
      have fin : LFr h (sL (sL g 205 0 (lN (lotV v (valC v u) i s / Nat.gcd (lotV v (valC v u) i s) (10 ^ i)))) 205 1 (lN (10 ^ i / Nat.gcd (lotV v (valC v u) i s) (10 ^ i)))) := by
        refine ⟨f.1, f.2.1, f.2.2.2.1, fun b b1 b2 => ?_, fun b b1 b2 b3 => f.2.2.2.2 b (fun q => b1 (by unfold SL at q ⊢; omega)), fun k _ => Fr_I f (by unfold SL; omega) k, hzg⟩
        funext k
        rw [hL_sL, if_neg (by omega), hL_sL, if_neg (by omega), f.2.2.1]
      have k := hq _ fin (f.2.2.2.2 223 (by unfold SL; omega)) (f.2.2.2.2 240 (by unfold SL; omega)) (by
        funext k
        rw [hL_sL, if_neg (by omega), hL_sL, if_neg (by omega), f.2.2.1])
      unfold lotA at k
      unfold wX1_part
      refine ⟨fun z => ⟨S_205 hlg, ?_⟩, fun z => ⟨S_205 hlg, ?_⟩⟩
      · have w1 : w ≠ 0 := fun y => z (by rw [y]; exact nI_0)
        rw [hL_sL, if_pos ⟨rfl, rfl⟩]
        show Q (lN _).toInt32 _
        rw [lN_i]
        rw [if_neg w1] at k
        exact k
      · have w0 : w = 0 := (nI_eq0 (by omega)).mp z
        rw [hL_sL, if_neg (by omega), hL_sL, if_pos ⟨rfl, rfl⟩]
        show Q (lN _).toInt32 _
        rw [lN_i]
        rw [if_pos w0] at k
        exact k
    | succ m im =>
      intro i hi
      unfold wX9_lotsFraction_30
      refine ⟨fun z => absurd z (nI_ge (by omega) (by omega)), fun _ => ?_⟩
      rw [nI_mul, nI_add, show 10 ^ i * 10 = 10 ^ (i + 1) from rfl]
      exact im (i + 1) (by omega)
  unfold wX9_lotsFraction
  exact ⟨fun z => absurd z (nI_pos (by omega)), fun _ => ⟨fun _ => ⟨fun z => absurd z (nI_pos (by omega)), fun _ => ⟨fun _ => ⟨n + 1, lp n 0 (by omega)⟩, fun z => absurd (nI_le (by omega) (by omega)) z⟩⟩, fun z => absurd (nI_le (by omega) (by omega)) z⟩⟩
theorem m_wholeOf {Q : Int64 → MH → Prop} {h : MH} {n : Nat} (hn : n ≤ 3) (hq : Q (lN (10 ^ n)) h) : wX10_wholeOf (nI n) h Q := by
  have lp : ∀ m i, i + m = n → wX10_wholeOf_4 Q (m + 1) (nI n) (lN (10 ^ i)) (nI i) h := by
    intro m
    induction m with
    | zero =>
      intro i hi
      have hi : i = n := by omega
      subst hi
      unfold wX10_wholeOf_4
      exact ⟨fun _ => hq, fun z => absurd (nI_le (Nat.le_refl _) (by omega)) z⟩
    | succ m im =>
      intro i hi
      unfold wX10_wholeOf_4
      refine ⟨fun z => absurd z (nI_ge (by omega) (by omega)), fun _ => ?_⟩
      rw [show (10 : Int64) = lN 10 from rfl, lN_mul, nI_add, show 10 ^ i * 10 = 10 ^ (i + 1) from rfl]
      exact im (i + 1) (by omega)
  exact ⟨n + 1, lp n 0 (by omega)⟩
theorem m_part {Q : Int32 → MH → Prop} {h : MH} {d : DV} {u n w : Nat} (hu : u < 2) (hn : n ≤ 3) (hw : w < 2) (hl : LX h) (hv : NvOK (dN d)) (ok : AsOK (dN d) (dS d)) (m : MP h d) (hq : ∀ g, LotI 3 h g → Q (lotA (dN d) u n w (dS d)) g) : wX10_part 223 (nI (1 - u)) (nI n) (nI w) h Q := by
  have le := lot_le (u := u) hv n (dS d)
  have p10 := pow10_le n hn
  have p0 : 0 < 10 ^ n := Nat.pow_pos (by omega)
  refine ⟨S_223 hl, fun g1 e1 g2 e2 => ?_⟩
  have hi : hI g2 = hI h := by rw [e2, e1]; rfl
  have hl2 : LX g2 := by rw [e2, e1]; exact LX_sL (LX_sL hl)
  have z32 : hL g2 223 32 = 0 := by rw [e2, hL_sL, if_neg (by omega), e1, hL_sL, if_pos ⟨rfl, rfl⟩]
  have z33 : hL g2 223 33 = 0 := by rw [e2, hL_sL, if_pos ⟨rfl, rfl⟩]
  have p2 : LotI 3 h g2 := ⟨by rw [e2, e1]; rfl, by rw [e2, e1]; rfl, by rw [e2, e1]; rfl, fun b k z => by rw [e2, hL_sL, if_neg (by omega), e1, hL_sL, if_neg (by omega)], fun b _ => by rw [hi], fun k _ => by rw [hi]⟩
  refine m_goesLots hv n 300 (dS d) g2 _ (by omega) hn hl2 (by rw [hi]; exact m.2.1) (by unfold RgV; rw [hi]; exact m.2.2.1) ok (by rw [hi]; exact m.2.2.2.1) (fun g3 p3 a1 a2 => ?_)
  have hl3 := LX_Lot p3 hl2
  have pz : LotI 3 h g3 := Lot_trans p2 ⟨p3.1, p3.2.1, p3.2.2.1, p3.2.2.2.1, p3.2.2.2.2.1, fun k z => p3.2.2.2.2.2 k (by omega)⟩
  rw [z32] at a1
  rw [z33] at a2
  have a1' : hL g3 223 32 = lN (lotV (dN d) (valC (dN d) 0) n (dS d)) := a1.trans (Int64.zero_add _)
  have a2' : hL g3 223 33 = lN (lotV (dN d) (valC (dN d) 1) n (dS d)) := a2.trans (Int64.zero_add _)
  have g0 : 0 < Nat.gcd (lotV (dN d) (valC (dN d) u) n (dS d)) (10 ^ n) := Nat.gcd_pos_of_pos_right _ p0
  have gl : Nat.gcd (lotV (dN d) (valC (dN d) u) n (dS d)) (10 ^ n) ≤ 10 ^ n := Nat.gcd_le_right _ p0
  have k := hq g3 pz
  unfold lotA at k
  have fin : wX10_part_30 Q (nI n) (nI w) (lN (lotV (dN d) (valC (dN d) u) n (dS d))) g3 := by
    have p45 : ∀ s0 : Nat, s0 < 2 ^ 62 → Q (nI (s0 / Nat.gcd (lotV (dN d) (valC (dN d) u) n (dS d)) (10 ^ n))) g3 → wX10_part_45 Q (nI n) (lN (lotV (dN d) (valC (dN d) u) n (dS d))) (lN s0) g3 := fun s0 hs0 k0 => by
      refine m_wholeOf hn (m_common (2 * 10 + 1) 300 _ _ (by omega) (by omega) (by omega) (eu_steps 10 _ _ (by omega)) ⟨lN_ne0 (by omega) (by omega), ?_⟩)
      rw [lN_divN hs0 (by omega) g0, lN_i]
      exact k0
    unfold wX10_part_30
    refine ⟨fun z => m_wholeOf hn (p45 (10 ^ n) (by omega) ?_), fun z => p45 _ (by omega) ?_⟩
    · have w1 : w ≠ 0 := fun y => z (by rw [y]; exact nI_0)
      rw [if_neg w1] at k
      exact k
    · have w0 : w = 0 := (nI_eq0 (by omega)).mp z
      rw [if_pos w0] at k
      exact k
  refine ⟨fun z => ⟨S_223 hl3, ?_⟩, fun z => ⟨S_223 hl3, ?_⟩⟩
  · have u1 : u = 1 := by
      have := (nI_eq0 (n := 1 - u) (by omega)).mp z
      omega
    rw [a2', ← u1]
    exact fin
  · have u0 : u = 0 := by
      apply Classical.byContradiction
      intro y
      exact z ((nI_eq0 (n := 1 - u) (by omega)).mpr (by omega))
    rw [a1', ← u0]
    exact fin
theorem LFr_Lot {h g g2 : MH} (f : LFr h g) (p : LotI 3 (sI g 223 0 (nI 0)) g2) : LFr h g2 := by
  obtain ⟨f1, f2, f3, f4, f5, f6, f7⟩ := f
  refine ⟨p.1.trans f1, p.2.1.trans f2, p.2.2.1.trans f3, fun b b1 b2 => ?_, fun b b1 b2 b3 => ?_, fun k hk => ?_, fun k hk => ?_⟩
  · refine Eq.trans ?_ (f4 b b1 b2)
    funext k
    exact p.2.2.2.1 b k (fun z => b2 z.1)
  · exact (p.2.2.2.2.1 b b3).trans ((hI_sI_row b2).trans (f5 b b1 b2 b3))
  · rw [p.2.2.2.2.1 223 (by omega), hI_sI, if_neg (by omega)]
    exact f6 k hk
  · rw [p.2.2.2.2.1 198 (by omega), hI_sI, if_neg (by omega)]
    exact f7 k hk
theorem chance_both {CV : MH → Prop} (ck : ∀ h h1, CvEq h h1 → CV h → CV h1) {W9 : Int32 → Int32 → MH → (Int32 → MH → Prop) → Prop} {W10 : Int32 → Int32 → MH → (Int32 → MH → Prop) → Prop} {u : Nat} (hu : u < 2) (w9 : ∀ y1 y2 h Q, LX h → wX9_lotsFraction 128 y1 y2 (nI u) h Q → W9 y1 y2 h Q) (w10 : ∀ y1 y2 h Q, LX h → (∀ h2, h2 = sI h 223 0 (nI 0) → wX10_within ((y2).toInt64) (0 : Int64) (1 : Int64) h2 (fun r3 h4 => (¬ (r3 = 0) → wX10_within ((y1).toInt64) (0 : Int64) (3 : Int64) h4 (fun r5 h6 => (r5 = 0 → Q ((-3 : Int32)) h6) ∧ (¬ (r5 = 0) → hS h6 223 = (1, 10) ∧ wX10_part 223 (nI (1 - u)) y1 y2 h6 (fun r8 h9 => Q (r8) h9)))) ∧ (r3 = 0 → Q ((-2 : Int32)) h4))) → W10 y1 y2 h Q) (y1 y2 : Int32) (h : MH) (hr : RLY (RRc CV) h) (P : Int32 → MH → Prop) (kP : ∀ (r : Int32) (h1 : MH), hS h1 223 = (1, 10) → (∀ P2 : Int32 → MH → Prop, (∀ h2 : MH, RLY (RRc CV) h2 → P2 r h2) → W10 y1 y2 h1 P2) → P r h1) : W9 y1 y2 h P := by
  obtain ⟨hl, t1, t2, d, ok, c, m⟩ := hr
  have cl := rd_close (x := nI 0) ck hl t1 t2 ok c m
  obtain ⟨⟨a, ca, cn⟩, cs, _, _, cb, _⟩ := id c
  have hl2 : LX (sI h 223 0 (nI 0)) := LX_sI hl
  have l0 : (0 : Int64).toInt = 0 := by decide
  have l1 : (1 : Int64).toInt = 1 := by decide
  have l3 : (3 : Int64).toInt = 3 := by decide
  have bad2 : ¬ (0 ≤ y2.toInt ∧ y2.toInt ≤ 1) → P (-2) h := fun q => kP _ _ (S_223 hl) (fun P2 k2 => w10 _ _ _ _ hl (fun _ e => by
    subst e
    exact u_within (fun p1 p2 => absurd ⟨by omega, by omega⟩ q) (fun _ => ⟨fun z => absurd nI_0 z, fun _ => k2 _ cl⟩)))
  have bad3 : (0 ≤ y2.toInt ∧ y2.toInt ≤ 1) → ¬ (0 ≤ y1.toInt ∧ y1.toInt ≤ 3) → P (-3) h := fun q2 q => kP _ _ (S_223 hl) (fun P2 k2 => w10 _ _ _ _ hl (fun _ e => by
    subst e
    exact u_within (fun p1 p2 => ⟨fun _ => u_within (fun p3 p4 => absurd ⟨by omega, by omega⟩ q) (fun _ => ⟨fun _ => k2 _ cl, fun z => absurd nI_0 z⟩), fun z => absurd z (by decide)⟩) (fun z => absurd (by omega) z)))
  refine w9 _ _ _ _ hl ?_
  rcases nI_cases y2 1 (by omega) with ⟨w, hw, ew⟩ | qw
  · rcases nI_cases y1 3 (by omega) with ⟨n, hn, en⟩ | qn
    · subst ew
      subst en
      refine n_lots hu hn (by omega) hl ca cn ok.1 cs cb (fun g f e1 e2 e3 => kP _ _ (by rw [f.2.1]; exact S_223 hl) (fun P2 k2 => w10 _ _ _ _ ?_ (fun g2 eg2 => ?_)))
      · unfold LX
        rw [f.1, f.2.1, f.2.2.1]
        exact hl
      · subst eg2
        have hlg : LX g := by
          unfold LX
          rw [f.1, f.2.1, f.2.2.1]
          exact hl
        have mg : MP g d := MP_cong (f.2.2.2.2.2.1 _ (by omega)) (f.2.2.2.2.1 _ (by unfold SL; omega) (by omega) (by omega)) (f.2.2.2.2.1 _ (by unfold SL; omega) (by omega) (by omega)) (fun b b1 b2 => f.2.2.2.2.1 _ (by unfold SL; omega) (by omega) (by omega)) m
        have hl3 : LX (sI g 223 0 (nI 0)) := LX_sI hlg
        refine u_within (fun p1 p2 => ⟨fun _ => u_within (fun p3 p4 => ⟨fun z => absurd z (by decide), fun _ => ⟨S_223 hl3, m_part hu hn (by omega) hl3 cn.1 ok.1 (MP_thrown mg) (fun g3 p3 => k2 _ (lfr_close ck hl t1 t2 ok c m (LFr_Lot f p3)))⟩⟩) (fun z => absurd (by rw [nI_toInt (by omega)]; omega) z), fun z => absurd z (by decide)⟩) (fun z => absurd (by rw [nI_toInt (by omega)]; omega) z)
    · subst ew
      unfold wX9_lotsFraction
      refine ⟨fun z => absurd z (nI_pos (by omega)), fun _ => ⟨fun _ => ⟨fun z => bad3 (by rw [nI_toInt (by omega)]; omega) qn, fun z => ⟨fun z2 => ?_, fun z2 => bad3 (by rw [nI_toInt (by omega)]; omega) qn⟩⟩, fun z => absurd (nI_le (by omega) (by omega)) z⟩⟩
      exfalso
      rw [Int32.lt_iff_toInt_lt, i0_toInt] at z
      rw [Int32.le_iff_toInt_le, nI_toInt (by omega)] at z2
      omega
  · unfold wX9_lotsFraction
    refine ⟨fun z => bad2 qw, fun z => ⟨fun z2 => ?_, fun z2 => bad2 qw⟩⟩
    exfalso
    rw [Int32.lt_iff_toInt_lt, i0_toInt] at z
    rw [Int32.le_iff_toInt_le, nI_toInt (by omega)] at z2
    omega
theorem ST_chance_c {CV : MH → Prop} (ck : ∀ h h1, CvEq h h1 → CV h → CV h1) : ST_chance (RLY (RRc CV)) := fun y1 y2 h hr P kP =>
  chance_both ck (W9 := fun y1 y2 h Q => wX9_chance 128 y1 y2 h Q) (W10 := fun y1 y2 h Q => wX10_chance 223 y1 y2 h Q) (u := 0) (by omega) (fun y1 y2 h Q hl q => ⟨S_128 hl, q⟩) (fun y1 y2 h Q hl q => ⟨S_223 hl, q⟩) y1 y2 h hr P kP
theorem ST_mean_c {CV : MH → Prop} (ck : ∀ h h1, CvEq h h1 → CV h → CV h1) : ST_mean (RLY (RRc CV)) := fun y1 y2 h hr P kP =>
  chance_both ck (W9 := fun y1 y2 h Q => wX9_mean 128 y1 y2 h Q) (W10 := fun y1 y2 h Q => wX10_mean 223 y1 y2 h Q) (u := 1) (by omega) (fun y1 y2 h Q hl q => ⟨S_128 hl, q⟩) (fun y1 y2 h Q hl q => ⟨S_223 hl, q⟩) y1 y2 h hr P kP
