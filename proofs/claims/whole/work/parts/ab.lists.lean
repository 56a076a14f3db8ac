/-! Part ab: lists. -/
def lsI (m x : Nat) : Nat → Nat × (Nat → Nat) → Nat × (Nat → Nat)
  | 0, p => p
  | n + 1, p => if p.1 < m then lsI m x n (p.1 + 1, fun k => if k = p.1 then x else p.2 k) else p
def lsO (v : NV) (r m : Nat) (ld : Nat → Nat) : Nat → Nat × (Nat → Nat)
  | 0 => (0, fun _ => 0)
  | c + 1 => if bt (nvMy v r) c = 1 then lsI m (bcN (nvMy v r) c) (ld c) (lsO v r m ld c) else lsO v r m ld c
/-- numbers come into a row of longs from a place on -/
def TwI (a o : Nat) (p : Nat × (Nat → Nat)) (h g : MH) : Prop := hN g = hN h ∧ hS g = hS h ∧ hI g = hI h ∧ hR g = hR h ∧ (∀ b k, ¬ (b = a ∧ o ≤ k ∧ k < o + p.1) → hL g b k = hL h b k) ∧ ∀ k, k < p.1 → hL g a (o + k) = (nI (p.2 k)).toInt64
theorem TwI_0 (a o : Nat) (f : Nat → Nat) (h : MH) : TwI a o (0, f) h h := ⟨rfl, rfl, rfl, rfl, fun _ _ _ => rfl, fun k hk => absurd hk (Nat.not_lt_zero _)⟩
theorem TwI_up {a o x : Nat} {p : Nat × (Nat → Nat)} {h g : MH} (q : TwI a o p h g) : TwI a o (p.1 + 1, fun k => if k = p.1 then x else p.2 k) h (sL g a (o + p.1) (nI x).toInt64) := by
  obtain ⟨q1, q2, q3, q4, q5, q6⟩ := q
  refine ⟨q1, q2, q3, q4, fun b k z => ?_, fun k hk => ?_⟩
  · have z : ¬ (b = a ∧ o ≤ k ∧ k < o + (p.1 + 1)) := z
    rw [hL_sL, if_neg (by omega)]
    exact q5 b k (by omega)
  · have hk : k < p.1 + 1 := hk
    rw [hL_sL]
    by_cases e : k = p.1
    · rw [if_pos ⟨rfl, by omega⟩]
      show _ = (nI (if k = p.1 then x else p.2 k)).toInt64
      rw [if_pos e]
    · rw [if_neg (by omega), q6 k (by omega)]
      show _ = (nI (if k = p.1 then x else p.2 k)).toInt64
      rw [if_neg e]
theorem LX_TwI {a o : Nat} {p : Nat × (Nat → Nat)} {h g : MH} (q : TwI a o p h g) (hl : LX h) : LX g := by
  unfold LX
  rw [q.1, q.2.1, q.2.2.2.1]
  exact hl
set_option maxRecDepth 100000 in
theorem cut_s0 : ∀ x, x < 64 → ((((nI x).toInt64).toInt32).toInt8.toInt32).toInt64 = (nI x).toInt64 := by decide
set_option maxRecDepth 100000 in
theorem cut_s1 : ∀ x, x < 64 → ((((nI x).toInt64).toInt32).toInt16.toInt32).toInt64 = (nI x).toInt64 := by decide
theorem cut_small {x s : Nat} (hx : x < 64) : cut64 (nI x).toInt64 s = (nI x).toInt64 := by
  unfold cut64
  by_cases a : s = 0
  · rw [if_pos a]; exact cut_s0 x hx
  · rw [if_neg a]
    by_cases b : s = 1
    · rw [if_pos b]; exact cut_s1 x hx
    · rw [if_neg b]
      by_cases c : s = 2
      · rw [if_pos c, i64_32]
      · rw [if_neg c]
theorem n_lists77 {Q : Int32 → MH → Prop} {K : Nat → Nat → Nat → Nat → Int32 → Int32 → MH → Prop} {h : MH} {b t2 t s m x L : Nat} (hl : LX h) (ht : t < 4) (hs : s < 4) (hm : m ≤ 40) (es : hI h (207 + 2 * t) 0 = nI s) (em : hI h (207 + 2 * t) 1 = nI m) (hx : x < 40) (hL : L ≤ 20) (el : hI h 204 x = nI L) : ∀ n i p g, i + n = L → p.1 ≤ m → TwI (208 + 2 * t) 0 p h g → (∀ g, TwI (208 + 2 * t) 0 (lsI m x n p) h g → (lsI m x n p).1 ≤ m → K b t2 128 (207 + 2 * t) (nI (lsI m x n p).1) (nI (x + 1)) g) → wX9_lists_77 Q K (n + 1) b t2 128 (207 + 2 * t) (nI p.1) (nI x) (nI i) g := by
  intro n
  induction n with
  | zero =>
    intro i p g hn hp tg hk
    have hlg := LX_TwI tg hl
    have hn : i = L := by omega
    subst hn
    unfold wX9_lists_77
    rw [tg.2.2.1, nI_clamp (by omega), nI_add]
    refine ⟨S_128 hlg, 199, R_128_7 hlg, S_199 hlg, 204, R_199_9 hlg, 40, S_204 hlg, vp_in_nI (by omega) (by omega), fun _ => hk g tg hp, fun y => ?_⟩
    rw [el] at y
    exact absurd (nI_le (Nat.le_refl _) (by omega)) y
  | succ n ih =>
    intro i p g hn hp tg hk
    have hlg := LX_TwI tg hl
    unfold wX9_lists_77
    rw [tg.2.2.1, nI_clamp (by omega), em, nI_add, nI_add, nI_add]
    refine ⟨S_128 hlg, 199, R_128_7 hlg, S_199 hlg, 204, R_199_9 hlg, 40, S_204 hlg, vp_in_nI (by omega) (by omega), fun y => absurd (by rw [el] at y; exact y) (nI_ge (a := i) (b := L) (by omega) (by omega)), fun _ => ⟨(tr_S hlg ht).1, fun y => ?_, fun y => ?_⟩⟩
    · have q : ¬ p.1 < m := fun z => absurd y (nI_ge z (by omega))
      have e : lsI m x (n + 1) p = p := by show (if _ then _ else _) = _; rw [if_neg q]
      rw [e] at hk
      exact hk g tg hp
    · have q : p.1 < m := Nat.lt_of_not_le (fun z => y (nI_le z (by omega)))
      have e : lsI m x (n + 1) p = lsI m x n (p.1 + 1, fun k => if k = p.1 then x else p.2 k) := by show (if _ then _ else _) = _; rw [if_pos q]
      rw [e] at hk
      refine u_tput hlg ht hs (by omega) (by rw [tg.2.2.1]; exact es) ?_
      rw [cut_small (by omega)]
      have tu := TwI_up (x := x) tg
      rw [Nat.zero_add] at tu
      exact ih (i + 1) _ _ (by omega) (by show p.1 + 1 ≤ m; omega) tu hk
theorem n_lists62 {Q : Int32 → MH → Prop} {h : MH} {v : NV} {b t2 t s m r : Nat} {ld : Nat → Nat} (hl : LX h) (hv : NvOK v) (cr : CvR h v r) (ch : ChV h v r ld) (l20 : ∀ c, ld c ≤ 20) (ht : t < 4) (hs : s < 4) (hm : m ≤ 40) (es : hI h (207 + 2 * t) 0 = nI s) (em : hI h (207 + 2 * t) 1 = nI m) (hq : ∀ g, TwI (208 + 2 * t) 0 (lsO v r m ld (nvC v)) h g → Q (nI (lsO v r m ld (nvC v)).1) g) : ∀ n c g, c + n = nvC v → (lsO v r m ld c).1 ≤ m → TwI (208 + 2 * t) 0 (lsO v r m ld c) h g → wX9_lists_62 Q (bcN (nvMy v r) (nvC v) - bcN (nvMy v r) c + 1) b t2 128 (207 + 2 * t) (nI (lsO v r m ld c).1) (nI (bcN (nvMy v r) c)) g := by
  have h4 := hv.1
  have hC := bcN_le (nvMy v r) (nvC v)
  intro n
  induction n with
  | zero =>
    intro c g hn hp tg
    have hlg := LX_TwI tg hl
    have hn : c = nvC v := by omega
    subst hn
    rw [Nat.sub_self]
    unfold wX9_lists_62
    refine ⟨S_128 hlg, 199, R_128_7 hlg, S_199 hlg, ?_⟩
    rw [tg.2.2.1, cr.1]
    exact ⟨fun _ => hq g tg, fun y => absurd (nI_le (Nat.le_refl _) (by omega)) y⟩
  | succ n ih =>
    intro c g hn hp tg
    have hlg := LX_TwI tg hl
    have eb : bcN (nvMy v r) (c + 1) = bcN (nvMy v r) c + bt (nvMy v r) c := rfl
    have eo : lsO v r m ld (c + 1) = if bt (nvMy v r) c = 1 then lsI m (bcN (nvMy v r) c) (ld c) (lsO v r m ld c) else lsO v r m ld c := rfl
    have g0 := ih (c + 1)
    rcases bt01 (nvMy v r) c with b | b
    · rw [eb, eo, if_neg (by omega), b] at g0
      exact g0 g (by omega) hp tg
    · have hcc : c < nvC v := by omega
      have hlt := bcN_lt hcc b
      rw [eb, eo, if_pos b, b] at g0
      rw [show bcN (nvMy v r) (nvC v) - bcN (nvMy v r) c + 1 = (bcN (nvMy v r) (nvC v) - (bcN (nvMy v r) c + 1) + 1) + 1 from by omega]
      unfold wX9_lists_62
      refine ⟨S_128 hlg, 199, R_128_7 hlg, S_199 hlg, ?_⟩
      rw [tg.2.2.1, cr.1]
      refine ⟨fun y => absurd y (nI_ge hlt (by omega)), fun _ => ⟨_, n_lists77 (L := ld c) hl ht hs hm es em (by omega) (l20 c) (ch.2.2 c hcc b) (ld c) 0 _ g (by omega) hp tg (fun g2 t2 p2 => g0 g2 (by omega) p2 t2)⟩⟩
theorem m_lists68 {Q : Int32 → MH → Prop} {K : Nat → Int32 → Int32 → Int32 → MH → Prop} {h : MH} {t m x L : Nat} (hl : LX h) (ht : t < 4) (hm : m ≤ 40) (em : hI h 242 t = nI m) (hx : x < 40) (hL : L ≤ 20) (el : hI h 237 x = nI L) : ∀ n i p g, i + n = L → p.1 ≤ m → TwI 243 (40 * t) p h g → (∀ g, TwI 243 (40 * t) (lsI m x n p) h g → (lsI m x n p).1 ≤ m → K 223 (nI t) (nI (lsI m x n p).1) (nI (x + 1)) g) → wX10_lists_68 Q K (n + 1) 223 (nI t) (nI p.1) (nI x) (nI i) g := by
  intro n
  induction n with
  | zero =>
    intro i p g hn hp tg hk
    have hlg := LX_TwI tg hl
    have hn : i = L := by omega
    subst hn
    unfold wX10_lists_68
    rw [tg.2.2.1, nI_clamp (show x < 2 ^ 31 by omega), nI_add]
    refine ⟨S_223 hlg, 237, R_223_28 hlg, 64, S_237 hlg, vp_in_nI (by omega) (by omega), fun _ => hk g tg hp, fun y => ?_⟩
    rw [el] at y
    exact absurd (nI_le (Nat.le_refl _) (by omega)) y
  | succ n ih =>
    intro i p g hn hp tg hk
    have hlg := LX_TwI tg hl
    unfold wX10_lists_68
    rw [tg.2.2.1, nI_clamp (show x < 2 ^ 31 by omega), nI_clamp (show t < 2 ^ 31 by omega), nI_add, nI_mul, nI_add, nI_add, nI_add]
    refine ⟨S_223 hlg, 237, R_223_28 hlg, 64, S_237 hlg, vp_in_nI (by omega) (by omega), fun y => ?_, fun _ => ⟨242, R_223_35 hlg, 4, S_242 hlg, vp_in_nI (by omega) (by omega), fun y => ?_, fun y => ?_⟩⟩
    · rw [el] at y
      exact absurd y (nI_ge (by omega) (by omega))
    · rw [em] at y
      have q : ¬ p.1 < m := fun z => absurd y (nI_ge z (by omega))
      have e : lsI m x (n + 1) p = p := by show (if _ then _ else _) = _; rw [if_neg q]
      rw [e] at hk
      exact hk g tg hp
    · rw [em] at y
      have q : p.1 < m := Nat.lt_of_not_le (fun z => y (nI_le z (by omega)))
      have e : lsI m x (n + 1) p = lsI m x n (p.1 + 1, fun k => if k = p.1 then x else p.2 k) := by show (if _ then _ else _) = _; rw [if_pos q]
      rw [e] at hk
      refine ⟨243, R_223_36 hlg, 160, S_243 hlg, vp_in_nI (by omega) (by omega), fun g2 e2 => ?_⟩
      rw [nI_clamp (by omega)] at e2
      have tu := TwI_up (x := x) tg
      rw [← e2] at tu
      exact ih (i + 1) _ _ (by omega) (by show p.1 + 1 ≤ m; omega) tu hk
theorem m_lists56 {Q : Int32 → MH → Prop} {h : MH} {v : NV} {t m r : Nat} {ld : Nat → Nat} (hl : LX h) (hv : NvOK v) (pr : RgV h v r) (l : LdV h v r ld) (l20 : ∀ c, ld c ≤ 20) (ht : t < 4) (hm : m ≤ 40) (em : hI h 242 t = nI m) (hq : ∀ g, TwI 243 (40 * t) (lsO v r m ld (nvC v)) h g → (lsO v r m ld (nvC v)).1 ≤ m → Q (nI (lsO v r m ld (nvC v)).1) g) : ∀ n c g, c + n = nvC v → (lsO v r m ld c).1 ≤ m → TwI 243 (40 * t) (lsO v r m ld c) h g → wX10_lists_56 Q (bcN (nvMy v r) (nvC v) - bcN (nvMy v r) c + 1) 223 (nI t) (nI (lsO v r m ld c).1) (nI (bcN (nvMy v r) c)) g := by
  have h4 := hv.1
  have hC := bcN_le (nvMy v r) (nvC v)
  intro n
  induction n with
  | zero =>
    intro c g hn hp tg
    have hlg := LX_TwI tg hl
    have hn : c = nvC v := by omega
    subst hn
    rw [Nat.sub_self]
    unfold wX10_lists_56
    rw [tg.2.2.1, pr.1]
    exact ⟨S_223 hlg, fun _ => hq g tg hp, fun y => absurd (nI_le (Nat.le_refl _) (by omega)) y⟩
  | succ n ih =>
    intro c g hn hp tg
    have hlg := LX_TwI tg hl
    have eb : bcN (nvMy v r) (c + 1) = bcN (nvMy v r) c + bt (nvMy v r) c := rfl
    have eo : lsO v r m ld (c + 1) = if bt (nvMy v r) c = 1 then lsI m (bcN (nvMy v r) c) (ld c) (lsO v r m ld c) else lsO v r m ld c := rfl
    have g0 := ih (c + 1)
    rcases bt01 (nvMy v r) c with b | b
    · rw [eb, eo, if_neg (by omega), b] at g0
      exact g0 g (by omega) hp tg
    · have hcc : c < nvC v := by omega
      have hlt := bcN_lt hcc b
      rw [eb, eo, if_pos b, b] at g0
      rw [show bcN (nvMy v r) (nvC v) - bcN (nvMy v r) c + 1 = (bcN (nvMy v r) (nvC v) - (bcN (nvMy v r) c + 1) + 1) + 1 from by omega]
      unfold wX10_lists_56
      rw [tg.2.2.1, pr.1]
      refine ⟨S_223 hlg, fun y => absurd y (nI_ge hlt (by omega)), fun _ => ⟨_, m_lists68 (L := ld c) hl ht hm em (by omega) (l20 c) (l c hcc b) (ld c) 0 _ g (by omega) hp tg (fun g2 t2 p2 => g0 g2 (by omega) p2 t2)⟩⟩
theorem JB_AgY {lp : NV → Nat → Nat → Nat} {B : Nat} {d : DV} {h h2 : MH} (g : AgY h h2) (tp : TP h) (c : CP (CVA lp B) h d) (m : MP h d) : TP h2 ∧ CP (CVA lp B) h2 d ∧ MP h2 d := by
  have tp2 := TP_AgY g tp
  obtain ⟨g1, g2, g3, g4, g5⟩ := g
  have ei : ∀ b, (b < 207 ∨ 214 < b) → b ≠ 241 → b ≠ 242 → b ≠ 223 → hI h2 b = hI h b := fun b b1 b2 b3 b4 => funext (fun k => g5 b k (fun t ht => by omega) b2 b3 (fun q => b4 q.1))
  have el : ∀ b, (b < 207 ∨ 214 < b) → b ≠ 243 → hL h2 b = hL h b := fun b b1 b2 => funext (fun k => g4 b k (fun t ht => by omega) b2)
  refine ⟨tp2, ?_, MP_cong (g5 _ _ (fun t ht => by omega) (by omega) (by omega) (by omega)) (ei _ (by omega) (by omega) (by omega) (by omega)) (ei _ (by omega) (by omega) (by omega) (by omega)) (fun b b1 b2 => ei b (by omega) (by omega) (by omega) (by omega)) m⟩
  obtain ⟨⟨a, p1, p2⟩, p3, ⟨n, p4⟩, p5, p6, p7⟩ := c
  have q : CvEq h h2 := ⟨Nat.le_of_eq g1.symm, fun b hb => ⟨g2 b, ei b (by omega) (by omega) (by omega) (by omega), el b (by omega) (by omega), funext (g3 b)⟩⟩
  refine ⟨⟨a, (g3 _ _).trans p1, NetV_keep (CvEq_net q) p2⟩, StV_row (ei _ (by omega) (by omega) (by omega) (by omega)) (ei _ (by omega) (by omega) (by omega) (by omega)) (ei _ (by omega) (by omega) (by omega) (by omega)) p3, ⟨n, HiV_row (fun b b1 b2 => ei b (by omega) (by omega) (by omega) (by omega)) p4⟩, fun t ht => ImC_cong ht (CvEq_net q) (g3 _ _) (fun b b1 b2 => ei b (by omega) (by omega) (by omega) (by omega)) (p5 t ht), fun k hk => ?_, CVA_keep lp B h h2 q p7⟩
  rw [ei 198 (by omega) (by omega) (by omega) (by omega)]
  exact p6 k hk
theorem AgY_TwI {a o : Nat} {p : Nat × (Nat → Nat)} {h g : MH} (q : TwI a o p h g) (ha : a = 243 ∨ ∃ t, t < 4 ∧ a = 208 + 2 * t) : AgY h g := by
  obtain ⟨q1, q2, q3, q4, q5, q6⟩ := q
  refine ⟨q1, fun b => by rw [q2], fun b k => by rw [q4], fun b k z1 z2 => q5 b k (fun y => ?_), fun b k _ _ _ _ => by rw [q3]⟩
  rcases ha with e | ⟨t, ht, e⟩
  · omega
  · exact z1 t ht (by omega)
def ST3_lists (R R2 : MH → Prop) : Prop := ∀ (y1 : Int32) (y2 : Int32) (h : MH), R h → Zh h → ∀ P : Int32 → MH → Prop, (∀ (r : Int32) (h1 : MH), hS h1 223 = (1, 10) → (∀ P2 : Int32 → MH → Prop, (∀ h2 : MH, R2 h2 → P2 r h2) → wX10_lists 223 y1 y2 h1 P2) → P r h1) → wX9_lists 1 2048 128 y1 y2 h P
theorem ST3_lists_c {A : Nat} (hA : A + 1 < 2 ^ 20) : ST3_lists (RLY (RRc (CVA lpC A))) (RLY (RRc (CVA lpC (A + 1)))) := by
  intro y1 y2 h hr hz P kP
  obtain ⟨hl, t1, t2, d, ok, c, m⟩ := hr
  obtain ⟨⟨a, ca, cn⟩, cs, _, _, _, cv⟩ := id c
  have j : JB lpC A d h := ⟨hl, ⟨t1, t2⟩, c, m⟩
  have fin0 := JB_end ok (JB_le (show A ≤ A + 1 by omega) j)
  have h4 := cn.1.1
  have l03 : (0 : Int64).toInt = 0 ∧ (3 : Int64).toInt = 3 := by decide
  refine u_isTray (fun t ht e1 => ⟨fun y => absurd y (by decide), fun _ => ?_⟩) (fun z => ⟨fun _ => ?_, fun y => absurd nI_0 y⟩)
  · subst e1
    have inT : ∀ {Q : Int32 → MH → Prop} {g : MH}, Q (nI 1) g → wX10_within ((nI t).toInt64) (0 : Int64) (3 : Int64) g Q := fun k => u_within (fun _ _ => k) (fun z => absurd (by rw [nI_tI (by omega), l03.1, l03.2]; omega) z)
    rcases nI_cases y2 1 (by omega) with ⟨aim, ha, e2⟩ | z2
    · subst e2
      have trS := tr_S hl (show t < 4 by omega)
      refine n_isAim1 ha ⟨fun _ => ⟨S_128 hl, 206, R_128_9 hl, 4, S_206 hl, vp_in_nI (by omega) (by omega), 207 + 2 * t, by rw [nI_clamp (by omega)]; exact trS.2.2.1, trS.1, ?_⟩, fun y => absurd y (by decide)⟩
      rcases t2 t (by omega) with ty | ⟨s, mm, ty1, ty2, ty3, ty4, ty5, ty6, ty7⟩
      · refine n_missing hl (by omega) (fun _ => ⟨fun y => absurd y (by decide), fun _ => ?_⟩) (fun m hm e => absurd (ty.1.symm.trans e).symm (nI_m1 (by omega))) (Or.inl ty.1)
        refine kP _ _ (S_223 hl) (fun P2 k2 => ⟨S_223 hl, fun g2 e2 => inT ⟨fun y => absurd y (by decide), fun _ => m_isAim1 ha ⟨fun _ => ?_, fun y => absurd y (by decide)⟩⟩⟩)
        subst e2
        have hl2 : LX (sI h 223 0 (nI 0)) := LX_sI hl
        refine ⟨S_223 hl2, m_noTray hl2 (fun z => absurd (by rw [nI_tI (by omega)]; omega) z) (fun t' _ _ _ => ⟨fun y => absurd y (by decide), fun _ => k2 _ fin0⟩) (fun t' ht' e' n' => ?_)⟩
        have : t = t' := (nI_eq (by omega) (by omega)).mp e'
        subst this
        exact absurd (by rw [hI_sI, if_neg (by omega)]; exact ty.2) n'
      · refine n_missing hl (by omega) (fun e => absurd (ty4.symm.trans e) (nI_m1 (by omega))) (fun _ _ _ => ⟨fun _ => ⟨S_128 hl, 199, R_128_7 hl, a, ca, 146, R_128_2 hl, S_199 hl, by omega, by omega, ?_⟩, fun y => absurd nI_0 y⟩) (Or.inr ⟨mm, ty2, ty4⟩)
        have thrN : ∀ {Q : Int32 → MH → Prop} {g : MH}, LX g → hI g 241 t = nI s → Q (nI 0) g → wX10_noTray 223 (nI t) g Q := fun {Q g} hlg e k => m_noTray hlg (fun z => absurd (by rw [nI_tI (by omega)]; omega) z) (fun t' ht' e' n' => by
          have : t = t' := (nI_eq (by omega) (by omega)).mp e'
          subst this
          exact absurd (e.symm.trans n') (nI_m1 (by omega))) (fun _ _ _ _ => k)
        refine n_solve hz hA (by omega) j ok ca (fun nu g jg ei => ⟨fun y => absurd nI_0 y, fun _ => ?_⟩) (fun us g jg ei cr ch l20 => ⟨fun _ => ?_, fun y => absurd y (by decide)⟩)
        · refine kP _ _ (S_223 jg.1) (fun P2 k2 => ⟨S_223 jg.1, fun g2 e2 => inT ⟨fun y => absurd y (by decide), fun _ => m_isAim1 ha ⟨fun _ => ?_, fun y => absurd y (by decide)⟩⟩⟩)
          subst e2
          obtain ⟨hl2, m2⟩ := JB_thr jg
          refine ⟨S_223 hl2, thrN hl2 (by rw [hI_sI, if_neg (by omega), ei 241 (by omega)]; exact ty5) ⟨fun _ => ⟨S_223 hl2, m_laysYet (by omega) hl2 cn.1 ok.1 m2 (fun _ g3 f3 m3 => ⟨fun y => absurd nI_0 y, fun _ => k2 _ (JB_fr ok jg (FrM_trans (FrM_thrown _ _) f3) m3)⟩) (fun u => absurd u nu)⟩, fun y => absurd nI_0 y⟩⟩
        · refine ⟨_, n_lists62 jg.1 cn.1 cr ch l20 (by omega) ty1 ty2 (by rw [ei _ (by omega)]; exact ty3) (by rw [ei _ (by omega)]; exact ty4) (fun g1 w1 => ?_) (nvC (dN d)) 0 g (by omega) (Nat.zero_le _) (TwI_0 _ _ _ _)⟩
          have hl1 := LX_TwI w1 jg.1
          have ag1 := AgY_TwI w1 (Or.inr ⟨t, by omega, rfl⟩)
          obtain ⟨tp1, cp1, mp1⟩ := JB_AgY ag1 jg.2.1.1 jg.2.2.1 jg.2.2.2
          refine kP _ _ (S_223 hl1) (fun P2 k2 => ⟨S_223 hl1, fun g2 e2 => inT ⟨fun y => absurd y (by decide), fun _ => m_isAim1 ha ⟨fun _ => ?_, fun y => absurd y (by decide)⟩⟩⟩)
          have f2 : FrM g1 g2 := by rw [e2]; exact FrM_thrown _ _
          have m2 : MP g2 d := by rw [e2]; exact MP_thrown mp1
          have hl2 := LX_Fr f2.1 hl1
          have i1 : ∀ b, 204 < b → hI g1 b = hI h b := fun b hb => by rw [w1.2.2.1]; exact ei b hb
          refine ⟨S_223 hl2, thrN hl2 (by rw [e2, hI_sI, if_neg (by omega), i1 241 (by omega)]; exact ty5) ⟨fun _ => ⟨S_223 hl2, m_laysYet (by omega) hl2 cn.1 ok.1 m2 (fun nu => absurd us nu) (fun _ g3 f3 m3 l3 => ⟨fun _ => ?_, fun y => absurd y (by decide)⟩)⟩, fun y => absurd nI_0 y⟩⟩
          have f13 : FrM g1 g3 := FrM_trans f2 f3
          have hl3 := LX_Fr f3.1 hl2
          have nsm : ∀ b, (b < 223 ∨ b = 226 ∨ 240 < b) → ¬ SM b := fun b hb q => by unfold SM at q; omega
          have i3 : ∀ b, (204 < b ∧ b < 223) ∨ 240 < b → hI g3 b = hI h b := fun b hb => (f13.1.2.2.2.2 b (nsm b (by omega))).trans (i1 b (by omega))
          have tp3 : TP g3 := TP_cong (f13.1.2.2.2.2 _ (nsm _ (by omega))) (f13.1.2.2.2.2 _ (nsm _ (by omega))) (f13.1.2.2.2.2 _ (nsm _ (by omega))) (f13.2 _ (by omega) (by omega)) (f13.2 _ (by omega) (by omega)) (f13.2 _ (by omega) (by omega)) tp1
          have cp3 := CP_FrM (CVA_keep lpC (A + 1)) f13 cp1
          refine ⟨_, m_lists56 hl3 cn.1 m3.2.2.1 l3 l20 (by omega) ty2 (by rw [i3 _ (by omega)]; exact ty6) (fun g4 w4 lm => k2 _ ?_) (nvC (dN d)) 0 g3 (by omega) (Nat.zero_le _) (TwI_0 _ _ _ _)⟩
          have ag4 := AgY_TwI w4 (Or.inl rfl)
          obtain ⟨tp4, cp4, mp4⟩ := JB_AgY ag4 tp3 cp3 m3
          have i4 : ∀ b, (204 < b ∧ b < 223) ∨ 240 < b → hI g4 b = hI h b := fun b hb => by rw [w4.2.2.1]; exact i3 b hb
          refine ⟨LX_TwI w4 hl3, tp4, fun t' ht' => ?_, d, ok, cp4, mp4⟩
          have l13 : hL g3 = hL g1 := f13.1.2.2.1
          by_cases q : t' = t
          · subst q
            refine Or.inr ⟨s, mm, ty1, ty2, by rw [i4 _ (by omega)]; exact ty3, by rw [i4 _ (by omega)]; exact ty4, by rw [i4 _ (by omega)]; exact ty5, by rw [i4 _ (by omega)]; exact ty6, fun k hk => ?_⟩
            rw [w4.2.2.2.2.1 (208 + 2 * t') k (by omega), l13]
            by_cases x : k < (lsO (dN d) (asR (dS d)) mm (dLd d aim) (nvC (dN d))).1
            · have e1 := w1.2.2.2.2.2 k x
              rw [Nat.zero_add] at e1
              rw [e1, w4.2.2.2.2.2 k x]
            · rw [w1.2.2.2.2.1 _ _ (by omega), w4.2.2.2.2.1 _ _ (by omega), l13, w1.2.2.2.2.1 _ _ (by omega)]
              rcases jg.2.1.2 t' ht' with u | ⟨s', mm', u1, u2, u3, u4, u5, u6, u7⟩
              · exfalso
                have := u.2
                rw [ei 241 (by omega), ty5] at this
                exact nI_m1 (by omega) this
              · have em : mm' = mm := by
                  rw [ei _ (by omega), ty4] at u4
                  exact ((nI_eq (by omega) (by omega)).mp u4).symm
                exact u7 k (by omega)
          · have y := jg.2.1.2 t' ht'
            unfold TY1 at y ⊢
            rw [i4 (207 + 2 * t') (by omega), i4 241 (by omega), i4 242 (by omega)]
            rw [ei (207 + 2 * t') (by omega), ei 241 (by omega), ei 242 (by omega)] at y
            rcases y with y | ⟨s', mm', u1, u2, u3, u4, u5, u6, u7⟩
            · exact Or.inl y
            · refine Or.inr ⟨s', mm', u1, u2, u3, u4, u5, u6, fun k hk => ?_⟩
              rw [w4.2.2.2.2.1 (208 + 2 * t') k (by omega), l13, w1.2.2.2.2.1 _ _ (by omega), w4.2.2.2.2.1 243 _ (by omega), l13, w1.2.2.2.2.1 _ _ (by omega)]
              exact u7 k hk
    · refine n_isAim0 z2 ⟨fun y => absurd nI_0 y, fun _ => ?_⟩
      exact kP _ _ (S_223 hl) (fun P2 k2 => ⟨S_223 hl, fun g2 e2 => inT ⟨fun y => absurd y (by decide), fun _ => m_isAim0 z2 ⟨fun y => absurd nI_0 y, fun _ => k2 _ (by rw [e2]; exact fin0)⟩⟩⟩)
  · exact kP _ _ (S_223 hl) (fun P2 k2 => ⟨S_223 hl, fun g2 e2 => u_within (fun a b => absurd ⟨by rw [l03.1] at a; exact a, by rw [l03.2] at b; exact b⟩ z) (fun _ => ⟨fun _ => k2 _ (by rw [e2]; exact fin0), fun y => absurd nI_0 y⟩)⟩)
