/-! Part av: the reference reads laws, lines, a head. -/
theorem tnB_law {v : TN} {m k b e : Nat} (hm : m < 2) (hk : k < 2) : tnB (tnLaw v m b e) k = if k = m then b else tnB v k := by
  rcases (show m = 0 ∨ m = 1 from by omega) with q | q <;> rcases (show k = 0 ∨ k = 1 from by omega) with r | r <;> subst q <;> subst r <;> rfl
theorem tnE_law {v : TN} {m k b e : Nat} (hm : m < 2) (hk : k < 2) : tnE (tnLaw v m b e) k = if k = m then e else tnE v k := by
  rcases (show m = 0 ∨ m = 1 from by omega) with q | q <;> rcases (show k = 0 ∨ k = 1 from by omega) with r | r <;> subst q <;> subst r <;> rfl
theorem MIv_law {f g : Nat → Int32} {v : TN} {m b e : Nat} (hm : m < 2) (h : MIv f v) (hL : tnL v ≤ 10) (hbe : b < e) (eq : ∀ k, g k = if k = 7 + m then nI (e - b) else if k = 5 + m then nI b else if k = 3 + m then nI 1 else f k) : MIv g (tnLaw v m b e) := by
  obtain ⟨h1, h2, h3, h4⟩ := h
  have no : ∀ k, (k < 3 ∨ 9 ≤ k) → g k = f k := fun k a => by rw [eq, if_neg (by omega), if_neg (by omega), if_neg (by omega)]
  refine ⟨⟨(no 0 (by omega)).trans h1.1, (no 1 (by omega)).trans h1.2.1, (no 2 (by omega)).trans h1.2.2.1, (no 114 (by omega)).trans h1.2.2.2⟩, fun k hk => ?_, fun l hl => ?_, fun k a b c => (no k (by omega)).trans (h4 k a b c)⟩
  · rw [tnB_law hm hk, tnE_law hm hk]
    by_cases q : k = m
    · rw [if_pos q, if_pos q, if_pos hbe]
      refine ⟨?_, ?_, ?_⟩
      · rw [eq, if_neg (by omega), if_neg (by omega), if_pos (by omega)]
      · rw [eq, if_neg (by omega), if_pos (by omega)]
      · rw [eq, if_pos (by omega)]
    · have a3 : g (3 + k) = f (3 + k) := by rw [eq, if_neg (by omega), if_neg (by omega), if_neg (by omega)]
      have a5 : g (5 + k) = f (5 + k) := by rw [eq, if_neg (by omega), if_neg (by omega), if_neg (by omega)]
      have a7 : g (7 + k) = f (7 + k) := by rw [eq, if_neg (by omega), if_neg (by omega), if_neg (by omega)]
      rw [if_neg q, if_neg q, a3, a5, a7]
      exact h2 k hk
  · have hl : l < tnL v := hl
    rw [no _ (by omega), no _ (by omega), no _ (by omega), no _ (by omega)]
    exact h3 l hl
section MTW
variable {hb g : MH} {T : Nat → Nat} {n m : Nat} {t : TK} {cs : CD} {v : TN}
theorem MT_read {g2 : MH} {m2 : Nat} (p : MT hb g T n m t cs v) (e : g2 = sI g 223 15 (nI m2)) : MT hb g2 T n m2 t cs v := by
  obtain ⟨p1, p2, p3⟩ := p
  have i9 : ∀ b, b ≠ 223 → hI g2 b = hI g b := fun b hb => by rw [e, hI_sI_row hb]
  have i0 : ∀ k, k ≠ 15 → hI g2 223 k = hI g 223 k := fun k hk => by rw [e, hI_sI, if_neg (by omega)]
  have hl2 : LX g2 := by rw [e]; exact LX_sI (RmT_LX p1.2.1)
  have r : RmT g2 g2 T n t := by
    obtain ⟨nu, wa, ⟨r1, r2, r3, r4, r5, r6, r7, r8, r9⟩, q⟩ := p1.2.1
    exact ⟨nu, wa, ⟨hl2, FrX_rfl _, ⟨r3.1, by rw [i0 8 (by omega)]; exact r3.2.1, by rw [i9 226 (by omega)]; exact r3.2.2⟩, by rw [i0 6 (by omega)]; exact r4, by rw [i0 7 (by omega)]; exact r5, by rw [i0 9 (by omega)]; exact r6, by rw [i0 10 (by omega)]; exact r7, by rw [i0 11 (by omega)]; exact r8, by rw [i0 12 (by omega)]; exact r9⟩, q⟩
  refine ⟨⟨p1.1, r, FrQ_rfl _, by rw [e, hI_sI, if_pos ⟨rfl, rfl⟩], by rw [i9 227 (by omega)]; exact p1.2.2.2.2.1, fun i hi => by rw [i9 227 (by omega)]; exact p1.2.2.2.2.2 i hi⟩, ⟨Fr_trans p2.1 (by rw [e]; exact Fr_sI (Or.inl rfl)), fun k a b => by rw [i0 k b]; exact p2.2 k a b⟩, by rw [i9 227 (by omega)]; exact p3⟩
theorem MD_read {g2 : MH} {e : Nat × Nat} {x : Int32} (p : MD hb g e) (e2 : g2 = sI g 223 15 x) : MD hb g2 e := by
  have i0 : ∀ k, k ≠ 15 → hI g2 223 k = hI g 223 k := fun k hk => by rw [e2, hI_sI, if_neg (by omega)]
  exact ⟨by rw [e2]; exact LX_sI p.1, ⟨Fr_trans p.2.1.1 (by rw [e2]; exact Fr_sI (Or.inl rfl)), fun k a b => by rw [i0 k b]; exact p.2.1.2 k a b⟩, p.2.2.1, p.2.2.2.1, by rw [i0 11 (by omega)]; exact p.2.2.2.2.1, by rw [i0 12 (by omega)]; exact p.2.2.2.2.2⟩
theorem MT_law {Q : MH → Prop} {m2 : Nat} (hm : m2 < 2) (p : MT hb g T n m t cs v) (hL : tnL v ≤ 10) (hc : cs.1 ≤ tkA t) (h24 : tkK t ≠ 24) (k1 : ∀ t2 cs2 v2 g2, lawL T n m2 t cs v = .inr (t2, cs2, v2) → MT hb g2 T n m2 t2 cs2 v2 → Q g2) (k0 : ∀ e g2, lawL T n m2 t cs v = .inl e → MD hb g2 e → Q g2) : wX10_readLaw 223 (nI m2) g Q := by
  have hn := RmT_n p.1.2.1
  have x1 := nx_ok p.1.1 h24
  unfold lawL at k1 k0
  refine ⟨S_223 (MT_LX p), MT_next hL p (fun g p => ⟨S_223 (MT_LX p), MT_eat hL p (by omega) (fun k31 e g p => ?_) (fun e g d => ?_)⟩)⟩
  · rw [e] at k1 k0
    have x2 := nx_ok x1.1 (show tkK (nx T n t) ≠ 24 by omega)
    unfold wX10_readLaw_18
    rw [nI_clamp (show 1436 < 2 ^ 31 by omega)]
    refine ⟨S_223 (MT_LX p), 227, R_223_4 (MT_LX p), 2337, S_227 (MT_LX p), vp_in_nI (by omega) (by omega), fun h13 e13 => ?_⟩
    rw [p.1.2.2.2.2.1]
    have p2 := MT_read p e13
    have fin : ∀ t2 cs2 g2, pp T n m2 (8 * n + 8) (lawX m2) 0 (nx T n (nx T n t)) cs = .inr (t2, cs2) → PM h13 g2 T n m2 t2 cs2 → wX10_readLaw_49 Q 223 (nI m2) (nI cs.1) g2 := fun t2 cs2 g2 e2 c2 => by
      have p3 := MT_P hL p2 c2
      have ev := law_ev x2.1 e2
      unfold wX10_readLaw_49
      rw [nI_clamp (show 1436 < 2 ^ 31 by omega), nI_add, nI_add, nI_add, nI_clamp (by omega), nI_clamp (by omega), nI_clamp (by omega)]
      refine ⟨S_223 (MT_LX p3), fun _ => ⟨227, R_223_4 (MT_LX p3), 2337, S_227 (MT_LX p3), vp_in_nI (by omega) (by omega), fun h22 e22 => ⟨vp_in_nI (by omega) (by omega), fun h24 e24 => ⟨vp_in_nI (by omega) (by omega), vp_in_nI (by omega) (by omega), fun h27 e27 => ?_⟩⟩⟩, fun z => absurd (PM_11 p3.1) z⟩
      have i6 : hI h24 227 1436 = nI cs2.1 := by rw [e24, hI_sI, if_neg (by omega), e22, hI_sI, if_neg (by omega)]; exact p3.1.2.2.2.2.1
      rw [i6, nI_subN (by omega), e24, e22] at e27
      refine k1 _ _ _ h27 (by rw [e2]) (MT_row p3 ?_ ?_ (fun k hk => ?_) (MIv_law hm p3.2.2 hL ev.1 (fun k => ?_)))
      · rw [e27]; exact LX_sI (LX_sI (LX_sI (MT_LX p3)))
      · rw [e27]; exact Fr_trans (Fr_trans (Fr_sI rfl) (Fr_sI rfl)) (Fr_sI rfl)
      · rw [e27, hI_sI, if_neg (by omega), hI_sI, if_neg (by omega), hI_sI, if_neg (by omega)]
      · rw [e27, hI_sI, hI_sI, hI_sI]
        by_cases a1 : k = 7 + m2
        · rw [if_pos ⟨rfl, a1⟩, if_pos a1]
        · rw [if_neg (fun y => a1 y.2), if_neg a1]
          by_cases a2 : k = 5 + m2
          · rw [if_pos ⟨rfl, a2⟩, if_pos a2]
          · rw [if_neg (fun y => a2 y.2), if_neg a2]
            by_cases a3 : k = 3 + m2
            · rw [if_pos ⟨rfl, a3⟩, if_pos a3]
            · rw [if_neg (fun y => a3 y.2), if_neg a3]
    have bad : ∀ e g2, pp T n m2 (8 * n + 8) (lawX m2) 0 (nx T n (nx T n t)) cs = .inl e → MF h13 g2 e → wX10_readLaw_49 Q 223 (nI m2) (nI cs.1) g2 := fun e g2 e2 c2 => by
      have d := MT_F p2 c2
      exact ⟨S_223 d.1, fun z => absurd z (MD_11 d), fun _ => k0 e g2 (by rw [e2]) d⟩
    have al := m_all (hb := h13) (T := T) (n := n) (m := m2) hm (8 * n + 8)
    have sk := x2.2.2
    rcases (show m2 = 0 ∨ m2 = 1 from by omega) with q | q <;> subst q
    · exact ⟨fun z => absurd nI_0 z, fun _ => al.2.2.2.1 0 300 _ cs h13 _ (by omega) (by show _ + 3 ≤ _; omega) (by show _ + 9 + 3 ≤ _; omega) (by omega) p2.1 fin bad⟩
    · exact ⟨fun _ => al.2.2.2.2.2.2.2.2.1 0 300 _ cs h13 _ (by omega) (by show _ + 6 ≤ _; omega) (by show _ + 12 + 3 ≤ _; omega) (by omega) p2.1 fin bad, fun z => absurd z (by decide)⟩
  · refine ⟨S_223 d.1, 227, R_223_4 d.1, 2337, S_227 d.1, vp_in_nI (by omega) (by omega), fun h13 e13 => ?_⟩
    have d2 := MD_read d e13
    exact ⟨fun _ => x_truth (by omega) d2.1 (MD_11 d2) ⟨S_223 d2.1, fun z => absurd z (MD_11 d2), fun _ => k0 _ _ (e _) d2⟩, fun _ => x_sum (by omega) d2.1 (MD_11 d2) ⟨S_223 d2.1, fun z => absurd z (MD_11 d2), fun _ => k0 _ _ (e _) d2⟩⟩
theorem MD_closes {Q : MH → Prop} {e : Nat × Nat} (d : MD hb g e) (kq : ∀ g2, MD hb g2 e → Q g2) : wX10_closes 223 g Q := by
  refine ⟨S_223 d.1, x_eats d.1 (MD_11 d) ⟨fun z => absurd nI_0 z, fun _ => ⟨S_223 d.1, m_fails1 d.1 (MD_11 d) ⟨S_223 d.1, 227, R_223_4 d.1, 2337, S_227 d.1, vp_in_nI (by omega) (by omega), vp_in_nI (by omega) (by omega), fun h11 e11 => kq h11 (MD_row d ?_ ?_)⟩⟩⟩⟩
  · rw [e11]; exact LX_sI d.1
  · rw [e11]; exact Fr_sI rfl
theorem MT_closes {Q : MH → Prop} (p : MT hb g T n m t cs v) (hL : tnL v ≤ 10) (k1 : (∀ f, eatL T n 30 t f = f (nx T n t)) → ∀ g2, MT hb g2 T n m (nx T n t) cs (tnUp v) → Q g2) (k0 : ∀ e, (∀ f, eatL T n 30 t f = .inl e) → ∀ g2, MD hb g2 e → Q g2) : wX10_closes 223 g Q := by
  refine ⟨S_223 (MT_LX p), MT_eat (Q := fun h => wX10_closes_14 Q 223 h) hL p (by omega) (fun _ e g p => ?_) (fun e g d => ?_)⟩
  · unfold wX10_closes_14
    rw [nI_clamp (show 0 < 2 ^ 31 by omega)]
    refine ⟨S_223 (MT_LX p), 227, R_223_4 (MT_LX p), 2337, S_227 (MT_LX p), vp_in_nI (by omega) (by omega), vp_in_nI (by omega) (by omega), fun h11 e11 => k1 e h11 (MT_row p ?_ ?_ (fun k hk => ?_) ?_)⟩
    · rw [e11]; exact LX_sI (MT_LX p)
    · rw [e11]; exact Fr_sI rfl
    · rw [e11, hI_sI, if_neg (by omega)]
    · rw [p.2.2.1.1, nI_add] at e11
      obtain ⟨h1, h2, h3, h4⟩ := p.2.2
      have no : ∀ k, k ≠ 0 → hI h11 227 k = hI g 227 k := fun k hk => by rw [e11, hI_sI, if_neg (by omega)]
      refine ⟨⟨by rw [e11, hI_sI, if_pos ⟨rfl, rfl⟩]; rfl, by rw [no _ (by omega)]; exact h1.2.1, by rw [no _ (by omega)]; exact h1.2.2.1, by rw [no _ (by omega)]; exact h1.2.2.2⟩, fun k hk => ?_, fun l hl => ?_, fun k a b c => by rw [no _ (by omega)]; exact h4 k a b c⟩
      · rw [no _ (by omega), no _ (by omega), no _ (by omega)]; exact h2 k hk
      · rw [no _ (by omega), no _ (by omega), no _ (by omega), no _ (by omega)]; exact h3 l hl
  · refine ⟨S_223 d.1, 227, R_223_4 d.1, 2337, S_227 d.1, vp_in_nI (by omega) (by omega), vp_in_nI (by omega) (by omega), fun h11 e11 => k0 _ e h11 (MD_row d ?_ ?_)⟩
    · rw [e11]; exact LX_sI d.1
    · rw [e11]; exact Fr_sI rfl
theorem MT_line {Q : MH → Prop} (p : MT hb g T n m t cs v) (hv : TnA v) (hc : cs.1 ≤ tkA t) (h24 : tkK t ≠ 24) (k1 : ∀ m2 t2 cs2 v2 g2, lineL T n t cs v = .inr (t2, cs2, v2) → MT hb g2 T n m2 t2 cs2 v2 → Q g2) (k0 : ∀ e g2, lineL T n t cs v = .inl e → MD hb g2 e → Q g2) : wX10_readLine 223 g (fun h70 => hS h70 223 = (1, 10) ∧ wX10_closes 223 h70 Q) := by
  have hL := hv.2.2.1
  unfold lineL at k1 k0
  have ok := p.1.1
  have good : ∀ m2 t2 cs2 v2 g2, kindL T n t cs v = .inr (t2, cs2, v2) → MT hb g2 T n m2 t2 cs2 v2 → hS g2 223 = (1, 10) ∧ wX10_closes 223 g2 Q := fun m2 t2 cs2 v2 g2 e p2 => by
    have v2a := TnA_kind ok h24 e hv
    rw [e, bndL_r] at k1 k0
    exact ⟨S_223 (MT_LX p2), MT_closes p2 v2a.2.2.1 (fun e2 g3 p3 => k1 m2 _ _ _ g3 (e2 _) p3) (fun e0 e2 g3 d3 => k0 e0 g3 (e2 _) d3)⟩
  have dead : ∀ e g2, kindL T n t cs v = .inl e → MD hb g2 e → hS g2 223 = (1, 10) ∧ wX10_closes 223 g2 Q := fun e g2 e2 d => by
    rw [e2] at k0
    exact ⟨S_223 d.1, MD_closes d (fun g3 d3 => k0 e g3 rfl d3)⟩
  clear k1 k0
  unfold kindL at good dead
  have k9 : hI g 223 9 = nI (tkK t) := by
    obtain ⟨_, ⟨nu, wa, r, _⟩, _⟩ := p.1
    exact r.2.2.2.2.2.1
  refine ⟨S_223 (MT_LX p), fun _ => PM_is p.1 (by omega) ?_, fun z => absurd (PM_11 p.1) z⟩
  by_cases q : tkK t = 3
  · rw [if_pos q] at good dead ⊢
    exact ⟨fun z => absurd z (by decide), fun _ => ⟨S_223 (MT_LX p), MT_link p hv (good m) dead⟩⟩
  · rw [if_neg q] at good dead ⊢
    refine ⟨fun _ => ⟨S_223 (MT_LX p), PM_is p.1 (by omega) ?_⟩, fun z => absurd nI_0 z⟩
    by_cases q2 : tkK t = 6
    · rw [if_pos q2] at good dead ⊢
      refine ⟨fun _ => ⟨S_223 (MT_LX p), ?_⟩, fun z => absurd z (by decide)⟩
      rw [k9, q2, nI_subN (by omega)]
      exact MT_law (by omega) p hL hc h24 (good 0) dead
    · rw [if_neg q2] at good dead ⊢
      refine ⟨fun z => absurd nI_0 z, fun _ => ⟨S_223 (MT_LX p), PM_is p.1 (by omega) ?_⟩⟩
      by_cases q3 : tkK t = 7
      · rw [if_pos q3] at good dead ⊢
        refine ⟨fun z => absurd z (by decide), fun _ => ⟨S_223 (MT_LX p), ?_⟩⟩
        rw [k9, q3, nI_subN (by omega)]
        exact MT_law (by omega) p hL hc h24 (good 1) dead
      · rw [if_neg q3] at dead ⊢
        exact ⟨fun _ => ⟨S_223 (MT_LX p), PM_fails p.1 (by omega) (fun g2 c => dead _ g2 rfl (MT_F p c))⟩, fun z => absurd nI_0 z⟩
theorem MT_lines {Q : Int32 → MH → Prop} : ∀ (k m : Nat) (t : TK) (cs : CD) (v : TN) (g : MH), MT hb g T n m t cs v → TnA v → cs.1 ≤ tkA t → n - tkA t < k → (∀ m2 t2 cs2 v2 g2, linesL T n k t cs v = .inr (t2, cs2, v2) → MT hb g2 T n m2 t2 cs2 v2 → wX10_net_126 Q 223 g2) → (∀ e g2, linesL T n k t cs v = .inl e → MD hb g2 e → wX10_net_126 Q 223 g2) → wX10_net_99 Q (k + 1) 223 g := by
  intro k
  induction k with
  | zero => intro m t cs v g _ _ _ h; omega
  | succ k ih =>
    intro m t cs v g p hv hc hk k1 k0
    have ok := p.1.1
    have f := TkOK_f ok
    have k9 : hI g 223 9 = nI (tkK t) := by
      obtain ⟨_, ⟨nu, wa, r, _⟩, _⟩ := p.1
      exact r.2.2.2.2.2.1
    unfold linesL at k1 k0
    unfold wX10_net_99
    rw [k9]
    refine ⟨S_223 (MT_LX p), fun z => absurd (PM_11 p.1) z, fun _ => ⟨fun z => ?_, fun z => ?_⟩⟩
    · have q : tkK t = 24 := (nI_eq (by omega) (by omega)).mp z
      exact k1 m t cs v g (by rw [if_pos q]) p
    · have q : tkK t ≠ 24 := fun y => z (by rw [y])
      rw [if_neg q] at k1 k0
      refine MT_line p hv hc q (fun m2 t2 cs2 v2 g2 e p2 => ?_) (fun e g2 e2 d => ?_)
      · have go := (line_go ok q e).1
        have l1 := go.2.1
        have l2 := go.2.2.2.1
        have fl := f.2.2.2.2.2 q
        rw [e, bndL_r] at k1 k0
        exact ih m2 t2 cs2 v2 g2 p2 (TnA_line ok q e hv) (by omega) (by omega) k1 k0
      · rw [e2] at k0
        have d2 := k0 e g2 rfl d
        unfold wX10_net_99
        exact ⟨S_223 d.1, fun _ => d2, fun z => absurd z (MD_11 d)⟩
def tn0 : TN := ((0, 0, 0, 0), (fun _ => 0, fun _ => 0, fun _ => 0, fun _ => 0), (0, 0, 0, 0))
theorem MIv_K {f g : Nat → Int32} {k r N x : Nat} (h : MIv f ((k, r, N, 0), (fun _ => 0, fun _ => 0, fun _ => 0, fun _ => 0), (0, 0, 0, 0))) (e : ∀ j, g j = if j = 1 then nI x else f j) : MIv g ((x, r, N, 0), (fun _ => 0, fun _ => 0, fun _ => 0, fun _ => 0), (0, 0, 0, 0)) := by
  obtain ⟨h1, h2, h3, h4⟩ := h
  have no : ∀ j, j ≠ 1 → g j = f j := fun j hj => by rw [e, if_neg hj]
  exact ⟨⟨(no _ (by omega)).trans h1.1, by rw [e, if_pos rfl]; rfl, (no _ (by omega)).trans h1.2.2.1, (no _ (by omega)).trans h1.2.2.2⟩, fun m hm => by rw [no _ (by omega), no _ (by omega), no _ (by omega)]; exact h2 m hm, fun l hl => absurd hl (by show ¬ l < 0; omega), fun j a b c => (no _ (by omega)).trans (h4 j a b c)⟩
theorem MIv_R {f g : Nat → Int32} {k r N x : Nat} (h : MIv f ((k, r, N, 0), (fun _ => 0, fun _ => 0, fun _ => 0, fun _ => 0), (0, 0, 0, 0))) (e : ∀ j, g j = if j = 114 then nI x else f j) : MIv g ((k, x, N, 0), (fun _ => 0, fun _ => 0, fun _ => 0, fun _ => 0), (0, 0, 0, 0)) := by
  obtain ⟨h1, h2, h3, h4⟩ := h
  have no : ∀ j, j ≠ 114 → g j = f j := fun j hj => by rw [e, if_neg hj]
  exact ⟨⟨(no _ (by omega)).trans h1.1, (no _ (by omega)).trans h1.2.1, (no _ (by omega)).trans h1.2.2.1, by rw [e, if_pos rfl]; rfl⟩, fun m hm => by rw [no _ (by omega), no _ (by omega), no _ (by omega)]; exact h2 m hm, fun l hl => absurd hl (by show ¬ l < 0; omega), fun j a b c => (no _ (by omega)).trans (h4 j a b c)⟩
theorem MT_head {Q : Int32 → MH → Prop} (p : MT hb g T n m t (0, fun _ => 0) tn0) (k1 : ∀ t2 cs2 v2 g2, headL T n t = .inr (t2, cs2, v2) → MT hb g2 T n m t2 cs2 v2 → ∃ j, wX10_net_99 Q j 223 g2) (k0 : ∀ e g2, headL T n t = .inl e → MD hb g2 e → ∃ j, wX10_net_99 Q j 223 g2) : wX10_eats 223 (nI 0) g (fun r18 h19 => (¬ (r18 = 0) → wX10_net_66 Q 223 h19) ∧ (r18 = 0 → hS h19 223 = (1, 10) ∧ wX10_fails 223 (nI 2) h19 (fun h77 => wX10_net_66 Q 223 h77))) := by
  have c1 : (nI 1).toNatClampNeg = 1 := nI_clamp (by omega)
  have c114 : (nI 114).toNatClampNeg = 114 := nI_clamp (by omega)
  unfold headL at k1 k0
  have z0 : tnL tn0 ≤ 10 := by decide
  have d3 : ∀ e g x, MD hb g e → (∀ g2, MD hb g2 e → ∃ j, wX10_net_99 Q j 223 g2) → ∀ h37, h37 = sI g 227 114 x → hS h37 223 = (1, 10) ∧ wX10_closes 223 h37 (fun h40 => ∃ j, wX10_net_99 Q j 223 h40) := fun e g x d kq h37 e37 => by
    have d2 : MD hb h37 e := MD_row d (by rw [e37]; exact LX_sI d.1) (by rw [e37]; exact Fr_sI rfl)
    exact ⟨S_223 d2.1, MD_closes d2 kq⟩
  have d2 : ∀ e g x, MD hb g e → (∀ g2, MD hb g2 e → ∃ j, wX10_net_99 Q j 223 g2) → ∀ h28, h28 = sI g 227 1 x → hS h28 223 = (1, 10) ∧ ∃ a30, hR h28 223 4 = some a30 ∧ wX10_named 223 (nI 2) (nI 0) (nI 9) h28 (fun r32 h33 => ∃ n35, hS h33 a30 = (2, n35) ∧ vp_in (nI 114) n35 ∧ ∀ h37, h37 = sI h33 a30 114 (r32) → hS h37 223 = (1, 10) ∧ wX10_closes 223 h37 (fun h40 => ∃ m74, wX10_net_99 Q m74 223 h40)) := fun e g x d kq h28 e28 => by
    have d2 : MD hb h28 e := MD_row d (by rw [e28]; exact LX_sI d.1) (by rw [e28]; exact Fr_sI rfl)
    exact ⟨S_223 d2.1, 227, R_223_4 d2.1, x_named d2.1 (MD_11 d2) (fun r => ⟨2337, S_227 d2.1, vp_in_nI (by omega) (by omega), d3 e _ r d2 kq⟩)⟩
  refine MT_eat z0 p (by omega) (fun _ e g p => ?_) (fun e g d => ?_)
  · rw [e] at k1 k0
    unfold wX10_net_66
    rw [c1, c114]
    refine ⟨S_223 (MT_LX p), 227, R_223_4 (MT_LX p), MT_named z0 p (by omega) (by omega) (by omega) (fun x t2 e x1 x2 g p => ⟨2337, S_227 (MT_LX p), vp_in_nI (by omega) (by omega), fun h28 e28 => ?_⟩) (fun e0 r e g d => ⟨2337, S_227 d.1, vp_in_nI (by omega) (by omega), d2 e0 g r d (fun g2 d2 => k0 e0 g2 (e _) d2)⟩)⟩
    rw [e] at k1 k0
    have p2 : MT hb h28 T n m t2 (0, fun _ => 0) ((x, 0, 0, 0), (fun _ => 0, fun _ => 0, fun _ => 0, fun _ => 0), (0, 0, 0, 0)) := by
      refine MT_row p (by rw [e28]; exact LX_sI (MT_LX p)) (by rw [e28]; exact Fr_sI rfl) (fun k hk => by rw [e28, hI_sI, if_neg (by omega)]) (MIv_K p.2.2 (fun j => ?_))
      rw [e28, hI_sI]
      by_cases q : j = 1
      · rw [if_pos ⟨rfl, q⟩, if_pos q]
      · rw [if_neg (fun y => q y.2), if_neg q]
    refine ⟨S_223 (MT_LX p2), 227, R_223_4 (MT_LX p2), MT_named (by show 0 ≤ 10; omega) p2 (by omega) (by omega) (by omega) (fun r t3 e r1 r2 g p => ⟨2337, S_227 (MT_LX p), vp_in_nI (by omega) (by omega), fun h37 e37 => ?_⟩) (fun e0 r e g d => ⟨2337, S_227 d.1, vp_in_nI (by omega) (by omega), d3 e0 g r d (fun g2 d2 => k0 e0 g2 (e _) d2)⟩)⟩
    rw [e] at k1 k0
    have p3 : MT hb h37 T n m t3 (0, fun _ => 0) ((x, r, 0, 0), (fun _ => 0, fun _ => 0, fun _ => 0, fun _ => 0), (0, 0, 0, 0)) := by
      refine MT_row p (by rw [e37]; exact LX_sI (MT_LX p)) (by rw [e37]; exact Fr_sI rfl) (fun k hk => by rw [e37, hI_sI, if_neg (by omega)]) (MIv_R p.2.2 (fun j => ?_))
      rw [e37, hI_sI]
      by_cases q : j = 114
      · rw [if_pos ⟨rfl, q⟩, if_pos q]
      · rw [if_neg (fun y => q y.2), if_neg q]
    exact ⟨S_223 (MT_LX p3), MT_closes p3 (by show 0 ≤ 10; omega) (fun e g p => k1 _ _ _ g (e _) p) (fun e0 e g d => k0 e0 g (e _) d)⟩
  · unfold wX10_net_66
    rw [c1, c114]
    have kq : ∀ g2, MD hb g2 (flt t 2) → ∃ j, wX10_net_99 Q j 223 g2 := fun g2 d2 => k0 _ g2 (e _) d2
    exact ⟨S_223 d.1, 227, R_223_4 d.1, x_named d.1 (MD_11 d) (fun r => ⟨2337, S_227 d.1, vp_in_nI (by omega) (by omega), d2 _ g r d kq⟩)⟩
end MTW
