/-! Part au: the reference reads links, laws, lines, a head. -/
theorem MIv_add {f g : Nat → Int32} {v : TN} {x y o w : Nat} (h : MIv f v) (hL : tnL v < 10) (e : ∀ k, g k = if k = 2 then nI (tnL v + 1) else if k = 9 + 2 * tnL v then nI x else if k = 9 + 2 * tnL v + 1 then nI y else if k = 29 + tnL v then nI o else if k = 39 + tnL v then nI w else f k) : MIv g (tnAdd v x y o w) := by
  obtain ⟨h1, h2, h3, h4⟩ := h
  have no : ∀ k, k ≠ 2 → (k < 9 ∨ 49 ≤ k) → g k = f k := fun k a b => by rw [e, if_neg a, if_neg (by omega), if_neg (by omega), if_neg (by omega), if_neg (by omega)]
  refine ⟨⟨(no 0 (by omega) (by omega)).trans h1.1, (no 1 (by omega) (by omega)).trans h1.2.1, by rw [e, if_pos rfl]; rfl, (no 114 (by omega) (by omega)).trans h1.2.2.2⟩, fun m hm => ?_, fun l hl => ?_, fun k a b c => (no k (by omega) (by omega)).trans (h4 k a b c)⟩
  · rw [no _ (by omega) (by omega), no _ (by omega) (by omega), no _ (by omega) (by omega)]
    exact h2 m hm
  · have hl : l < tnL v + 1 := hl
    show _ = nI (if l = tnL v then x else tnF v l) ∧ _ = nI (if l = tnL v then y else tnT v l) ∧ _ = nI (if l = tnL v then o else tnO v l) ∧ _ = nI (if l = tnL v then w else tnW v l)
    by_cases z : l = tnL v
    · rw [if_pos z, if_pos z, if_pos z, if_pos z]
      refine ⟨?_, ?_, ?_, ?_⟩
      · rw [e, if_neg (by omega), if_pos (by omega)]
      · rw [e, if_neg (by omega), if_neg (by omega), if_pos (by omega)]
      · rw [e, if_neg (by omega), if_neg (by omega), if_neg (by omega), if_pos (by omega)]
      · rw [e, if_neg (by omega), if_neg (by omega), if_neg (by omega), if_neg (by omega), if_pos (by omega)]
    · rw [if_neg z, if_neg z, if_neg z, if_neg z]
      rw [e, if_neg (by omega), if_neg (by omega), if_neg (by omega), if_neg (by omega), if_neg (by omega), e, if_neg (by omega), if_neg (by omega), if_neg (by omega), if_neg (by omega), if_neg (by omega), e, if_neg (by omega), if_neg (by omega), if_neg (by omega), if_neg (by omega), if_neg (by omega), e, if_neg (by omega), if_neg (by omega), if_neg (by omega), if_neg (by omega), if_neg (by omega)]
      exact h3 l (by omega)
section MTL
variable {hb g : MH} {T : Nat → Nat} {n m : Nat} {t : TK} {cs : CD} {v : TN}
/-- a state moved by writes to the told row alone -/
theorem MT_row {g2 : MH} {v2 : TN} (p : MT hb g T n m t cs v) (hl : LX g2) (f : Fr (fun b => b = 227) g g2) (c : ∀ k, 1436 ≤ k → hI g2 227 k = hI g 227 k) (mi : MIv (hI g2 227) v2) : MT hb g2 T n m t cs v2 := by
  obtain ⟨p1, p2, p3⟩ := p
  have i9 : ∀ b, b ≠ 227 → hI g2 b = hI g b := fun b hb => f.2.2.2.2 b hb
  refine ⟨⟨p1.1, RmT_P p1.2.1 (i9 223 (by omega)) (i9 226 (by omega)) hl, FrQ_rfl _, by rw [i9 223 (by omega)]; exact p1.2.2.2.1, by rw [c _ (by omega)]; exact p1.2.2.2.2.1, fun i hi => by rw [c _ (by omega)]; exact p1.2.2.2.2.2 i hi⟩, ⟨Fr_trans p2.1 (Fr_mono (fun b hb => Or.inr hb) f), fun k a b => by rw [i9 223 (by omega)]; exact p2.2 k a b⟩, mi⟩
theorem MD_row {g2 : MH} {e : Nat × Nat} (p : MD hb g e) (hl : LX g2) (f : Fr (fun b => b = 227) g g2) : MD hb g2 e := by
  have i9 : ∀ b, b ≠ 227 → hI g2 b = hI g b := fun b hb => f.2.2.2.2 b hb
  exact ⟨hl, ⟨Fr_trans p.2.1.1 (Fr_mono (fun b hb => Or.inr hb) f), fun k a b => by rw [i9 223 (by omega)]; exact p.2.1.2 k a b⟩, p.2.2.1, p.2.2.2.1, by rw [i9 223 (by omega)]; exact p.2.2.2.2.1, by rw [i9 223 (by omega)]; exact p.2.2.2.2.2⟩
theorem m_joined {Q : Int32 → MH → Prop} {x y : Nat} (hx : x < 1000) (hy : y < 1000) (hv : TnA v) (hl : LX g) (mi : MIv (hI g 227) v) (hq : Q (if jnF (tnF v) (tnT v) x y (tnL v) = true then nI 1 else nI 0) g) : ∀ k l, l + k = tnL v → jnF (tnF v) (tnT v) x y l = false → wX10_areJoined_2 Q (k + 1) 223 (nI x) (nI y) (nI l) g := by
  have hL := hv.2.2.1
  have up : ∀ j l, l + j ≤ tnL v → jnF (tnF v) (tnT v) x y l = true → jnF (tnF v) (tnT v) x y (l + j) = true := by
    intro j
    induction j with
    | zero => intro l _ e; exact e
    | succ j ih =>
      intro l h e
      show (jnF (tnF v) (tnT v) x y (l + j) || _) = true
      rw [ih l (by omega) e]
      rfl
  intro k
  induction k with
  | zero =>
    intro l hl2 e
    have : l = tnL v := by omega
    subst this
    unfold wX10_areJoined_2
    rw [nI_clamp (show 2 < 2 ^ 31 by omega)]
    rw [e, if_neg (by decide)] at hq
    refine ⟨S_223 hl, 227, R_223_4 hl, 2337, S_227 hl, vp_in_nI (by omega) (by omega), ?_⟩
    rw [mi.1.2.2.1]
    exact ⟨fun _ => hq, fun z => absurd (nI_le (Nat.le_refl _) (by omega)) z⟩
  | succ k ih =>
    intro l hl2 e
    have lt : l < tnL v := by omega
    have b := hv.2.2.2 l lt
    have bk := hv.2.1
    have w := mi.2.2.1 l lt
    unfold wX10_areJoined_2
    refine ⟨S_223 hl, 227, R_223_4 hl, 2337, S_227 hl, vp_in_nI (by omega) (by omega), ?_⟩
    rw [nI_clamp (show 2 < 2 ^ 31 by omega), mi.1.2.2.1]
    refine ⟨fun z => absurd z (nI_ge lt (by omega)), fun _ => ?_⟩
    rw [nI_mul, nI_add, nI_add, nI_clamp (by omega), nI_clamp (by omega), w.1, w.2.1]
    have yes : jnF (tnF v) (tnT v) x y (l + 1) = true → Q (nI 1) g := fun z => by
      have u := up k (l + 1) (by omega) z
      rw [show l + 1 + k = tnL v from by omega] at u
      rw [if_pos u] at hq
      exact hq
    have ejn : jnF (tnF v) (tnT v) x y (l + 1) = (jnF (tnF v) (tnT v) x y l || decide ((tnF v l = x ∧ tnT v l = y) ∨ (tnF v l = y ∧ tnT v l = x))) := rfl
    refine ⟨vp_in_nI (by omega) (by omega), fun v8 e8 => ⟨vp_in_nI (by omega) (by omega), fun v10 e10 => ?_⟩⟩
    have E8 : ∀ j, j < 1000 → (v8 = nI j ↔ tnF v l = j) := fun j hj => by rw [e8]; exact nI_eq (by omega) (by omega)
    have E10 : ∀ j, j < 1000 → (v10 = nI j ↔ tnT v l = j) := fun j hj => by rw [e10]; exact nI_eq (by omega) (by omega)
    have other : ¬ (tnF v l = x ∧ tnT v l = y) → wX10_areJoined_52 Q (wX10_areJoined_2 Q (k + 1)) 223 (nI x) (nI y) (nI l) v8 v10 g := fun z => by
      have nxt : ¬ (tnF v l = y ∧ tnT v l = x) → wX10_areJoined_2 Q (k + 1) 223 (nI x) (nI y) (nI l + nI 1) g := fun z2 => by
        rw [nI_add]
        refine ih (l + 1) (by omega) ?_
        rw [ejn, e, Bool.false_or, decide_eq_false_iff_not]
        exact fun z3 => z3.elim z z2
      refine ⟨fun z2 => nxt (fun z3 => z2 ((E8 y hy).mpr z3.1)), fun z2 => ⟨fun z3 => nxt (fun z4 => z3 ((E10 x hx).mpr z4.2)), fun z3 => yes ?_⟩⟩
      rw [ejn, e, Bool.false_or, decide_eq_true_eq]
      exact Or.inr ⟨(E8 y hy).mp z2, (E10 x hx).mp z3⟩
    refine ⟨fun z => other (fun z2 => z ((E8 x hx).mpr z2.1)), fun z => ⟨fun z2 => yes ?_, fun z2 => other (fun z3 => z2 ((E10 y hy).mpr z3.2))⟩⟩
    rw [ejn, e, Bool.false_or, decide_eq_true_eq]
    exact Or.inl ⟨(E8 x hx).mp z, (E10 y hy).mp z2⟩
theorem MT_link {Q : MH → Prop} (p : MT hb g T n m t cs v) (hv : TnA v) (k1 : ∀ t2 cs2 v2 g2, linkL T n t cs v = .inr (t2, cs2, v2) → MT hb g2 T n m t2 cs2 v2 → Q g2) (k0 : ∀ e g2, linkL T n t cs v = .inl e → MD hb g2 e → Q g2) : wX10_readLink 223 g Q := by
  have hL := hv.2.2.1
  have hK := hv.2.1
  have hK1 := hv.1
  have c2 : (nI 2).toNatClampNeg = 2 := nI_clamp (by omega)
  have c1 : (nI 1).toNatClampNeg = 1 := nI_clamp (by omega)
  unfold linkL at k1 k0
  unfold wX10_readLink
  rw [c2]
  refine ⟨S_223 (MT_LX p), 227, R_223_4 (MT_LX p), 2337, S_227 (MT_LX p), vp_in_nI (by omega) (by omega), fun z => ?_, fun z => ?_⟩
  · rw [p.2.2.1.2.2.1] at z ⊢
    have lt : tnL v < 10 := by
      have : tnL v ≠ 10 := fun y => z (by rw [y])
      omega
    rw [if_neg (by omega)] at k1 k0
    refine ⟨S_223 (MT_LX p), fun _ => MT_next hL p (fun g p => ⟨S_223 (MT_LX p), 227, R_223_4 (MT_LX p), 2337, S_227 (MT_LX p), vp_in_nI (by omega) (by omega), ?_⟩), fun z => absurd (PM_11 p.1) z⟩
    rw [c1, p.2.2.1.2.1, nI_subN hK1]
    -- all behind a fault
    have dead78 : ∀ e x g, (∀ q : MH → Prop, (∀ g2, MD hb g2 e → q g2) → q g) → MD hb g e → (∀ g2, MD hb g2 e → Q g2) → wX10_readLink_78 Q 223 (nI (tnL v)) x g := fun e x g _ d kq => by
      refine ⟨S_223 d.1, 227, R_223_4 d.1, 2337, S_227 d.1, vp_in_nI (by omega) (by omega), x_takes d.1 (MD_11 d) (fun r => ⟨S_223 d.1, x_named d.1 (MD_11 d) (fun r => ⟨S_223 d.1, x_named d.1 (MD_11 d) (fun r => ⟨S_223 d.1, fun z => absurd z (MD_11 d), fun _ => kq g d⟩)⟩)⟩)⟩
    refine MT_takes hL p (by omega) (by omega) (fun x1 x2 x3 e g p => ⟨S_223 (MT_LX p), PM_is p.1 (by omega) ?_⟩) (fun e0 r e g d => ⟨S_223 d.1, m_is1 d.1 (MD_11 d) ⟨fun _ => dead78 e0 _ g (fun q h => h g d) d (fun g2 d2 => k0 e0 g2 (e _ _) d2), fun z => absurd nI_0 z⟩⟩)
    rw [e] at k1 k0
    generalize nx T n t = t1 at *
    -- the second number
    have live : ∀ g, MT hb g T n m (nx T n t1) cs v → (tkK (nx T n t1) = 23 → bdJ v (tkV t1) (tkV (nx T n t1)) = false) → wX10_readLink_78 Q 223 (nI (tnL v)) (nI (tkV t1)) g := fun g p nb => by
      unfold wX10_readLink_78
      rw [c2, c1]
      refine ⟨S_223 (MT_LX p), 227, R_223_4 (MT_LX p), 2337, S_227 (MT_LX p), vp_in_nI (by omega) (by omega), ?_⟩
      rw [p.2.2.1.2.1, nI_subN hK1]
      refine MT_takes hL p (by omega) (by omega) (fun y1 y2 y3 e g p => ?_) (fun e0 r e g d => ⟨S_223 d.1, x_named d.1 (MD_11 d) (fun r => ⟨S_223 d.1, x_named d.1 (MD_11 d) (fun r => ⟨S_223 d.1, fun z => absurd z (MD_11 d), fun _ => k0 e0 g (e _ _) d⟩)⟩)⟩)
      have e' : ∀ f, numP T n (nx T n t1) 0 (tnK v - 1) (bdJ v (tkV t1)) f = f (tkV (nx T n t1)) (nx T n (nx T n t1)) := fun f => by
        unfold numP
        rw [if_neg (by omega), if_neg (fun w => ?_)]
        rcases w with w | w | w
        · omega
        · omega
        · rw [nb y1] at w; exact absurd w (by decide)
      rw [e'] at k1 k0
      refine ⟨S_223 (MT_LX p), MT_named hL p (by omega) (by omega) (by omega) (fun o t3 e o1 o2 g p => ?_) (fun e0 r e g d => ⟨S_223 d.1, x_named d.1 (MD_11 d) (fun r => ⟨S_223 d.1, fun z => absurd z (MD_11 d), fun _ => k0 e0 g (e _) d⟩)⟩)⟩
      rw [e] at k1 k0
      refine ⟨S_223 (MT_LX p), MT_named hL p (by omega) (by omega) (by omega) (fun w t4 e w1 w2 g p => ?_) (fun e0 r e g d => ⟨S_223 d.1, fun z => absurd z (MD_11 d), fun _ => k0 e0 g (e _) d⟩)⟩
      rw [e] at k1
      refine ⟨S_223 (MT_LX p), fun _ => ?_, fun z => absurd (PM_11 p.1) z⟩
      rw [nI_mul, nI_add, nI_add, nI_add, nI_add, nI_clamp (by omega), nI_clamp (by omega), nI_clamp (by omega), nI_clamp (by omega)]
      refine ⟨227, R_223_4 (MT_LX p), 2337, S_227 (MT_LX p), vp_in_nI (by omega) (by omega), fun h41 e41 => ⟨vp_in_nI (by omega) (by omega), fun h43 e43 => ⟨vp_in_nI (by omega) (by omega), fun h45 e45 => ⟨vp_in_nI (by omega) (by omega), fun h47 e47 => ⟨vp_in_nI (by omega) (by omega), vp_in_nI (by omega) (by omega), fun h50 e50 => ?_⟩⟩⟩⟩⟩
      have i2 : hI h47 227 2 = nI (tnL v) := by rw [e47, hI_sI, if_neg (by omega), e45, hI_sI, if_neg (by omega), e43, hI_sI, if_neg (by omega), e41, hI_sI, if_neg (by omega)]; exact p.2.2.1.2.2.1
      rw [i2, nI_add, e47, e45, e43, e41] at e50
      refine k1 _ _ _ h50 rfl (MT_row p ?_ ?_ (fun k hk => ?_) (MIv_add p.2.2 lt (fun k => ?_)))
      · rw [e50]; exact LX_sI (LX_sI (LX_sI (LX_sI (LX_sI (MT_LX p)))))
      · rw [e50]; exact Fr_trans (Fr_trans (Fr_trans (Fr_trans (Fr_sI rfl) (Fr_sI rfl)) (Fr_sI rfl)) (Fr_sI rfl)) (Fr_sI rfl)
      · rw [e50, hI_sI, if_neg (by omega), hI_sI, if_neg (by omega), hI_sI, if_neg (by omega), hI_sI, if_neg (by omega), hI_sI, if_neg (by omega)]
      · rw [e50, hI_sI, hI_sI, hI_sI, hI_sI, hI_sI]
        by_cases a1 : k = 2
        · rw [if_pos ⟨rfl, a1⟩, if_pos a1]
        · rw [if_neg (fun y => a1 y.2), if_neg a1]
          by_cases a2 : k = 39 + tnL v
          · rw [if_pos ⟨rfl, a2⟩, if_neg (by omega), if_neg (by omega), if_neg (by omega), if_pos a2]
          · rw [if_neg (fun y => a2 y.2)]
            by_cases a3 : k = 29 + tnL v
            · rw [if_pos ⟨rfl, a3⟩, if_neg (by omega), if_neg (by omega), if_pos a3]
            · rw [if_neg (fun y => a3 y.2)]
              by_cases a4 : k = 9 + 2 * tnL v + 1
              · rw [if_pos ⟨rfl, a4⟩, if_neg (by omega), if_pos a4]
              · rw [if_neg (fun y => a4 y.2)]
                by_cases a5 : k = 9 + 2 * tnL v
                · rw [if_pos ⟨rfl, a5⟩, if_pos a5]
                · rw [if_neg (fun y => a5 y.2), if_neg a5, if_neg a4, if_neg a3, if_neg a2]
    have f3 := TkOK_f p.1.1
    have k10 : tkK (nx T n t1) = 23 → hI g 223 10 = nI (tkV (nx T n t1)) := fun z => by
      obtain ⟨_, ⟨nu, wa, r, q⟩, _⟩ := p.1
      rw [← q z]
      exact r.2.2.2.2.2.2.1
    have badq : tkK (nx T n t1) = 23 → bdJ v (tkV t1) (tkV (nx T n t1)) = true → wX10_readLink_73 Q 223 (nI (tnL v)) (nI (tkV t1)) g := fun z1 z2 => by
      refine ⟨S_223 (MT_LX p), PM_fails p.1 (by omega) (fun g2 c => dead78 _ _ g2 (fun q h => h g2 (MT_F p c)) (MT_F p c) (fun g3 d3 => k0 _ g3 ?_ d3))⟩
      unfold numP
      rw [if_neg (by omega), if_pos (Or.inr (Or.inr z2))]
    by_cases q : tkK (nx T n t1) = 23
    · rw [if_pos q]
      refine ⟨fun z => absurd z (by decide), fun _ => ⟨S_223 (MT_LX p), ?_⟩⟩
      rw [k10 q]
      refine ⟨fun z => badq q ?_, fun z => ⟨tnL v + 1, m_joined (by omega) (by omega) hv (MT_LX p) p.2.2 ?_ (tnL v) 0 (by omega) rfl⟩⟩
      · have := (nI_eq (by omega) (by omega)).mp z
        unfold bdJ
        rw [this, decide_eq_true rfl]
        rfl
      · have ne : tkV (nx T n t1) ≠ tkV t1 := fun y => z (by rw [y])
        have eb : bdJ v (tkV t1) (tkV (nx T n t1)) = jnF (tnF v) (tnT v) (tkV t1) (tkV (nx T n t1)) (tnL v) := by
          unfold bdJ
          rw [decide_eq_false ne]
          rfl
        by_cases j : jnF (tnF v) (tnT v) (tkV t1) (tkV (nx T n t1)) (tnL v) = true
        · rw [if_pos j]
          exact ⟨fun z => absurd z (by decide), fun _ => badq q (eb.trans j)⟩
        · rw [if_neg j]
          exact ⟨fun _ => live g p (fun _ => by rw [eb]; exact Bool.eq_false_iff.mpr j), fun z => absurd nI_0 z⟩
    · rw [if_neg q]
      exact ⟨fun _ => live g p (fun z => absurd z q), fun z => absurd nI_0 z⟩
  · rw [p.2.2.1.2.2.1] at z
    have e10 : tnL v = 10 := (nI_eq (by omega) (by omega)).mp z
    rw [if_pos e10] at k0
    refine PM_fails p.1 (by omega) (fun g2 c => ?_)
    have d := MT_F p c
    exact ⟨S_223 d.1, fun z => absurd z (MD_11 d), fun _ => k0 _ g2 rfl d⟩
end MTL
