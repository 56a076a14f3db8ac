/-! Part ak: the class's parser: sums, atoms, units, choices; all of it. -/
theorem bnd_r {t : TK} {cs : CD} {F : TK → CD → PR} : bndP (.inr (t, cs)) F = F t cs := rfl
section CP3
variable {hb : MH} {T : Nat → Nat} {n m k : Nat}
theorem c_sumL (ia : CLs hb T n m MX5_readTerm k 1) (il : LPs hb T n m WSum k 4 3) : LPs hb T n m WSum (k + 1) 4 3 := by
  intro d D i t cs g Q hd hk hD hc hi p K1 K0
  have hl := p.2.1.1
  have f := TkOK_f p.1
  have hn := p.2.1.2.2.1.1
  have edp : dpX 3 = 9 := rfl
  have eds : dpX 1 = 8 := rfl
  have ers : rkX 1 = 2 := rfl
  have e0 : pp T n m (k + 1) 4 d t cs = if tkK t = 32 ∨ tkK t = 33 then bndP (pp T n m k 1 d (nx T n t) cs) (fun u cs => pp T n m k 4 d u (cpu (if tkK t = 32 then 3000 else 3001) cs)) else .inr (t, cs) := rfl
  have out : ¬ (tkK t = 32 ∨ tkK t = 33) → Q (nI 1) g := fun q => K1 t cs g (by rw [e0, if_neg q]) p
  have go : (tkK t = 32 ∨ tkK t = 33) → wX5_readSum_37 Q (PA MX5_readTerm (D - 1)) (wX5_readSum_8 Q (PA MX5_readTerm (D - 1)) k) 129 (nI d) (nI i) g := fun q => by
    have l := f.2.2.2.2.2 (by omega)
    have x := nx_ok p.1 (show tkK t ≠ 24 by omega)
    rw [e0, if_pos q] at K1 K0
    refine ⟨S_129 hl, PC_isAt p (i := 24) (by omega) (by omega) ?_⟩
    have ec : (if (if tkK t = kdS 24 then nI 1 else nI 0) = 0 then nI 1006 else nI 1005) = nI (ccl (if tkK t = 32 then 3000 else 3001)) := by
      rw [show kdS 24 = 32 from rfl]
      by_cases y : tkK t = 32
      · rw [if_pos y, if_pos y]; decide
      · rw [if_neg y, if_neg y]; decide
    rw [ec]
    refine ⟨S_129 hl, PC_adv p (by omega) (fun g1 p1 => ⟨S_129 p1.2.1.1, ?_⟩)⟩
    refine ia d (D - 1) (nx T n t) cs g1 _ hd (by omega) (by omega) (by omega) p1 (fun t2 cs2 g2 e2 p2 => ?_) (fun e g2 e2 f2 => ?_)
    · have go := pp_go k 1 d (nx T n t) cs t2 cs2 x.1 e2
      rw [e2] at K1 K0
      have f2 := TkOK_f p2.1
      have c2 := go.2.2.2.1
      have c3 := go.2.1
      have c4 : cX0 1 = 1 := rfl
      refine ⟨S_129 p2.2.1.1, 131, R_129_4 p2.2.1.1, S_131 p2.2.1.1, ?_⟩
      rw [nI_add]
      refine PC_put p2 (by omega) (fun g3 p3 => ?_)
      exact il d D (i + 1) t2 (cpu _ cs2) g3 Q hd (by omega) hD (by show cs2.1 + 1 ≤ _; omega) (by omega) p3 K1 K0
    · rw [e2] at K0
      refine ⟨S_129 f2.1, 131, R_129_4 f2.1, S_131 f2.1, PF_put f2 (fun g3 f3 => ?_)⟩
      have k0 := K0 e g3 rfl f3
      cases k with
      | zero => omega
      | succ k => exact ⟨fun _ => ⟨Or.inl nI_0, k0⟩, fun _ => ⟨fun _ => ⟨Or.inl nI_0, k0⟩, fun z => absurd nI_0 z⟩⟩
  refine ⟨fun z => ⟨Or.inr (by decide), out (fun q => ?_)⟩, fun _ => ⟨fun z => absurd z (by decide), fun _ => ⟨S_129 hl, PC_isAt p (i := 24) (by omega) (by omega) ?_⟩⟩⟩
  · have l := f.2.2.2.2.2 (by omega)
    exact absurd z (nI_ge (by omega) (by omega))
  · rw [show kdS 24 = 32 from rfl]
    by_cases q : tkK t = 32
    · rw [if_pos q]
      exact ⟨fun _ => go (Or.inl q), fun z => absurd z (by decide)⟩
    · rw [if_neg q]
      refine ⟨fun z => absurd nI_0 z, fun _ => ⟨S_129 hl, PC_isAt p (i := 25) (by omega) (by omega) ?_⟩⟩
      rw [show kdS 25 = 33 from rfl]
      by_cases q2 : tkK t = 33
      · rw [if_pos q2]
        exact ⟨fun z => absurd z (by decide), fun _ => go (Or.inr q2)⟩
      · rw [if_neg q2]
        exact ⟨fun _ => ⟨Or.inr (by decide), out (by omega)⟩, fun z => absurd nI_0 z⟩
theorem c_sum (ia : CLs hb T n m MX5_readTerm k 1) (il : LPs hb T n m WSum k 4 3) : CLs hb T n m MX5_readSum (k + 1) 3 := by
  intro d D t cs g Q hd hk hD hc p K1 K0
  have hl := p.2.1.1
  have f := TkOK_f p.1
  have hn := p.2.1.2.2.1.1
  have edp : dpX 3 = 9 := rfl
  have eds : dpX 1 = 8 := rfl
  have erm : rkX 3 = 3 := rfl
  have ers : rkX 1 = 2 := rfl
  have e0 : pp T n m (k + 1) 3 d t cs = bndP (pp T n m k 1 d t cs) (pp T n m k 4 d) := rfl
  rw [e0] at K1 K0
  refine gX5_readSum (PX5_readTerm := PA MX5_readTerm (D - 1)) (d2 := D - 1) (by omega) (by omega) (fun _ _ _ _ q => q) 129 (nI d) g Q ⟨S_129 hl, ?_⟩
  refine ia d (D - 1) t cs g _ hd (by omega) (by omega) hc p (fun t2 cs2 g2 e2 p2 => ⟨k, ?_⟩) (fun e g2 e2 f2 => ⟨k, ?_⟩)
  · have go := pp_go k 1 d t cs t2 cs2 p.1 e2
    rw [e2] at K1 K0
    have f2 := TkOK_f p2.1
    have c2 := go.2.2.2.1
    have c3 := go.2.1
    have c4 : cX0 1 = 1 := rfl
    exact il d D 0 t2 cs2 g2 Q hd (by omega) (by omega) (by omega) (by omega) p2 K1 K0
  · rw [e2] at K0
    have k0 := K0 e g2 rfl f2
    cases k with
    | zero => omega
    | succ k => exact ⟨fun _ => ⟨Or.inl nI_0, k0⟩, fun _ => ⟨fun _ => ⟨Or.inl nI_0, k0⟩, fun z => absurd nI_0 z⟩⟩
theorem wd35 (m : Nat) : ¬ wdC m 35 ≠ 9999 := by unfold wdC; simp
theorem wd8 (m : Nat) : ¬ wdC m 8 ≠ 9999 := by unfold wdC; simp
theorem wd23 (m : Nat) : wdC m 23 = 9999 := by unfold wdC; simp
theorem wdC_lt {m j : Nat} (h : wdC m j ≠ 9999) : wdC m j < 1007 := by
  unfold wdC at h ⊢
  by_cases a1 : j = 2
  · rw [if_pos a1]; omega
  · rw [if_neg a1] at h ⊢
    by_cases a2 : j = 4
    · rw [if_pos a2]; omega
    · rw [if_neg a2] at h ⊢
      by_cases a3 : j = 5
      · rw [if_pos a3]; omega
      · rw [if_neg a3] at h ⊢
        by_cases mm : m = 0
        · simp only [mm, if_true] at h ⊢
          by_cases a4 : j = 12
          · rw [if_pos a4]; omega
          · rw [if_neg a4] at h ⊢
            by_cases a5 : j = 13
            · rw [if_pos a5]; omega
            · rw [if_neg a5] at h ⊢
              by_cases a6 : j = 14
              · rw [if_pos a6] at h; omega
              · rw [if_neg a6] at h ⊢
                by_cases a7 : j = 15
                · rw [if_pos a7] at h; omega
                · rw [if_neg a7] at h; omega
        · simp only [mm, if_false] at h ⊢
          by_cases a4 : j = 12
          · rw [if_pos a4] at h; omega
          · rw [if_neg a4] at h ⊢
            by_cases a5 : j = 13
            · rw [if_pos a5] at h; omega
            · rw [if_neg a5] at h ⊢
              by_cases a6 : j = 14
              · rw [if_pos a6]; omega
              · rw [if_neg a6] at h ⊢
                by_cases a7 : j = 15
                · rw [if_pos a7]; omega
                · rw [if_neg a7] at h; omega
theorem ccl_small {c : Nat} (h : c < 1007) : ccl c < 1005 := by
  unfold ccl
  by_cases a : c < 1005
  · rw [if_pos a]; exact a
  · rw [if_neg a]
    by_cases b : c = 1005
    · rw [if_pos b]; omega
    · rw [if_neg b, if_pos (by omega)]; omega
theorem c_atom (hm : m < 2) (i3 : CLs hb T n m MX5_readSum k 3) (i10' : CLs hb T n m MX5_readChoice k 10) : CLs hb T n m MX5_readAtom (k + 1) 0 := by
  intro d D t cs g Q hd hk hD hc p K1 K0
  have hl := p.2.1.1
  have f := TkOK_f p.1
  have hn := p.2.1.2.2.1.1
  have ed0 : dpX 0 = 7 := rfl
  have ed3 : dpX 3 = 9 := rfl
  have ed10 : dpX 10 = 13 := rfl
  have er0 : rkX 0 = 1 := rfl
  have er3 : rkX 3 = 3 := rfl
  have er10 : rkX 10 = 7 := rfl
  have c900 : cs.1 ≤ 900 := by omega
  have e0 : pp T n m (k + 1) 0 d t cs = sAtom T n m (pp T n m k) d t cs := rfl
  rw [e0] at K1 K0
  unfold sAtom at K1 K0
  refine gX5_readAtom (PX5_readSum := PA MX5_readSum (D - 1)) (PX5_readChoice := PA MX5_readChoice (D - 1)) (d2 := D - 1) (by omega) (by omega) (fun _ _ _ _ q => q) (fun _ _ _ _ q => q) 129 (nI d) g Q ⟨S_129 hl, PC_isAt p (i := 13) (by omega) (by omega) ?_⟩
  rw [show kdS 13 = 35 from rfl]
  by_cases q : tkK t = 35
  · have l := f.2.2.2.2.2 (by omega)
    have x := nx_ok p.1 (show tkK t ≠ 24 by omega)
    rw [if_neg (by omega), if_neg (by rw [q]; exact wd35 m), if_pos q] at K1 K0
    rw [if_pos q]
    refine ⟨fun z => absurd z (by decide), fun _ => ⟨S_129 hl, PC_goes p hd (by omega) c900 (fun d6 g1 p1 => ⟨fun z => absurd z (by decide), fun _ => ⟨S_129 p1.2.1.1, ?_⟩⟩) (fun d6 g1 f1 => ⟨fun _ => ?_, fun z => absurd nI_0 z⟩)⟩⟩
    · rw [if_neg d6] at K1 K0
      rw [nI_add]
      refine i3 (d + 1) (D - 1) (nx T n t) cs g1 _ (by omega) (by omega) (by omega) (by omega) p1 (fun t2 cs2 g2 e2 p2 => ⟨fun z => absurd z (by decide), fun _ => ⟨S_129 p2.2.1.1, ?_⟩⟩) (fun e g2 e2 f2 => ⟨fun _ => ?_, fun z => absurd nI_0 z⟩)
      · have go := pp_go k 3 (d + 1) (nx T n t) cs t2 cs2 x.1 e2
        have f2 := TkOK_f p2.1
        have c2 := go.2.2.2.1
        rw [e2, bnd_r] at K1 K0
        refine PC_pass p2 (i := 14) (by omega) (by omega) (by decide) (by omega) (fun y g3 p3 => ⟨Or.inr (by decide), ?_⟩) (fun y g3 f3 => ⟨Or.inl (by decide), ?_⟩)
        · rw [i10]
          refine K1 _ _ g3 ?_ p3
          unfold eatP
          rw [if_pos (show tkK t2 = 36 from y)]
        · rw [i00]
          refine K0 _ g3 ?_ f3
          unfold eatP
          rw [if_neg (show tkK t2 ≠ 36 from y)]
      · rw [e2] at K0
        exact K0 e g2 rfl f2
    · rw [if_pos d6] at K0
      exact K0 _ g1 rfl f1
  · rw [if_neg q]
    refine ⟨fun _ => ⟨S_129 hl, PC_isAt p (i := 15) (by omega) (by omega) ?_⟩, fun z => absurd nI_0 z⟩
    rw [show kdS 15 = 8 from rfl]
    by_cases q2 : tkK t = 8
    · have l := f.2.2.2.2.2 (by omega)
      have x := nx_ok p.1 (show tkK t ≠ 24 by omega)
      rw [if_neg (by omega), if_neg (by rw [q2]; exact wd8 m), if_neg q, if_pos q2] at K1 K0
      rw [if_pos q2]
      refine ⟨fun z => absurd z (by decide), fun _ => ⟨S_129 hl, PC_goes p hd (by omega) c900 (fun d6 g1 p1 => ⟨fun z => absurd z (by decide), fun _ => ⟨S_129 p1.2.1.1, ?_⟩⟩) (fun d6 g1 f1 => ⟨fun _ => ?_, fun z => absurd nI_0 z⟩)⟩⟩
      · rw [if_neg d6] at K1 K0
        rw [nI_add]
        refine i10' (d + 1) (D - 1) (nx T n t) cs g1 _ (by omega) (by omega) (by omega) (by omega) p1 (fun t2 cs2 g2 e2 p2 => ⟨Or.inr (by decide), ?_⟩) (fun e g2 e2 f2 => ⟨Or.inl (by decide), ?_⟩)
        · rw [i10]; exact K1 t2 cs2 g2 e2 p2
        · rw [i00]; exact K0 e g2 e2 f2
      · rw [if_pos d6] at K0
        exact K0 _ g1 rfl f1
    · rw [if_neg q2]
      refine ⟨fun _ => ⟨S_129 hl, ?_⟩, fun z => absurd nI_0 z⟩
      have r9 : hI g 129 9 = if tkK t = 23 then nI (tkV t) else -1 := p.2.1.2.2.2.2.2.1
      have put : ∀ x, tkK t ≠ 24 → tkK t ≠ 25 → ccl x < 2000 → (∀ g2, PC hb g2 T n m (nx T n t) (cpu x cs) → Q (nI 1) g2) → wX5_readAtom_93 Q (PA MX5_readSum (D - 1)) (PA MX5_readChoice (D - 1)) 129 (nI (ccl x)) g := fun x n4 n5 lx kq => by
        have l := f.2.2.2.2.2 n4
        refine ⟨fun _ => ⟨S_129 hl, 131, R_129_4 hl, S_131 hl, PC_put p (by omega) (fun g1 p1 => ⟨S_129 p1.2.1.1, PC_adv p1 n5 kq⟩)⟩, fun z => absurd (nI_pos' (by omega)) z⟩
      by_cases q3 : tkK t = 23
      · rw [if_pos q3] at K1 K0 r9
        rw [r9]
        refine ⟨fun z => absurd z (nI_nn (by omega)), fun _ => ?_⟩
        have ev : tkV t = ccl (tkV t) := by unfold ccl; rw [if_pos (by omega)]
        have := put (tkV t) (by omega) (by omega) (by rw [← ev]; omega) (fun g2 p2 => K1 _ _ g2 rfl p2)
        rw [← ev] at this
        exact this
      · rw [if_neg q3] at K1 K0 r9
        rw [r9]
        refine ⟨fun _ => PC_word p hm ?_, fun z => absurd (by decide) z⟩
        by_cases w : wdC m (tkK t) = 9999
        · rw [if_neg (fun z => z w), if_neg q, if_neg q2] at K0
          rw [if_pos w]
          exact ⟨fun z => absurd z (by decide), fun _ => ⟨S_129 hl, PC_ref p (by omega) c900 (fun g2 f2 => ⟨Or.inl nI_0, K0 _ g2 rfl f2⟩)⟩⟩
        · rw [if_pos w] at K1
          rw [if_neg w]
          have n24 : tkK t ≠ 24 := fun z => by rw [z] at w; exact w (by unfold wdC; simp)
          have n25 : tkK t ≠ 25 := fun z => by rw [z] at w; exact w (by unfold wdC; simp)
          exact put _ n24 n25 (by have := ccl_small (wdC_lt w); omega) (fun g2 p2 => K1 _ _ g2 rfl p2)
theorem c_choice (i8 : CLs hb T n m MX5_readTruth k 8) (i3 : CLs hb T n m MX5_readSum k 3) : CLs hb T n m MX5_readChoice (k + 1) 10 := by
  intro d D t cs g Q hd hk hD hc p K1 K0
  have hl := p.2.1.1
  have f := TkOK_f p.1
  have hn := p.2.1.2.2.1.1
  have ed8 : dpX 8 = 12 := rfl
  have ed3 : dpX 3 = 9 := rfl
  have ed10 : dpX 10 = 13 := rfl
  have er8 : rkX 8 = 6 := rfl
  have er3 : rkX 3 = 3 := rfl
  have er10 : rkX 10 = 7 := rfl
  have e0 : pp T n m (k + 1) 10 d t cs = sChoice T n (pp T n m k) d t cs := rfl
  rw [e0] at K1 K0
  unfold sChoice at K1 K0
  have eat1 : ∀ {i : Nat} {t : TK} {cs : CD} {F : TK → CD → PR}, tkK t = i → eatP T n i t cs F = F (nx T n t) cs := fun h => by unfold eatP; rw [if_pos h]
  have eat0 : ∀ {i : Nat} {t : TK} {cs : CD} {F : TK → CD → PR}, tkK t ≠ i → eatP T n i t cs F = .inl (flt t 2) := fun h => by unfold eatP; rw [if_neg h]
  refine gX5_readChoice (PX5_readTruth := PA MX5_readTruth (D - 1)) (PX5_readSum := PA MX5_readSum (D - 1)) (d2 := D - 1) (by omega) (by omega) (fun _ _ _ _ q => q) (fun _ _ _ _ q => q) 129 (nI d) g Q ⟨S_129 hl, ?_⟩
  refine i8 d (D - 1) t cs g _ hd (by omega) (by omega) hc p (fun t1 c1 g1 e1 p1 => ⟨fun z => absurd z (by decide), fun _ => ⟨S_129 p1.2.1.1, ?_⟩⟩) (fun e g1 e1 f1 => ⟨fun _ => by rw [e1] at K0; exact K0 e g1 rfl f1, fun z => absurd nI_0 z⟩)
  have go1 := pp_go k 8 d t cs t1 c1 p.1 e1
  have v1 := go1.2.2.2.1
  have w1 := go1.2.1
  have u1 := TkOK_f p1.1
  have cc8 : cX0 8 = 1 := rfl
  have cc3 : cX0 3 = 1 := rfl
  rw [e1, bnd_r] at K1 K0
  refine PC_pass p1 (i := 16) (by omega) (by omega) (by decide) (by omega) (fun y2 g2 p2 => ⟨fun z => absurd z (by decide), fun _ => ⟨S_129 p2.2.1.1, ?_⟩⟩) (fun y2 g2 f2 => ⟨fun _ => K0 _ g2 (eat0 y2) f2, fun z => absurd nI_0 z⟩)
  have y2 : tkK t1 = 9 := y2
  have x1 := nx_ok p1.1 (show tkK t1 ≠ 24 by omega)
  have K1 : ∀ t2 cs2 g2, bndP (pp T n m k 3 d (nx T n t1) c1) (fun t cs => eatP T n 10 t cs (fun t cs => bndP (pp T n m k 3 d t cs) (fun t cs => eatP T n 11 t cs (fun t cs => .inr (t, cpu 3009 cs))))) = .inr (t2, cs2) → PC hb g2 T n m t2 cs2 → Q (nI 1) g2 := fun t2 cs2 g2 h => K1 t2 cs2 g2 ((eat1 y2).trans h)
  have K0 : ∀ e g2, bndP (pp T n m k 3 d (nx T n t1) c1) (fun t cs => eatP T n 10 t cs (fun t cs => bndP (pp T n m k 3 d t cs) (fun t cs => eatP T n 11 t cs (fun t cs => .inr (t, cpu 3009 cs))))) = .inl e → PF hb g2 e → Q (nI 0) g2 := fun e g2 h => K0 e g2 ((eat1 y2).trans h)
  refine i3 d (D - 1) (nx T n t1) c1 g2 _ hd (by omega) (by omega) (by omega) p2 (fun t3 c3 g3 e3 p3 => ⟨fun z => absurd z (by decide), fun _ => ⟨S_129 p3.2.1.1, ?_⟩⟩) (fun e g3 e3 f3 => ⟨fun _ => by rw [e3] at K0; exact K0 e g3 rfl f3, fun z => absurd nI_0 z⟩)
  have go3 := pp_go k 3 d (nx T n t1) c1 t3 c3 x1.1 e3
  have v3 := go3.2.2.2.1
  have w3 := go3.2.1
  have u3 := TkOK_f p3.1
  rw [e3, bnd_r] at K1 K0
  refine PC_pass p3 (i := 17) (by omega) (by omega) (by decide) (by omega) (fun y4 g4 p4 => ⟨fun z => absurd z (by decide), fun _ => ⟨S_129 p4.2.1.1, ?_⟩⟩) (fun y4 g4 f4 => ⟨fun _ => K0 _ g4 (eat0 y4) f4, fun z => absurd nI_0 z⟩)
  have y4 : tkK t3 = 10 := y4
  have x3 := nx_ok p3.1 (show tkK t3 ≠ 24 by omega)
  have K1 : ∀ t2 cs2 g2, bndP (pp T n m k 3 d (nx T n t3) c3) (fun t cs => eatP T n 11 t cs (fun t cs => .inr (t, cpu 3009 cs))) = .inr (t2, cs2) → PC hb g2 T n m t2 cs2 → Q (nI 1) g2 := fun t2 cs2 g2 h => K1 t2 cs2 g2 ((eat1 y4).trans h)
  have K0 : ∀ e g2, bndP (pp T n m k 3 d (nx T n t3) c3) (fun t cs => eatP T n 11 t cs (fun t cs => .inr (t, cpu 3009 cs))) = .inl e → PF hb g2 e → Q (nI 0) g2 := fun e g2 h => K0 e g2 ((eat1 y4).trans h)
  refine i3 d (D - 1) (nx T n t3) c3 g4 _ hd (by omega) (by omega) (by omega) p4 (fun t5 c5 g5 e5 p5 => ⟨fun z => absurd z (by decide), fun _ => ⟨S_129 p5.2.1.1, ?_⟩⟩) (fun e g5 e5 f5 => ⟨fun _ => by rw [e5] at K0; exact K0 e g5 rfl f5, fun z => absurd nI_0 z⟩)
  have go5 := pp_go k 3 d (nx T n t3) c3 t5 c5 x3.1 e5
  have v5 := go5.2.2.2.1
  have w5 := go5.2.1
  have u5 := TkOK_f p5.1
  rw [e5, bnd_r] at K1 K0
  refine PC_pass p5 (i := 18) (by omega) (by omega) (by decide) (by omega) (fun y6 g6 p6 => ⟨fun _ => ⟨S_129 p6.2.1.1, 131, R_129_4 p6.2.1.1, S_131 p6.2.1.1, ?_⟩, fun z => absurd z (by decide)⟩) (fun y6 g6 f6 => ⟨fun z => absurd nI_0 z, fun _ => K0 _ g6 (eat0 y6) f6⟩)
  have y6 : tkK t5 = 11 := y6
  rw [show (nI 1014) = nI (ccl 3009) from by decide]
  exact PC_put p6 (by omega) (fun g7 p7 => K1 _ _ g7 (eat1 y6) p7)
theorem c_unit (i8 : CLs hb T n m MX5_readTruth k 8) (i5 : CLs hb T n m MX5_readUnit k 5) (i3 : CLs hb T n m MX5_readSum k 3) : CLs hb T n m MX5_readUnit (k + 1) 5 := by
  intro d D t cs g Q hd hk hD hc p K1 K0
  have hl := p.2.1.1
  have f := TkOK_f p.1
  have hn := p.2.1.2.2.1.1
  have ed8 : dpX 8 = 12 := rfl
  have ed3 : dpX 3 = 9 := rfl
  have ed5 : dpX 5 = 10 := rfl
  have er8 : rkX 8 = 6 := rfl
  have er3 : rkX 3 = 3 := rfl
  have er5 : rkX 5 = 4 := rfl
  have cc3 : cX0 3 = 1 := rfl
  have c900 : cs.1 ≤ 900 := by omega
  have e0 : pp T n m (k + 1) 5 d t cs = sUnit T n (pp T n m k) d t cs := rfl
  rw [e0] at K1 K0
  unfold sUnit at K1 K0
  refine gX5_readUnit (PX5_readTruth := PA MX5_readTruth (D - 1)) (PX5_readUnit := PA MX5_readUnit (D - 1)) (PX5_readSum := PA MX5_readSum (D - 1)) (d2 := D - 1) (by omega) (by omega) (fun _ _ _ _ q => q) (fun _ _ _ _ q => q) (fun _ _ _ _ q => q) 129 (nI d) g Q ⟨S_129 hl, PC_isAt p (i := 10) (by omega) (by omega) ?_⟩
  rw [show kdS 10 = 18 from rfl]
  by_cases q : tkK t = 18
  · have l := f.2.2.2.2.2 (by omega)
    have x := nx_ok p.1 (show tkK t ≠ 24 by omega)
    rw [if_pos q] at K1 K0 ⊢
    refine ⟨fun z => absurd z (by decide), fun _ => ⟨S_129 hl, PC_goes p hd (by omega) c900 (fun d6 g1 p1 => ⟨fun z => absurd z (by decide), fun _ => ⟨S_129 p1.2.1.1, ?_⟩⟩) (fun d6 g1 f1 => ⟨fun _ => ?_, fun z => absurd nI_0 z⟩)⟩⟩
    · rw [if_neg d6] at K1 K0
      rw [nI_add]
      refine i5 (d + 1) (D - 1) (nx T n t) cs g1 _ (by omega) (by omega) (by omega) (by omega) p1 (fun t2 cs2 g2 e2 p2 => ⟨fun _ => ⟨S_129 p2.2.1.1, 131, R_129_4 p2.2.1.1, S_131 p2.2.1.1, ?_⟩, fun z => absurd z (by decide)⟩) (fun e g2 e2 f2 => ⟨fun z => absurd nI_0 z, fun _ => ?_⟩)
      · have go := pp_go k 5 (d + 1) (nx T n t) cs t2 cs2 x.1 e2
        have f2 := TkOK_f p2.1
        have c2 := go.2.2.2.1
        rw [e2] at K1
        rw [show (nI 1013) = nI (ccl 3006) from by decide]
        exact PC_put p2 (by omega) (fun g3 p3 => K1 _ _ g3 rfl p3)
      · rw [e2] at K0
        exact K0 e g2 rfl f2
    · rw [if_pos d6] at K0
      exact K0 _ g1 rfl f1
  · rw [if_neg q] at K1 K0 ⊢
    refine ⟨fun _ => ⟨S_129 hl, PC_isAt p (i := 11) (by omega) (by omega) ?_⟩, fun z => absurd nI_0 z⟩
    rw [show kdS 11 = 37 from rfl]
    by_cases q2 : tkK t = 37
    · have l := f.2.2.2.2.2 (by omega)
      have x := nx_ok p.1 (show tkK t ≠ 24 by omega)
      rw [if_pos q2] at K1 K0 ⊢
      refine ⟨fun z => absurd z (by decide), fun _ => ⟨S_129 hl, PC_goes p hd (by omega) c900 (fun d6 g1 p1 => ⟨fun z => absurd z (by decide), fun _ => ⟨S_129 p1.2.1.1, ?_⟩⟩) (fun d6 g1 f1 => ⟨fun _ => ?_, fun z => absurd nI_0 z⟩)⟩⟩
      · rw [if_neg d6] at K1 K0
        rw [nI_add]
        refine i8 (d + 1) (D - 1) (nx T n t) cs g1 _ (by omega) (by omega) (by omega) (by omega) p1 (fun t2 cs2 g2 e2 p2 => ⟨fun z => absurd z (by decide), fun _ => ⟨S_129 p2.2.1.1, ?_⟩⟩) (fun e g2 e2 f2 => ⟨fun _ => ?_, fun z => absurd nI_0 z⟩)
        · have go := pp_go k 8 (d + 1) (nx T n t) cs t2 cs2 x.1 e2
          have f2 := TkOK_f p2.1
          have c2 := go.2.2.2.1
          rw [e2, bnd_r] at K1 K0
          refine PC_pass p2 (i := 12) (by omega) (by omega) (by decide) (by omega) (fun y g3 p3 => ⟨Or.inr (by decide), ?_⟩) (fun y g3 f3 => ⟨Or.inl (by decide), ?_⟩)
          · rw [i10]
            refine K1 _ _ g3 ?_ p3
            unfold eatP
            rw [if_pos (show tkK t2 = 38 from y)]
          · rw [i00]
            refine K0 _ g3 ?_ f3
            unfold eatP
            rw [if_neg (show tkK t2 ≠ 38 from y)]
        · rw [e2] at K0
          exact K0 e g2 rfl f2
      · rw [if_pos d6] at K0
        exact K0 _ g1 rfl f1
    · rw [if_neg q2] at K1 K0 ⊢
      refine ⟨fun _ => ⟨S_129 hl, ?_⟩, fun z => absurd nI_0 z⟩
      refine i3 d (D - 1) t cs g _ hd (by omega) (by omega) hc p (fun t2 c2 g2 e2 p2 => ⟨fun _ => ⟨S_129 p2.2.1.1, ?_⟩, fun z => absurd z (by decide)⟩) (fun e g2 e2 f2 => ⟨fun z => absurd nI_0 z, fun _ => by rw [e2] at K0; exact K0 e g2 rfl f2⟩)
      have go2 := pp_go k 3 d t cs t2 c2 p.1 e2
      have v2 := go2.2.2.2.1
      have w2 := go2.2.1
      have u2 := TkOK_f p2.1
      have hl2 := p2.2.1.1
      rw [e2, bnd_r] at K1 K0
      have sign : ∀ j, j < 3 → tkK t2 = 39 + j → wX5_readUnit_139 Q (PA MX5_readTruth (D - 1)) (PA MX5_readUnit (D - 1)) (PA MX5_readSum (D - 1)) 129 (nI d) (nI (ccl (3003 + j))) g2 := fun j hj y => by
        have x2 := nx_ok p2.1 (show tkK t2 ≠ 24 by omega)
        have e5 : 3003 + (tkK t2 - 39) = 3003 + j := by omega
        have K1 : ∀ t3 cs3 g3, bndP (pp T n m k 3 d (nx T n t2) c2) (fun u cs => .inr (u, cpu (3003 + j) cs)) = .inr (t3, cs3) → PC hb g3 T n m t3 cs3 → Q (nI 1) g3 := fun t3 cs3 g3 h => K1 t3 cs3 g3 (by
          show (if tkK t2 = 39 ∨ tkK t2 = 40 ∨ tkK t2 = 41 then _ else _) = _
          rw [if_pos (by omega), e5]
          exact h)
        have K0 : ∀ e g3, bndP (pp T n m k 3 d (nx T n t2) c2) (fun u cs => .inr (u, cpu (3003 + j) cs)) = .inl e → PF hb g3 e → Q (nI 0) g3 := fun e g3 h => K0 e g3 (by
          show (if tkK t2 = 39 ∨ tkK t2 = 40 ∨ tkK t2 = 41 then _ else _) = _
          rw [if_pos (by omega), e5]
          exact h)
        have pos : 0 ≤ nI (ccl (3003 + j)) := by
          rcases (show j = 0 ∨ j = 1 ∨ j = 2 from by omega) with e | e | e <;> subst e <;> decide
        refine ⟨fun _ => ⟨S_129 hl2, PC_adv p2 (by omega) (fun g3 p3 => ⟨S_129 p3.2.1.1, ?_⟩)⟩, fun z => absurd pos z⟩
        refine i3 d (D - 1) (nx T n t2) c2 g3 _ hd (by omega) (by omega) (by omega) p3 (fun t4 c4 g4 e4 p4 => ?_) (fun e g4 e4 f4 => ?_)
        · have go4 := pp_go k 3 d (nx T n t2) c2 t4 c4 x2.1 e4
          have v4 := go4.2.2.2.1
          have u4 := TkOK_f p4.1
          rw [e4] at K1
          refine ⟨S_129 p4.2.1.1, 131, R_129_4 p4.2.1.1, S_131 p4.2.1.1, PC_put p4 (by omega) (fun g5 p5 => ⟨Or.inr (by decide), K1 _ _ g5 rfl p5⟩)⟩
        · rw [e4] at K0
          exact ⟨S_129 f4.1, 131, R_129_4 f4.1, S_131 f4.1, PF_put f4 (fun g5 f5 => ⟨Or.inl nI_0, K0 e g5 rfl f5⟩)⟩
      refine PC_isAt p2 (i := 26) (by omega) (by omega) ?_
      rw [show kdS 26 = 39 from rfl]
      by_cases y1 : tkK t2 = 39
      · rw [if_pos y1]
        exact ⟨fun z => absurd z (by decide), fun _ => sign 0 (by omega) y1⟩
      · rw [if_neg y1]
        refine ⟨fun _ => ⟨S_129 hl2, PC_isAt p2 (i := 27) (by omega) (by omega) ?_⟩, fun z => absurd nI_0 z⟩
        rw [show kdS 27 = 40 from rfl]
        by_cases y2 : tkK t2 = 40
        · rw [if_pos y2]
          exact ⟨fun z => absurd z (by decide), fun _ => sign 1 (by omega) y2⟩
        · rw [if_neg y2]
          refine ⟨fun _ => ⟨S_129 hl2, PC_isAt p2 (i := 28) (by omega) (by omega) ?_⟩, fun z => absurd nI_0 z⟩
          rw [show kdS 28 = 41 from rfl]
          by_cases y3 : tkK t2 = 41
          · rw [if_pos y3]
            exact sign 2 (by omega) y3
          · rw [if_neg y3]
            refine ⟨fun z => absurd z (by decide), fun _ => ⟨S_129 hl2, PC_ref p2 (by omega) (by omega) (fun g3 f3 => ⟨Or.inl nI_0, K0 _ g3 ?_ f3⟩)⟩⟩
            show (if tkK t2 = 39 ∨ tkK t2 = 40 ∨ tkK t2 = 41 then _ else _) = _
            rw [if_neg (by omega)]
theorem c_all (hm : m < 2) : ∀ k, CLs hb T n m MX5_readAtom k 0 ∧ CLs hb T n m MX5_readTerm k 1 ∧ LPs hb T n m WTerm k 2 1 ∧ CLs hb T n m MX5_readSum k 3 ∧ LPs hb T n m WSum k 4 3 ∧ CLs hb T n m MX5_readUnit k 5 ∧ CLs hb T n m MX5_readBoth k 6 ∧ LPs hb T n m WBoth k 7 6 ∧ CLs hb T n m MX5_readTruth k 8 ∧ LPs hb T n m WTruth k 9 8 ∧ CLs hb T n m MX5_readChoice k 10
  | 0 => by
    have z : ∀ M X, 1 ≤ rkX X → CLs hb T n m M 0 X := fun M X h => fun _ _ _ _ _ _ _ hk => by omega
    have l : ∀ W X Y, LPs hb T n m W 0 X Y := fun W X Y => fun _ _ _ _ _ _ _ _ hk => by omega
    exact ⟨z _ _ (by decide), z _ _ (by decide), l _ _ _, z _ _ (by decide), l _ _ _, z _ _ (by decide), z _ _ (by decide), l _ _ _, z _ _ (by decide), l _ _ _, z _ _ (by decide)⟩
  | k + 1 => by
    obtain ⟨a0, a1, a2, a3, a4, a5, a6, a7, a8, a9, a10⟩ := c_all hm k
    exact ⟨c_atom hm a3 a10, c_term a0 a2, c_termL a0 a2, c_sum a1 a4, c_sumL a1 a4, c_unit a8 a5 a3, c_both a5 a7, c_bothL a5 a7, c_truth a6 a9, c_truthL a6 a9, c_choice a8 a3⟩
end CP3
