/-! Part an: the reference's parser: atoms, units; all of it. -/
section MP3
variable {hb : MH} {T : Nat → Nat} {n m k : Nat}
theorem m_atom (hm : m < 2) (i3 : MLs hb T n m MX10_readSum k 3) (ii : MIf hb T n m k) : MLs hb T n m MX10_readAtom (k + 1) 0 := by
  intro d D t cs g Q hd hk hD hc p K1 K0
  have hl := RmT_LX p.2.1
  have f := TkOK_f p.1
  have hn := RmT_n p.2.1
  have ed0 : dpX 0 = 7 := rfl
  have ed3 : dpX 3 = 9 := rfl
  have er0 : rkX 0 = 1 := rfl
  have er3 : rkX 3 = 3 := rfl
  have e0 : pp T n m (k + 1) 0 d t cs = sAtom T n m (pp T n m k) d t cs := rfl
  have k9 : hI g 223 9 = nI (tkK t) := by
    obtain ⟨_, ⟨nu, wa, r, _⟩, _⟩ := p
    exact r.2.2.2.2.2.1
  have k10 : tkK t = 23 → hI g 223 10 = nI (tkV t) := fun z => by
    obtain ⟨_, ⟨nu, wa, r, q⟩, _⟩ := p
    rw [← q z]
    exact r.2.2.2.2.2.2.1
  rw [e0] at K1 K0
  unfold sAtom at K1 K0
  refine gX10_readAtom (PX10_readIf := PV MX10_readIf (D - 1)) (PX10_readSum := PV MX10_readSum (D - 1)) (d2 := D - 1) (by omega) (by omega) (fun _ _ _ _ q => q) (fun _ _ _ _ q => q) 223 (nI d) g Q ⟨S_223 hl, PM_is p (by omega) ?_⟩
  by_cases q3 : tkK t = 23
  · have l := f.2.2.2.2.2 (by omega)
    rw [if_pos q3] at K1 ⊢
    refine ⟨fun z => absurd z (by decide), fun _ => ⟨S_223 hl, ?_⟩⟩
    rw [k10 q3]
    exact PM_codes p (by omega) (fun g1 p1 => ⟨S_223 (RmT_LX p1.2.1), PM_next p1 (fun g2 p2 => K1 _ _ g2 rfl p2)⟩)
  · rw [if_neg q3] at K1 K0 ⊢
    refine ⟨fun _ => ⟨S_223 hl, fun z => absurd (PM_11 p) z, fun _ => ?_⟩, fun z => absurd nI_0 z⟩
    rw [k9]
    refine PM_word hl p.2.2.2.1 hm (by omega) ?_
    by_cases w : wdC m (tkK t) = 9999
    · rw [if_neg (fun z => z w)] at K1 K0
      rw [if_pos w]
      refine ⟨fun _ => ⟨S_223 hl, PM_is p (by omega) ?_⟩, fun z => absurd rfl z⟩
      by_cases q : tkK t = 35
      · have l := f.2.2.2.2.2 (by omega)
        have x := nx_ok p.1 (show tkK t ≠ 24 by omega)
        rw [if_pos q] at K1 K0 ⊢
        refine ⟨fun z => absurd z (by decide), fun _ => ⟨S_223 hl, PM_goes p hd (fun d6 g1 p1 => ⟨fun _ => ⟨S_223 (RmT_LX p1.2.1), ?_⟩, fun z => absurd z (by decide)⟩) (fun d6 g1 f1 => ⟨fun z => absurd nI_0 z, fun _ => ?_⟩)⟩⟩
        · rw [if_neg d6] at K1 K0
          rw [nI_add]
          refine i3 (d + 1) (D - 1) (nx T n t) cs g1 _ (by omega) (by omega) (by omega) (by omega) p1 (fun t2 cs2 g2 e2 p2 => ⟨S_223 (RmT_LX p2.2.1), ?_⟩) (fun e g2 e2 f2 => ⟨S_223 f2.1, x_eats f2.1 (MF_11 f2) ⟨fun z => absurd nI_0 z, fun _ => ⟨S_223 f2.1, m_fails1 f2.1 (MF_11 f2) ?_⟩⟩⟩)
          · rw [e2, bnd_r] at K1 K0
            refine PM_eats p2 (by omega) (fun y g3 p3 => ⟨fun _ => ?_, fun z => absurd z (by decide)⟩) (fun y => ⟨fun z => absurd nI_0 z, fun _ => ⟨S_223 (RmT_LX p2.2.1), PM_fails p2 (by omega) (fun g3 f3 => ?_)⟩⟩)
            · refine K1 _ _ g3 ?_ p3
              unfold eatP
              rw [if_pos y]
            · refine K0 _ g3 ?_ f3
              unfold eatP
              rw [if_neg y]
          · rw [e2] at K0
            exact K0 e g2 rfl f2
        · rw [if_pos d6] at K0
          exact K0 _ g1 rfl f1
      · rw [if_neg q] at K1 K0 ⊢
        refine ⟨fun _ => ⟨S_223 hl, PM_is p (by omega) ?_⟩, fun z => absurd nI_0 z⟩
        by_cases q2 : tkK t = 8
        · have l := f.2.2.2.2.2 (by omega)
          have x := nx_ok p.1 (show tkK t ≠ 24 by omega)
          rw [if_pos q2] at K1 K0 ⊢
          refine ⟨fun z => absurd z (by decide), fun _ => ⟨S_223 hl, ?_⟩⟩
          refine ii d (D - 1) t cs g _ hd q2 (by omega) (by omega) (by omega) hc p (fun t2 cs2 g2 d6 e2 p2 => K1 t2 cs2 g2 (by rw [if_neg d6]; exact e2) p2) (fun e g2 d6 e2 f2 => K0 e g2 (by rw [if_neg d6]; exact e2) f2) (fun g2 d6 f2 => K0 _ g2 (by rw [if_pos d6]) f2)
        · rw [if_neg q2] at K0 ⊢
          exact ⟨fun _ => ⟨S_223 hl, PM_fails p (by omega) (fun g2 f2 => K0 _ g2 rfl f2)⟩, fun z => absurd nI_0 z⟩
    · rw [if_pos w] at K1
      rw [if_neg w]
      have wl := wdC_lt w
      have n24 : tkK t ≠ 24 := fun z => by rw [z] at w; exact w (by unfold wdC; simp)
      have l := f.2.2.2.2.2 n24
      refine ⟨fun z => absurd z (nI_nm (by omega)), fun _ => ⟨S_223 hl, ?_⟩⟩
      rw [k9]
      refine PM_word hl p.2.2.2.1 hm (by omega) ⟨S_223 hl, ?_⟩
      have w1000 : 1000 ≤ wdC m (tkK t) := by
        clear K0 K1 wl
        unfold wdC at w ⊢
        by_cases b1 : tkK t = 2
        · rw [if_pos b1]; omega
        · rw [if_neg b1] at w ⊢
          by_cases b2 : tkK t = 4
          · rw [if_pos b2]; omega
          · rw [if_neg b2] at w ⊢
            by_cases b3 : tkK t = 5
            · rw [if_pos b3]; omega
            · rw [if_neg b3] at w ⊢
              by_cases mm : m = 0
              · simp only [mm, if_true] at w ⊢
                by_cases a4 : tkK t = 12
                · rw [if_pos a4]; omega
                · rw [if_neg a4] at w ⊢
                  by_cases a5 : tkK t = 13
                  · rw [if_pos a5]; omega
                  · rw [if_neg a5] at w ⊢
                    by_cases a6 : tkK t = 14
                    · rw [if_pos a6] at w; omega
                    · rw [if_neg a6] at w ⊢
                      by_cases a7 : tkK t = 15
                      · rw [if_pos a7] at w; omega
                      · rw [if_neg a7] at w; omega
              · simp only [mm, if_false] at w ⊢
                by_cases a4 : tkK t = 12
                · rw [if_pos a4] at w; omega
                · rw [if_neg a4] at w ⊢
                  by_cases a5 : tkK t = 13
                  · rw [if_pos a5] at w; omega
                  · rw [if_neg a5] at w ⊢
                    by_cases a6 : tkK t = 14
                    · rw [if_pos a6]; omega
                    · rw [if_neg a6] at w ⊢
                      by_cases a7 : tkK t = 15
                      · rw [if_pos a7]; omega
                      · rw [if_neg a7] at w; omega
      rw [if_neg w, nI_add, show 1000 + (wdC m (tkK t) - 1000) = wdC m (tkK t) from by omega]
      exact PM_codes p (by omega) (fun g1 p1 => ⟨S_223 (RmT_LX p1.2.1), PM_next p1 (fun g2 p2 => K1 _ _ g2 rfl p2)⟩)
theorem m_unit (i8 : MLs hb T n m MX10_readTruth k 8) (i5 : MLs hb T n m MX10_readUnit k 5) (i3 : MLs hb T n m MX10_readSum k 3) : MLs hb T n m MX10_readUnit (k + 1) 5 := by
  intro d D t cs g Q hd hk hD hc p K1 K0
  have hl := RmT_LX p.2.1
  have f := TkOK_f p.1
  have hn := RmT_n p.2.1
  have ed8 : dpX 8 = 12 := rfl
  have ed3 : dpX 3 = 9 := rfl
  have ed5 : dpX 5 = 10 := rfl
  have er8 : rkX 8 = 6 := rfl
  have er3 : rkX 3 = 3 := rfl
  have er5 : rkX 5 = 4 := rfl
  have cc3 : cX0 3 = 1 := rfl
  have e0 : pp T n m (k + 1) 5 d t cs = sUnit T n (pp T n m k) d t cs := rfl
  rw [e0] at K1 K0
  unfold sUnit at K1 K0
  refine gX10_readUnit (PX10_readSum := PV MX10_readSum (D - 1)) (PX10_readUnit := PV MX10_readUnit (D - 1)) (PX10_readTruth := PV MX10_readTruth (D - 1)) (d2 := D - 1) (by omega) (by omega) (fun _ _ _ _ q => q) (fun _ _ _ _ q => q) (fun _ _ _ _ q => q) 223 (nI d) g Q ⟨S_223 hl, PM_is p (by omega) ?_⟩
  by_cases q : tkK t = 18
  · have l := f.2.2.2.2.2 (by omega)
    have x := nx_ok p.1 (show tkK t ≠ 24 by omega)
    rw [if_pos q] at K1 K0 ⊢
    refine ⟨fun z => absurd z (by decide), fun _ => ⟨S_223 hl, PM_goes p hd (fun d6 g1 p1 => ⟨fun _ => ⟨S_223 (RmT_LX p1.2.1), ?_⟩, fun z => absurd z (by decide)⟩) (fun d6 g1 f1 => ⟨fun z => absurd nI_0 z, fun _ => ?_⟩)⟩⟩
    · rw [if_neg d6] at K1 K0
      rw [nI_add]
      refine i5 (d + 1) (D - 1) (nx T n t) cs g1 _ (by omega) (by omega) (by omega) (by omega) p1 (fun t2 cs2 g2 e2 p2 => ⟨S_223 (RmT_LX p2.2.1), ?_⟩) (fun e g2 e2 f2 => ⟨S_223 f2.1, x_codes f2.1 (MF_11 f2) ?_⟩)
      · have go := pp_go k 5 (d + 1) (nx T n t) cs t2 cs2 x.1 e2
        have f2 := TkOK_f p2.1
        have c2 := go.2.2.2.1
        rw [e2, bnd_r] at K1
        exact PM_codes p2 (by omega) (fun g3 p3 => K1 _ _ g3 rfl p3)
      · rw [e2] at K0
        exact K0 e g2 rfl f2
    · rw [if_pos d6] at K0
      exact K0 _ g1 rfl f1
  · rw [if_neg q] at K1 K0 ⊢
    refine ⟨fun _ => ⟨S_223 hl, PM_is p (by omega) ?_⟩, fun z => absurd nI_0 z⟩
    by_cases q2 : tkK t = 37
    · have l := f.2.2.2.2.2 (by omega)
      have x := nx_ok p.1 (show tkK t ≠ 24 by omega)
      rw [if_pos q2] at K1 K0 ⊢
      refine ⟨fun z => absurd z (by decide), fun _ => ⟨S_223 hl, PM_goes p hd (fun d6 g1 p1 => ⟨fun _ => ⟨S_223 (RmT_LX p1.2.1), ?_⟩, fun z => absurd z (by decide)⟩) (fun d6 g1 f1 => ⟨fun z => absurd nI_0 z, fun _ => ?_⟩)⟩⟩
      · rw [if_neg d6] at K1 K0
        rw [nI_add]
        refine i8 (d + 1) (D - 1) (nx T n t) cs g1 _ (by omega) (by omega) (by omega) (by omega) p1 (fun t2 cs2 g2 e2 p2 => ⟨S_223 (RmT_LX p2.2.1), ?_⟩) (fun e g2 e2 f2 => ⟨S_223 f2.1, x_eats f2.1 (MF_11 f2) ⟨fun z => absurd nI_0 z, fun _ => ⟨S_223 f2.1, m_fails1 f2.1 (MF_11 f2) ?_⟩⟩⟩)
        · rw [e2, bnd_r] at K1 K0
          refine PM_eats p2 (by omega) (fun y g3 p3 => ⟨fun _ => ?_, fun z => absurd z (by decide)⟩) (fun y => ⟨fun z => absurd nI_0 z, fun _ => ⟨S_223 (RmT_LX p2.2.1), PM_fails p2 (by omega) (fun g3 f3 => ?_)⟩⟩)
          · refine K1 _ _ g3 ?_ p3
            unfold eatP
            rw [if_pos y]
          · refine K0 _ g3 ?_ f3
            unfold eatP
            rw [if_neg y]
        · rw [e2] at K0
          exact K0 e g2 rfl f2
      · rw [if_pos d6] at K0
        exact K0 _ g1 rfl f1
    · rw [if_neg q2] at K1 K0 ⊢
      refine ⟨fun _ => ⟨S_223 hl, ?_⟩, fun z => absurd nI_0 z⟩
      refine i3 d (D - 1) t cs g _ hd (by omega) (by omega) hc p (fun t2 c2 g2 e2 p2 => ⟨S_223 (RmT_LX p2.2.1), ?_⟩) (fun e g2 e2 f2 => ⟨S_223 f2.1, m_is1 f2.1 (MF_11 f2) ⟨fun _ => ⟨S_223 f2.1, m_is1 f2.1 (MF_11 f2) (x_unit111 (by omega) f2.1 (MF_11 f2) (by rw [e2] at K0; exact K0 e g2 rfl f2))⟩, fun z => absurd nI_0 z⟩⟩)
      have go2 := pp_go k 3 d t cs t2 c2 p.1 e2
      have v2 := go2.2.2.2.1
      have w2 := go2.2.1
      have u2 := TkOK_f p2.1
      have hl2 := RmT_LX p2.2.1
      rw [e2, bnd_r] at K1 K0
      have sign : ∀ j, j < 3 → tkK t2 = 39 + j → wX10_readUnit_139 Q (PV MX10_readSum (D - 1)) (PV MX10_readUnit (D - 1)) (PV MX10_readTruth (D - 1)) 223 (nI d) (nI (3003 + j)) g2 := fun j hj y => by
        have x2 := nx_ok p2.1 (show tkK t2 ≠ 24 by omega)
        have e5 : 3003 + (tkK t2 - 39) = 3003 + j := by omega
        rw [if_pos (show tkK t2 = 39 ∨ tkK t2 = 40 ∨ tkK t2 = 41 by omega), e5] at K1 K0
        refine ⟨S_223 hl2, PM_next p2 (fun g3 p3 => ⟨S_223 (RmT_LX p3.2.1), ?_⟩)⟩
        refine i3 d (D - 1) (nx T n t2) c2 g3 _ hd (by omega) (by omega) (by omega) p3 (fun t4 c4 g4 e4 p4 => ⟨S_223 (RmT_LX p4.2.1), ?_⟩) (fun e g4 e4 f4 => ⟨S_223 f4.1, x_codes f4.1 (MF_11 f4) ?_⟩)
        · have go4 := pp_go k 3 d (nx T n t2) c2 t4 c4 x2.1 e4
          have v4 := go4.2.2.2.1
          have u4 := TkOK_f p4.1
          rw [e4, bnd_r] at K1
          exact PM_codes p4 (by omega) (fun g5 p5 => K1 _ _ g5 rfl p5)
        · rw [e4] at K0
          exact K0 e g4 rfl f4
      have u111 : ∀ s0, (∀ j, j < 3 → tkK t2 = 39 + j → s0 = nI (3003 + j)) → wX10_readUnit_111 Q (PV MX10_readSum (D - 1)) (PV MX10_readUnit (D - 1)) (PV MX10_readTruth (D - 1)) 223 (nI d) s0 g2 := fun s0 es => by
        refine ⟨S_223 hl2, PM_is p2 (by omega) ?_⟩
        by_cases y1 : tkK t2 = 39
        · rw [if_pos y1]
          refine ⟨fun _ => ?_, fun z => absurd z (by decide)⟩
          rw [es 0 (by omega) y1]
          exact sign 0 (by omega) y1
        · rw [if_neg y1]
          refine ⟨fun z => absurd nI_0 z, fun _ => ⟨S_223 hl2, PM_is p2 (by omega) ?_⟩⟩
          by_cases y2 : tkK t2 = 40
          · rw [if_pos y2]
            refine ⟨fun _ => ?_, fun z => absurd z (by decide)⟩
            rw [es 1 (by omega) y2]
            exact sign 1 (by omega) y2
          · rw [if_neg y2]
            refine ⟨fun z => absurd nI_0 z, fun _ => ⟨S_223 hl2, PM_is p2 (by omega) ?_⟩⟩
            by_cases y3 : tkK t2 = 41
            · rw [if_pos y3]
              refine ⟨fun z => absurd z (by decide), fun _ => ?_⟩
              rw [es 2 (by omega) y3]
              exact sign 2 (by omega) y3
            · rw [if_neg y3]
              refine ⟨fun _ => ⟨S_223 hl2, PM_fails p2 (by omega) (fun g3 f3 => ⟨S_223 f3.1, x_sum (by omega) f3.1 (MF_11 f3) ⟨S_223 f3.1, x_codes f3.1 (MF_11 f3) (K0 _ g3 ?_ f3)⟩⟩)⟩, fun z => absurd nI_0 z⟩
              rw [if_neg (by omega)]
      refine PM_is p2 (by omega) ?_
      by_cases y1 : tkK t2 = 39
      · rw [if_pos y1]
        exact ⟨fun z => absurd z (by decide), fun _ => u111 _ (fun j hj y => by rw [show j = 0 from by omega])⟩
      · rw [if_neg y1]
        refine ⟨fun _ => ⟨S_223 hl2, PM_is p2 (by omega) (u111 _ (fun j hj y => ?_))⟩, fun z => absurd nI_0 z⟩
        by_cases y2 : tkK t2 = 40
        · rw [if_pos y2, if_neg (by decide), show j = 1 from by omega]
        · rw [if_neg y2, if_pos nI_0, show j = 2 from by omega]
theorem m_all (hm : m < 2) : ∀ k, MLs hb T n m MX10_readAtom k 0 ∧ MLs hb T n m MX10_readTerm k 1 ∧ MLp hb T n m VTerm k 2 1 ∧ MLs hb T n m MX10_readSum k 3 ∧ MLp hb T n m VSum k 4 3 ∧ MLs hb T n m MX10_readUnit k 5 ∧ MLs hb T n m MX10_readBoth k 6 ∧ MLp hb T n m VBoth k 7 6 ∧ MLs hb T n m MX10_readTruth k 8 ∧ MLp hb T n m VTruth k 9 8 ∧ MIf hb T n m k
  | 0 => by
    have z : ∀ M X, 1 ≤ rkX X → MLs hb T n m M 0 X := fun M X h => fun _ _ _ _ _ _ _ hk => by omega
    have l : ∀ W X Y, MLp hb T n m W 0 X Y := fun W X Y => fun _ _ _ _ _ _ _ hk => by omega
    exact ⟨z _ _ (by decide), z _ _ (by decide), l _ _ _, z _ _ (by decide), l _ _ _, z _ _ (by decide), z _ _ (by decide), l _ _ _, z _ _ (by decide), l _ _ _, fun _ _ _ _ _ _ _ _ hk => by omega⟩
  | k + 1 => by
    obtain ⟨a0, a1, a2, a3, a4, a5, a6, a7, a8, a9, a10⟩ := m_all hm k
    exact ⟨m_atom hm a3 a10, m_term a0 a2, m_termL a0 a2, m_sum a1 a4, m_sumL a1 a4, m_unit a8 a5 a3, m_both a5 a7, m_bothL a5 a7, m_truth a6 a9, m_truthL a6 a9, m_if a8 a3⟩
end MP3
