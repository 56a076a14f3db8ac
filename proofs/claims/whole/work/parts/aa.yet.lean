/-! Part aa: yet, among. -/
theorem n_isAim1 {Q : Int32 → MH → Prop} {h : MH} {aim : Nat} (ha : aim ≤ 1) (hq : Q (nI 1) h) : wX9_isAim (nI aim) h Q := by
  rcases (show aim = 0 ∨ aim = 1 from by omega) with e | e <;> subst e
  · exact ⟨Or.inr (by decide), hq⟩
  · exact ⟨Or.inr (by decide), hq⟩
theorem n_isAim0 {Q : Int32 → MH → Prop} {h : MH} {x : Int32} (z : ¬ (0 ≤ x.toInt ∧ x.toInt ≤ ((1 : Nat) : Int))) (hq : Q (nI 0) h) : wX9_isAim x h Q := by
  have n0 : ¬ x = 0 := fun y => z (by rw [y]; decide)
  have n1 : ¬ x = nI 1 := fun y => z (by rw [y]; decide)
  unfold wX9_isAim
  rw [if_neg n0, if_neg n1]
  exact ⟨Or.inl nI_0, hq⟩
theorem m_isAim1 {Q : Int32 → MH → Prop} {h : MH} {aim : Nat} (ha : aim ≤ 1) (hq : Q (nI 1) h) : wX10_isAim (nI aim) h Q := by
  unfold wX10_isAim
  refine u_within (fun _ _ => ⟨Or.inr (by decide), hq⟩) (fun z => absurd ?_ z)
  rw [nI_tI (by omega), show (0 : Int64).toInt = 0 from by decide, show (1 : Int64).toInt = 1 from by decide]
  omega
theorem m_isAim0 {Q : Int32 → MH → Prop} {h : MH} {x : Int32} (z : ¬ (0 ≤ x.toInt ∧ x.toInt ≤ ((1 : Nat) : Int))) (hq : Q (nI 0) h) : wX10_isAim x h Q := by
  unfold wX10_isAim
  refine u_within (fun a b => absurd ⟨a, b⟩ z) (fun _ => ⟨Or.inl nI_0, hq⟩)
theorem JB_fr {B : Nat} {d : DV} {g g2 : MH} (ok : DOK d) (j : JB lpC B d g) (f : FrM g g2) (m : MP g2 d) : RLY (RRc (CVA lpC B)) g2 := st_close2 (CVA_keep lpC B) j.1 j.2.1 j.2.2.1 f m ok
def ST3_yet (R R2 : MH → Prop) : Prop := ∀ (y1 : Int32) (y2 : Int32) (h : MH), R h → Zh h → ∀ P : Int32 → MH → Prop, (∀ (r : Int32) (h1 : MH), hS h1 223 = (1, 10) → (∀ P2 : Int32 → MH → Prop, (∀ h2 : MH, R2 h2 → P2 r h2) → wX10_yet 223 y1 y2 h1 P2) → P r h1) → wX9_yet 1 2048 128 y1 y2 h P
theorem m_yet40 {Q : Int32 → MH → Prop} {h : MH} {v : NV} {r w : Nat} {ld : Nat → Nat} (hl : LX h) (hv : NvOK v) (hw : w < 2) (p : RgV h v r) (l : LdV h v r ld) (hq : Q (nI (sLd v r w ld (nvC v))) h) : ∀ n c, c + n = nvC v → wX10_yet_40 Q (bcN (nvMy v r) (nvC v) - bcN (nvMy v r) c + 1) 223 (nI w) (nI (sLd v r w ld c)) (nI (bcN (nvMy v r) c)) h := by
  have h4 := hv.1
  have hC := bcN_le (nvMy v r) (nvC v)
  intro n
  induction n with
  | zero =>
    intro c hn
    have hn : c = nvC v := by omega
    subst hn
    rw [Nat.sub_self]
    unfold wX10_yet_40
    rw [p.1]
    exact ⟨S_223 hl, fun _ => hq, fun y => absurd (nI_le (Nat.le_refl _) (by omega)) y⟩
  | succ n ih =>
    intro c hn
    have eb : bcN (nvMy v r) (c + 1) = bcN (nvMy v r) c + bt (nvMy v r) c := rfl
    have es : sLd v r w ld (c + 1) = sLd v r w ld c + if bt (nvMy v r) c = 1 then ld c * pz v r w c else 0 := rfl
    have g0 := ih (c + 1) (by omega)
    rcases bt01 (nvMy v r) c with b | b
    · rw [eb, es, if_neg (by omega), b] at g0
      exact g0
    · have hcc : c < nvC v := by omega
      have hlt := bcN_lt hcc b
      rw [eb, es, if_pos b, b] at g0
      rw [show bcN (nvMy v r) (nvC v) - bcN (nvMy v r) c + 1 = (bcN (nvMy v r) (nvC v) - (bcN (nvMy v r) c + 1) + 1) + 1 from by omega]
      unfold wX10_yet_40
      rw [p.1, nI_add]
      refine ⟨S_223 hl, fun y => absurd y (nI_ge hlt (by omega)), fun _ => ⟨237, R_223_28 hl, 64, S_237 hl, vp_in_nI (by omega) (by omega), m_pz hl hv hw p hcc b (fun v18 e18 => ?_)⟩⟩
      rw [nI_clamp (by omega), l c hcc b, nI_mul, nI_add] at e18
      rw [e18]
      exact g0
theorem ST3_yet_c {A : Nat} (hA : A + 1 < 2 ^ 20) : ST3_yet (RLY (RRc (CVA lpC A))) (RLY (RRc (CVA lpC (A + 1)))) := by
  intro y1 y2 h hr hz P kP
  obtain ⟨hl, t1, t2, d, ok, c, m⟩ := hr
  obtain ⟨⟨a, ca, cn⟩, cs, _, _, _, cv⟩ := id c
  have j : JB lpC A d h := ⟨hl, ⟨t1, t2⟩, c, m⟩
  have fin0 := JB_end ok (JB_le (show A ≤ A + 1 by omega) j)
  rcases nI_cases y1 1 (by omega) with ⟨aim, ha, e1⟩ | z1
  · subst e1
    rcases nI_cases y2 1 (by omega) with ⟨w, hw, e2⟩ | z2
    · subst e2
      refine n_isAim1 ha ⟨fun y => absurd y (by decide), fun _ => ⟨fun y => absurd y (nI_nn (by omega)), fun _ => ⟨fun _ => ⟨S_128 hl, 199, R_128_7 hl, a, ca, 146, R_128_2 hl, S_199 hl, by omega, by omega, ?_⟩, fun y => absurd (nI_le hw (by omega)) y⟩⟩⟩
      have wthn : ∀ {Q : Int32 → MH → Prop} {g : MH}, Q (nI 1) g → wX10_within ((nI w).toInt64) (0 : Int64) (1 : Int64) g Q := fun k => u_within (fun _ _ => k) (fun z => absurd (by rw [nI_tI (by omega), show (0 : Int64).toInt = 0 from by decide, show (1 : Int64).toInt = 1 from by decide]; omega) z)
      refine n_solve hz hA (by omega) j ok ca (fun nu g jg _ => ⟨fun y => absurd nI_0 y, fun _ => ?_⟩) (fun us g jg _ cr ch _ => ⟨fun _ => ?_, fun y => absurd y (by decide)⟩)
      · refine kP _ _ (S_223 jg.1) (fun P2 k2 => ⟨S_223 jg.1, fun g2 e2 => m_isAim1 ha ⟨fun y => absurd y (by decide), fun _ => wthn ⟨fun _ => ?_, fun y => absurd y (by decide)⟩⟩⟩)
        subst e2
        obtain ⟨hl2, m2⟩ := JB_thr jg
        exact ⟨S_223 hl2, m_laysYet (by omega) hl2 cn.1 ok.1 m2 (fun _ g3 f3 m3 => ⟨fun y => absurd nI_0 y, fun _ => k2 _ (JB_fr ok jg (FrM_trans (FrM_thrown _ _) f3) m3)⟩) (fun u => absurd u nu)⟩
      · have tail : ∀ P2 : Int32 → MH → Prop, (∀ h2, RLY (RRc (CVA lpC (A + 1))) h2 → P2 (nI (sLd (dN d) (asR (dS d)) w (dLd d aim) (nvC (dN d)))) h2) → wX10_yet 223 (nI aim) (nI w) g P2 := fun P2 k2 => by
          refine ⟨S_223 jg.1, fun g2 e2 => m_isAim1 ha ⟨fun y => absurd y (by decide), fun _ => wthn ⟨fun _ => ?_, fun y => absurd y (by decide)⟩⟩⟩
          subst e2
          obtain ⟨hl2, m2⟩ := JB_thr jg
          exact ⟨S_223 hl2, m_laysYet (by omega) hl2 cn.1 ok.1 m2 (fun nu => absurd us nu) (fun _ g3 f3 m3 l3 => ⟨fun _ => ⟨_, m_yet40 (LX_Fr f3.1 hl2) cn.1 (by omega) m3.2.2.1 l3 (k2 _ (JB_fr ok jg (FrM_trans (FrM_thrown _ _) f3) m3)) (nvC (dN d)) 0 (by omega)⟩, fun y => absurd y (by decide)⟩)⟩
        refine ⟨fun y => ⟨S_128 jg.1, 199, R_128_7 jg.1, S_199 jg.1, ?_⟩, fun y => ⟨S_128 jg.1, 199, R_128_7 jg.1, S_199 jg.1, ?_⟩⟩
        · have ew : w = 1 := by
            have : ¬ w = 0 := fun x => y (by rw [x]; exact nI_0)
            omega
          subst ew
          rw [ch.1]
          exact kP _ _ (S_223 jg.1) tail
        · have ew : w = 0 := (nI_eq0 (by omega)).mp y
          subst ew
          rw [ch.2.1]
          exact kP _ _ (S_223 jg.1) tail
    · have bad : P (-2) h := kP _ _ (S_223 hl) (fun P2 k2 => ⟨S_223 hl, fun g2 e2 => m_isAim1 ha ⟨fun y => absurd y (by decide), fun _ => u_within (fun a b => absurd ⟨a, b⟩ z2) (fun _ => ⟨fun y => absurd nI_0 y, fun _ => k2 _ (by rw [e2]; exact fin0)⟩)⟩⟩)
      refine n_isAim1 ha ⟨fun y => absurd y (by decide), fun _ => ⟨fun _ => bad, fun y => ⟨fun x => ?_, fun _ => bad⟩⟩⟩
      refine absurd ⟨?_, ?_⟩ z2
      · exact Int32.le_iff_toInt_le.mp (Int32.not_lt.mp y)
      · exact Int32.le_iff_toInt_le.mp x
  · refine n_isAim0 z1 ⟨fun _ => ?_, fun y => absurd nI_0 y⟩
    exact kP _ _ (S_223 hl) (fun P2 k2 => ⟨S_223 hl, fun g2 e2 => m_isAim0 z1 ⟨fun _ => k2 _ (by rw [e2]; exact fin0), fun y => absurd nI_0 y⟩⟩)
def ST3_among (R R2 : MH → Prop) : Prop := ∀ (y1 : Int32) (y2 : Int32) (h : MH), R h → Zh h → ∀ P : Int32 → MH → Prop, (∀ (r : Int32) (h1 : MH), hS h1 223 = (1, 10) → (∀ P2 : Int32 → MH → Prop, (∀ h2 : MH, R2 h2 → P2 r h2) → wX10_among 223 y1 y2 h1 P2) → P r h1) → wX9_among 1 2048 128 y1 y2 h P
theorem ST3_among_c {A : Nat} (hA : A + 1 < 2 ^ 20) : ST3_among (RLY (RRc (CVA lpC A))) (RLY (RRc (CVA lpC (A + 1)))) := by
  intro y1 y2 h hr hz P kP
  obtain ⟨hl, t1, t2, d, ok, c, m⟩ := hr
  obtain ⟨⟨a, ca, cn⟩, cs, _, _, _, cv⟩ := id c
  have j : JB lpC A d h := ⟨hl, ⟨t1, t2⟩, c, m⟩
  have fin0 := JB_end ok (JB_le (show A ≤ A + 1 by omega) j)
  have h4 := cn.1.1
  rcases nI_cases y1 1 (by omega) with ⟨aim, ha, e1⟩ | z1
  · subst e1
    refine n_isAim1 ha ⟨fun y => absurd y (by decide), fun _ => ⟨S_128 hl, a, ca, 146, R_128_2 hl, S_146 hl, cn.2.1, ?_⟩⟩
    rw [show hI h 146 0 = nI (asR (dS d)) from cs.1]
    by_cases q : ∃ x, isRg (dN d) (asR (dS d)) y2 x
    · obtain ⟨x, hx⟩ := q
      have hlt := isRg_lt cn.1 hx
      refine n_cycleOf1 cn ok.1.1 hx ⟨fun _ => ⟨S_128 hl, 199, R_128_7 hl, a, ca, 146, R_128_2 hl, S_199 hl, by omega, by omega, ?_⟩, fun y => absurd (nI_pos' (by have := hx.1; omega)) y⟩
      refine n_solve hz hA (by omega) j ok ca (fun nu g jg _ => ⟨fun _ => ?_, fun y => absurd nI_0 y⟩) (fun us g jg _ cr ch _ => ⟨fun y => absurd y (by decide), fun _ => ⟨S_128 jg.1, 199, R_128_7 jg.1, S_199 jg.1, 204, R_199_9 jg.1, 40, S_204 jg.1, by rw [hx.2.2]; exact vp_in_nI (by omega) (by omega), ?_⟩⟩)
      · refine kP _ _ (S_223 jg.1) (fun P2 k2 => ⟨S_223 jg.1, fun g2 e2 => m_isAim1 ha ⟨fun y => absurd y (by decide), fun _ => ?_⟩⟩)
        subst e2
        obtain ⟨hl2, m2⟩ := JB_thr jg
        refine ⟨S_223 hl2, m_isRing1 hl2 cn.1 m2.2.2.1 hx ⟨fun _ => ⟨S_223 hl2, m_laysYet (by omega) hl2 cn.1 ok.1 m2 (fun _ g3 f3 m3 => ⟨fun _ => k2 _ (JB_fr ok jg (FrM_trans (FrM_thrown _ _) f3) m3), fun y => absurd nI_0 y⟩) (fun u => absurd u nu)⟩, fun y => absurd y (by decide)⟩⟩
      · rw [hx.2.2, nI_clamp (by omega), ch.2.2 x hx.1 hx.2.1]
        refine kP _ _ (S_223 jg.1) (fun P2 k2 => ⟨S_223 jg.1, fun g2 e2 => m_isAim1 ha ⟨fun y => absurd y (by decide), fun _ => ?_⟩⟩)
        subst e2
        obtain ⟨hl2, m2⟩ := JB_thr jg
        refine ⟨S_223 hl2, m_isRing1 hl2 cn.1 m2.2.2.1 hx ⟨fun _ => ⟨S_223 hl2, m_laysYet (by omega) hl2 cn.1 ok.1 m2 (fun nu => absurd us nu) (fun _ g3 f3 m3 l3 => ⟨fun y => absurd y (by decide), fun _ => ?_⟩)⟩, fun y => absurd y (by decide)⟩⟩
        have hl3 := LX_Fr f3.1 hl2
        refine ⟨S_223 hl3, 237, R_223_28 hl3, 64, S_237 hl3, by rw [hx.2.2]; exact vp_in_nI (by omega) (by omega), ?_⟩
        rw [hx.2.2, nI_clamp (by omega), l3 x hx.1 hx.2.1]
        exact k2 _ (JB_fr ok jg (FrM_trans (FrM_thrown _ _) f3) m3)
    · refine n_cycleOf0 cn ok.1.1 q ⟨fun y => absurd y (by decide), fun _ => ?_⟩
      refine kP _ _ (S_223 hl) (fun P2 k2 => ⟨S_223 hl, fun g2 e2 => m_isAim1 ha ⟨fun y => absurd y (by decide), fun _ => ?_⟩⟩)
      subst e2
      obtain ⟨hl2, m2⟩ := JB_thr j
      exact ⟨S_223 hl2, m_isRing0 hl2 cn.1 m2.2.2.1 q ⟨fun y => absurd nI_0 y, fun _ => k2 _ fin0⟩⟩
  · refine n_isAim0 z1 ⟨fun _ => ?_, fun y => absurd nI_0 y⟩
    exact kP _ _ (S_223 hl) (fun P2 k2 => ⟨S_223 hl, fun g2 e2 => m_isAim0 z1 ⟨fun _ => k2 _ (by rw [e2]; exact fin0), fun y => absurd nI_0 y⟩⟩)
