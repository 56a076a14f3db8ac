/-! ===== trials: what would be lost ===== -/
def ST3 (x : Nat) : Prop := (153 ≤ x ∧ x ≤ 164) ∨ x = 198
theorem CP_trial {CV : MH → Prop} (ck : ∀ h h1, CvEq h h1 → CV h → CV h1) {h g : MH} {d : DV} (f : Fr ST3 h g) (hz : ∀ k, k < 360 → hI g 198 k = 0) (c : CP CV h d) : CP CV g d := by
  obtain ⟨⟨a, ca, cn⟩, cs, ⟨p, ch⟩, ci, cb, cv⟩ := c
  have q : CvEq h g := CvEq_Fr (fun b hb => by unfold ST3 at hb; omega) f
  have n : ∀ b, ¬ ((153 ≤ b ∧ b ≤ 164) ∨ b = 198) → hI g b = hI h b := fun b hb => f.2.2.2.2 b hb
  exact ⟨⟨a, by rw [f.2.2.2.1]; exact ca, NetV_keep (CvEq_net q) cn⟩, StV_row (n _ (by omega)) (n _ (by omega)) (n _ (by omega)) cs, ⟨p, HiV_row (fun b b1 b2 => n b (by omega)) ch⟩, fun t ht => ImC_cong ht (CvEq_net q) (by rw [f.2.2.2.1]) (fun b b1 b2 => n b (by omega)) (ci t ht), hz, ck h g q cv⟩
theorem SC_ST3 {h g : MH} (f : Fr ST3 h g) : Fr SC h g := Fr_mono (fun x q => by unfold ST3 at q; unfold SC; omega) f
theorem SD_ST3 {b : Nat} (hb : b = 153 ∨ b = 156 ∨ b = 159 ∨ b = 162) {h g : MH} (f : Fr (SD b) h g) : Fr ST3 h g := Fr_mono (fun x q => by unfold SD at q; unfold ST3; omega) f
theorem n_lostBehind {Q : Int32 → MH → Prop} {h : MH} {v : NV} {s : AS} {a b b2 l : Nat} (hl : LX h) (ca : hR h 128 1 = some a) (p : NetV h a v) (ok : AsOK v s) (hb : b ∈ stL) (hb2 : b2 ∈ stL) (hbb : b2 ≠ b) (ps : StV h b (encS s)) (hz : ∀ k, k < 360 → hI h 198 k = 0) (hk : l < nvL v) (hf : bt (asF s) l = 0) (hq : ∀ g, Fr (SD b2) h g → StV g b2 (encS (dFail v s l)) → (∀ k, k < 360 → hI g 198 k = 0) → Q (nI (lostA v (dFail v s l))) g) : wX9_lostBehind 128 b (nI l) b2 h Q := by
  have h4 := p.1.1
  have s198 := stL_198 b2 hb2
  have f1 : Fr (SD b2) h (cpS h b2 b) := Fr_mono (fun x q => by unfold SD; omega) Fr_cpS
  have hl1 := LX_Fr f1 hl
  refine ⟨(st_S hl hb2).1, u_copyFrom hl hb2 hb hbb ⟨S_128 hl1, 197, R_128_6 hl1, a, ca, S_197 hl1, ?_⟩⟩
  have sg := stL_198b b2 hb2
  have z1 : ∀ k, k < 360 → hI (cpS h b2 b) 198 k = 0 := fun k hk => by rw [cpS_row (by omega)]; exact hz k hk
  refine n_failLink hl1 (NetV_SD hb2 f1 p) ok hb2 (cpS_new ps) z1 (fun q => absurd ⟨l, hk, rfl⟩ q) (fun l2 h2 e2 => ?_) (fun l2 h2 e2 g fg psg hzg => ?_)
  · have := h2.1
    rw [← (nI_eq (by omega) (by omega)).mp h2.2] at e2
    omega
  · have h21 := h2.1
    rw [← (nI_eq (by omega) (by omega)).mp h2.2] at psg
    have f2 := Fr_trans f1 fg
    have hlg := LX_Fr f2 hl
    exact ⟨S_128 hlg, 197, R_128_6 hlg, a, by rw [f2.2.2.2.1]; exact ca, S_197 hlg, n_lostUnits hlg (NetV_SD hb2 f2 p) (AsOK_tryS p.1 (AsOK_clF p.1 ok hk)) hb2 psg (hq g f2 psg hzg)⟩
def frS (s : AS) : AS := (asR s, 0, asC s, fun _ => none)
theorem AsOK_frS {v : NV} {s : AS} (ok : AsOK v s) : AsOK v (frS s) := ⟨ok.1, Nat.two_pow_pos _, ok.2.2.1, fun _ _ _ _ _ e => absurd e (by simp [frS, asW])⟩
theorem n_freshFrom {Q : MH → Prop} {h : MH} {s : AS} {b b2 : Nat} (hl : LX h) (hb : b ∈ stL) (hb2 : b2 ∈ stL) (hbb : b2 ≠ b) (ps : StV h b (encS s)) (hz : ∀ k, k < 360 → hI h 198 k = 0) (hq : ∀ g, Fr (SD b2) h g → StV g b2 (encS (frS s)) → (∀ k, k < 360 → hI g 198 k = 0) → Q g) : wX6_freshFrom b2 b h Q := by
  have sg := stL_198b b2 hb2
  have f1 : Fr (SD b2) h (cpS h b2 b) := Fr_mono (fun x q => by unfold SD; omega) Fr_cpS
  have hl1 := LX_Fr f1 hl
  refine ⟨(st_S hl hb2).1, u_copyFrom hl hb2 hb hbb ⟨(st_S hl1 hb2).1, u_mendAll hl1 hb2 (hq _ (Fr_trans f1 ?_) ?_ (fun k hk => ?_))⟩⟩
  · unfold mdS
    exact Fr_trans (Fr_sI (Or.inl rfl)) (Fr_rI (Or.inr (Or.inr (Or.inl rfl))))
  · have q := mdS_V (cpS_new (a := b2) ps)
    exact ⟨q.1, q.2.1.trans nI_0.symm, q.2.2.1, q.2.2.2⟩
  · rw [mdS_row (by omega), cpS_row (by omega)]
    exact hz k hk
/-! the reference's trials -/
theorem m_back {Q : MH → Prop} {g1 g2 : MH} {d : DV} {s2 : AS} (hl1 : LX g1) (hv : NvOK (dN d)) (ok : AsOK (dN d) (dS d)) (ok2 : AsOK (dN d) s2) (m1 : MP g1 d) (pw : StM (dN d) (dS d) (hI g1 235)) (t : MDe (dN d) g1 s2 g2) (hq : ∀ g3, FrM g1 g3 → MP g3 d → Q g3) : wX10_isAgain 223 g2 Q := by
  have h4 := hv.1
  refine m_isAgain (s := dS d) (s2 := s2) (LX_Fr t.1 hl1) hv (MDe_net (by omega) t m1.2.1) t.2.2.2.2 ok ok2 t.2.2.2.1.2.2.1 (by rw [t.1.2.2.2.2 235 (by unfold SE; omega)]; exact pw) (fun g3 t3 => ?_)
  have t13 := MDe_trans t t3
  exact hq g3 (FrM_MDe t13) (MP_state (by omega) t13 m1)
/-- goesFail behind a move -/
theorem m_fail2 {Q : MH → Prop} {g1 g2 : MH} {v : NV} {s2 : AS} {l : Nat} (hl1 : LX g1) (hv : NvOK v) (pn : MNet (hI g1 224) v) (ok2 : AsOK v s2) (t : MDe v g1 s2 g2) (hk : l < nvL v) (hq : ∀ g3, MDe v g1 (dFail v s2 l) g3 → Q g3) : wX10_goesFail 223 (nI l) g2 Q :=
  m_goesFail (LX_Fr t.1 hl1) hv (MDe_net (by have := hv.1; omega) t pn) t.2.2.2.2 ok2 t.2.2.2.1 hk (fun g3 t3 => hq g3 (MDe_trans t (MDe_MTr t3 (by rw [show asR (dFail v s2 l) = asR s2 from (tryA_rest _ _ _).1]; exact t.2.2.2.2))))
theorem m_lost2 {Q : Int32 → MH → Prop} {g1 g2 : MH} {v : NV} {s2 : AS} (hl1 : LX g1) (hv : NvOK v) (pn : MNet (hI g1 224) v) (ok2 : AsOK v s2) (t : MDe v g1 s2 g2) (hq : Q (nI (lostA v s2)) g2) : wX10_lostNow 223 g2 Q :=
  m_lostNow (LX_Fr t.1 hl1) hv (MDe_net (by have := hv.1; omega) t pn) ok2 t.2.2.2.1 hq
theorem m_fresh2 {Q : MH → Prop} {g1 g2 : MH} {v : NV} {s2 : AS} (hl1 : LX g1) (hv : NvOK v) (t : MDe v g1 s2 g2) (hq : ∀ g3, MDe v g1 (frS s2) g3 → Q g3) : wX10_isFresh 223 g2 Q := by
  have h4 := hv.1
  refine u_isFresh (LX_Fr t.1 hl1) (hq _ (MDe_trans t (MDe_MTr ⟨Fr_trans (Fr_sI rfl) (Fr_rI rfl), fun k hk => ?_, fun c hc hb => ?_, ?_, ?_, fun u j hu hj => ?_⟩ t.2.2.2.2)))
  · rw [hI_rI, if_pos rfl]
    show frH _ 0 k = _
    unfold frH
    rw [if_neg (by omega), hI_sI, if_neg (by omega)]
  · have := bcN_le (asM v (frS s2)) c
    show hI (rI _ 224 _) 224 (49 + bcN (asM v (frS s2)) c) = nI (asC s2 c)
    rw [hI_rI, if_pos rfl]
    unfold frH
    rw [if_neg (by omega), hI_sI, if_neg (by omega)]
    exact t.2.2.2.1.1 c hc hb
  · show hI (rI _ 224 _) 224 113 = nI 0
    rw [hI_rI, if_pos rfl]
    unfold frH
    rw [if_neg (by omega), hI_sI, if_pos ⟨rfl, rfl⟩]
  · show hI (rI _ 224 _) 224 114 = nI (asR s2)
    rw [hI_rI, if_pos rfl]
    unfold frH
    rw [if_neg (by omega), hI_sI, if_neg (by omega)]
    exact t.2.2.2.1.2.2.1
  · show hI (rI _ 224 _) 224 (49 + (66 + 3 * u + j)) = 0
    rw [hI_rI, if_pos rfl]
    unfold frH
    rw [if_pos (by omega)]
theorem FrM_235 {h g : MH} (f : Fr (fun b => b = 235) h g) : FrM h g := FrM_Fr (fun b q => ⟨by unfold SM; omega, by omega⟩) f
theorem m_lostWith {Q : Int32 → MH → Prop} {h : MH} {d : DV} {l : Nat} (hl : LX h) (hv : NvOK (dN d)) (ok : AsOK (dN d) (dS d)) (m : MP h d) (hk : l < nvL (dN d)) (hq : ∀ g, FrM h g → MP g d → Q (nI (lostA (dN d) (dFail (dN d) (dS d) l))) g) : wX10_lostWith 223 (nI l) h Q := by
  have h4 := hv.1
  refine ⟨S_223 hl, m_stores hl (fun g1 f1 w1 => ?_)⟩
  have hl1 := LX_Fr f1 hl
  have m1 := MP_235 f1 m
  have pw := was_StM (by omega) w1 m.2.2.2.1
  have t1 : MDe (dN d) g1 (dS d) g1 := MDe_rfl m1.2.2.2.1 m1.2.2.1
  refine ⟨S_223 hl1, m_fail2 hl1 hv m1.2.1 ok t1 hk (fun g2 t2 => ?_)⟩
  have ok2 : AsOK (dN d) (dFail (dN d) (dS d) l) := AsOK_tryS hv (AsOK_clF hv ok hk)
  have hl2 := LX_Fr t2.1 hl1
  exact ⟨S_223 hl2, m_lost2 hl1 hv m1.2.1 ok2 t2 ⟨S_223 hl2, m_back hl1 hv ok ok2 m1 pw t2 (fun g3 f3 m3 => hq g3 (FrM_trans (FrM_235 f1) f3) m3)⟩⟩
theorem m_lostBy {Q : Int32 → MH → Prop} {h : MH} {d : DV} {l l2 : Nat} (hl : LX h) (hv : NvOK (dN d)) (ok : AsOK (dN d) (dS d)) (m : MP h d) (hk : l < nvL (dN d)) (hk2 : l2 < nvL (dN d)) (hq : ∀ g, FrM h g → MP g d → Q (nI (lostA (dN d) (dFail (dN d) (dFail (dN d) (frS (dS d)) l) l2))) g) : wX10_lostBy 223 (nI l) (nI l2) h Q := by
  have h4 := hv.1
  refine ⟨S_223 hl, m_stores hl (fun g1 f1 w1 => ?_)⟩
  have hl1 := LX_Fr f1 hl
  have m1 := MP_235 f1 m
  have pw := was_StM (by omega) w1 m.2.2.2.1
  have t1 : MDe (dN d) g1 (dS d) g1 := MDe_rfl m1.2.2.2.1 m1.2.2.1
  refine ⟨S_223 hl1, m_fresh2 hl1 hv t1 (fun g2 t2 => ⟨S_223 (LX_Fr t2.1 hl1), m_fail2 hl1 hv m1.2.1 (AsOK_frS ok) t2 hk (fun g3 t3 => ?_)⟩)⟩
  have ok3 : AsOK (dN d) (dFail (dN d) (frS (dS d)) l) := AsOK_tryS hv (AsOK_clF hv (AsOK_frS ok) hk)
  refine ⟨S_223 (LX_Fr t3.1 hl1), m_fail2 hl1 hv m1.2.1 ok3 t3 hk2 (fun g4 t4 => ?_)⟩
  have ok4 : AsOK (dN d) (dFail (dN d) (dFail (dN d) (frS (dS d)) l) l2) := AsOK_tryS hv (AsOK_clF hv ok3 hk2)
  have hl4 := LX_Fr t4.1 hl1
  exact ⟨S_223 hl4, m_lost2 hl1 hv m1.2.1 ok4 t4 ⟨S_223 hl4, m_back hl1 hv ok ok4 m1 pw t4 (fun g5 f5 m5 => hq g5 (FrM_trans (FrM_235 f1) f5) m5)⟩⟩
theorem ST_ifFails_c {CV : MH → Prop} (ck : ∀ h h1, CvEq h h1 → CV h → CV h1) : ST_ifFails (RLY (RRc CV)) := by
  intro y1 h hr P kP
  obtain ⟨hl, t1, t2, d, ok, c, m⟩ := hr
  have cl := rd_close (x := nI 0) ck hl t1 t2 ok c m
  obtain ⟨⟨a, ca, cn⟩, cs, _, _, cb, _⟩ := id c
  have m2 := MP_thrown (x := nI 0) m
  have hl2 : LX (sI h 223 0 (nI 0)) := LX_sI hl
  have h4 := cn.1.1
  refine ⟨S_128 hl, a, ca, cn.2.1, ?_⟩
  rcases Classical.em (∃ l, isLk (dN d) y1 l) with ⟨l, hk⟩ | hk
  · obtain ⟨hk1, rfl⟩ := hk
    have bl := bt_lt (asF (dS d)) l
    refine n_hasLink1 cn ⟨hk1, rfl⟩ ⟨fun _ => ⟨S_128 hl, 146, R_128_2 hl, S_146 hl, n_failed hl ok.1 (by omega) (by decide) cs (by omega) ?_⟩, fun z => absurd z (by decide)⟩
    rw [nI_eq0 (by omega)]
    refine ⟨fun z => ⟨S_128 hl, 146, R_128_2 hl, 152, R_128_4 hl, 4, S_152 hl, vp_in_nI (by omega) (by omega), 153, R_152_0 hl, n_lostBehind hl ca cn ok.1 (by decide) (by decide) (by omega) cs cb hk1 z (fun g fg psg hzg => ?_)⟩, fun z => kP _ _ (S_223 hl) (fun P2 k2 => ⟨S_223 hl, fun _ e => ?_⟩)⟩
    · have f3 := SD_ST3 (by omega) fg
      have hlg := LX_Fr fg hl
      refine kP _ _ (S_223 hlg) (fun P2 k2 => ⟨S_223 hlg, fun _ e => ?_⟩)
      subst e
      have mg := MP_thrown (x := nI 0) (MP_SC (SC_ST3 f3) m)
      have hlt : LX (sI g 223 0 (nI 0)) := LX_sI hlg
      refine m_isLink1 hlt (by omega) mg.2.1 ⟨hk1, rfl⟩ ⟨fun _ => ⟨S_223 hlt, m_failed hlt ok.1 (by omega) mg.2.2.2.1 (by omega) ?_⟩, fun z => absurd z (by decide)⟩
      rw [nI_eq0 (by omega)]
      exact ⟨fun _ => ⟨S_223 hlt, m_lostWith hlt cn.1 ok.1 mg hk1 (fun g2 f2 m3 => k2 _ (st_close ck hl ⟨t1, t2⟩ (SC_ST3 f3) (CP_trial ck f3 hzg c) (FrM_trans (FrM_thrown g (nI 0)) f2) m3 ok))⟩, fun y => absurd z y⟩
    · subst e
      refine m_isLink1 hl2 (by omega) m2.2.1 ⟨hk1, rfl⟩ ⟨fun _ => ⟨S_223 hl2, m_failed hl2 ok.1 (by omega) m2.2.2.2.1 (by omega) ?_⟩, fun z => absurd z (by decide)⟩
      rw [nI_eq0 (by omega)]
      exact ⟨fun y => absurd y z, fun _ => k2 _ cl⟩
  · refine n_hasLink0 cn hk ⟨fun z => absurd nI_0 z, fun _ => kP _ _ (S_223 hl) (fun P2 k2 => ⟨S_223 hl, fun _ e => ?_⟩)⟩
    subst e
    exact m_isLink0 hl2 (by omega) m2.2.1 hk ⟨fun z => absurd nI_0 z, fun _ => k2 _ cl⟩
theorem dFail_F (v : NV) (s : AS) (l : Nat) : asF (dFail v s l) = asF s ||| 2 ^ l := (tryA_rest v (nvL v) (clF s l 20)).2.1
theorem frF0 (s : AS) (l : Nat) : bt (asF (frS s)) l = 0 := by
  show bt 0 l = 0
  unfold bt
  rw [Nat.zero_div]
theorem ST_two_c {CV : MH → Prop} (ck : ∀ h h1, CvEq h h1 → CV h → CV h1) : ST_two (RLY (RRc CV)) := by
  intro y1 y2 h hr P kP
  obtain ⟨hl, t1, t2, d, ok, c, m⟩ := hr
  have cl := rd_close (x := nI 0) ck hl t1 t2 ok c m
  obtain ⟨⟨a, ca, cn⟩, cs, _, _, cb, _⟩ := id c
  have m2 := MP_thrown (x := nI 0) m
  have hl2 : LX (sI h 223 0 (nI 0)) := LX_sI hl
  have h4 := cn.1.1
  refine ⟨S_128 hl, a, ca, cn.2.1, ?_⟩
  rcases Classical.em (∃ l, isLk (dN d) y1 l) with ⟨l, hk⟩ | hk
  · obtain ⟨hk1, rfl⟩ := hk
    refine n_hasLink1 cn ⟨hk1, rfl⟩ ⟨fun z => absurd z (by decide), fun _ => ⟨S_128 hl, a, ca, cn.2.1, ?_⟩⟩
    rcases Classical.em (∃ l, isLk (dN d) y2 l) with ⟨l2, hk2⟩ | hk2
    · obtain ⟨hk3, rfl⟩ := hk2
      refine n_hasLink1 cn ⟨hk3, rfl⟩ ⟨fun z => absurd z (by decide), fun _ => ?_⟩
      rw [nI_eq (by omega) (by omega)]
      refine ⟨fun hne => ⟨S_128 hl, 152, R_128_4 hl, 4, S_152 hl, vp_in_nI (by omega) (by omega), 153, R_152_0 hl, 146, R_128_2 hl, S_153 hl, n_freshFrom hl (by decide) (by decide) (by omega) cs cb (fun g fg psg hzg => ?_)⟩, fun he => kP _ _ (S_223 hl) (fun P2 k2 => ⟨S_223 hl, fun _ e => ?_⟩)⟩
      · have f1 := SD_ST3 (by omega) fg
        have hlg := LX_Fr fg hl
        have okf := AsOK_frS ok.1
        have cag : hR g 128 1 = some a := by rw [fg.2.2.2.1]; exact ca
        have cng := NetV_SD (by decide) fg cn
        refine ⟨S_128 hlg, 152, R_128_4 hlg, 4, S_152 hlg, vp_in_nI (by omega) (by omega), 153, R_152_0 hlg, vp_in_nI (by omega) (by omega), 156, R_152_1 hlg, n_lostBehind hlg cag cng okf (by decide) (by decide) (by omega) psg hzg hk1 (frF0 _ _) (fun g2 fg2 psg2 hzg2 => ?_)⟩
        have hlg2 := LX_Fr fg2 hlg
        have ok3 : AsOK (dN d) (dFail (dN d) (frS (dS d)) l) := AsOK_tryS cn.1 (AsOK_clF cn.1 okf hk1)
        refine ⟨S_128 hlg2, 152, R_128_4 hlg2, 4, S_152 hlg2, vp_in_nI (by omega) (by omega), 156, R_152_1 hlg2, vp_in_nI (by omega) (by omega), 159, R_152_2 hlg2, n_lostBehind hlg2 (by rw [fg2.2.2.2.1]; exact cag) (NetV_SD (by decide) fg2 cng) ok3 (by decide) (by decide) (by omega) psg2 hzg2 hk3 ?_ (fun g3 fg3 psg3 hzg3 => ?_)⟩
        · rw [dFail_F, bt_or, if_neg (fun z => hne z.symm)]
          exact frF0 _ _
        · have fA := Fr_trans f1 (Fr_trans (SD_ST3 (by omega) fg2) (SD_ST3 (by omega) fg3))
          have hlA := LX_Fr fA hl
          refine kP _ _ (S_223 hlA) (fun P2 k2 => ⟨S_223 hlA, fun _ e => ?_⟩)
          subst e
          have mg := MP_thrown (x := nI 0) (MP_SC (SC_ST3 fA) m)
          have hlt : LX (sI g3 223 0 (nI 0)) := LX_sI hlA
          refine m_isLink1 hlt (by omega) mg.2.1 ⟨hk1, rfl⟩ ⟨fun z => absurd z (by decide), fun _ => ⟨S_223 hlt, m_isLink1 hlt (by omega) mg.2.1 ⟨hk3, rfl⟩ ⟨fun z => absurd z (by decide), fun _ => ?_⟩⟩⟩
          rw [nI_eq (by omega) (by omega)]
          exact ⟨fun y => absurd y hne, fun _ => ⟨S_223 hlt, m_lostBy hlt cn.1 ok.1 mg hk1 hk3 (fun g4 f4 m4 => k2 _ (st_close ck hl ⟨t1, t2⟩ (SC_ST3 fA) (CP_trial ck fA hzg3 c) (FrM_trans (FrM_thrown g3 (nI 0)) f4) m4 ok))⟩⟩
      · subst e
        refine m_isLink1 hl2 (by omega) m2.2.1 ⟨hk1, rfl⟩ ⟨fun z => absurd z (by decide), fun _ => ⟨S_223 hl2, m_isLink1 hl2 (by omega) m2.2.1 ⟨hk3, rfl⟩ ⟨fun z => absurd z (by decide), fun _ => ?_⟩⟩⟩
        rw [nI_eq (by omega) (by omega)]
        exact ⟨fun _ => k2 _ cl, fun y => absurd he y⟩
    · refine n_hasLink0 cn hk2 ⟨fun _ => kP _ _ (S_223 hl) (fun P2 k2 => ⟨S_223 hl, fun _ e => ?_⟩), fun z => absurd nI_0 z⟩
      subst e
      exact m_isLink1 hl2 (by omega) m2.2.1 ⟨hk1, rfl⟩ ⟨fun z => absurd z (by decide), fun _ => ⟨S_223 hl2, m_isLink0 hl2 (by omega) m2.2.1 hk2 ⟨fun _ => k2 _ cl, fun z => absurd nI_0 z⟩⟩⟩
  · refine n_hasLink0 cn hk ⟨fun _ => kP _ _ (S_223 hl) (fun P2 k2 => ⟨S_223 hl, fun _ e => ?_⟩), fun z => absurd nI_0 z⟩
    subst e
    exact m_isLink0 hl2 (by omega) m2.2.1 hk ⟨fun _ => k2 _ cl, fun z => absurd nI_0 z⟩
