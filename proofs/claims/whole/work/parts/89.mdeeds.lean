/-! ===== the reference's deeds ===== -/
theorem run_m1 : (-1 : Int32) + nI 1 = 0 := by decide
theorem StM_row {v : NV} {s : AS} {h g : MH} (e : ∀ k, 49 ≤ k → k < 175 → hI g 224 k = hI h 224 k) (hv : nvC v ≤ 40) (ps : StM v s (fun k => hI h 224 (49 + k))) : StM v s (fun k => hI g 224 (49 + k)) := by
  refine ⟨fun c hc hb => ?_, ?_, ?_, fun u j hu hj => ?_⟩
  · have := bcN_le (asM v s) c
    exact (e _ (by omega) (by omega)).trans (ps.1 c hc hb)
  · exact (e _ (by omega) (by omega)).trans ps.2.1
  · exact (e _ (by omega) (by omega)).trans ps.2.2.1
  · exact (e _ (by omega) (by omega)).trans (ps.2.2.2 u j hu hj)
theorem StM_F2 {v : NV} {s : AS} {h : MH} {F : Nat} (hv : nvC v ≤ 40) (ps : StM v s (fun k => hI h 224 (49 + k))) : StM v (asR s, F, asC s, asW s) (fun k => hI (sI h 224 113 (nI F)) 224 (49 + k)) := by
  refine ⟨fun c hc hb => ?_, ?_, ?_, fun u j hu hj => ?_⟩
  · have := bcN_le (asM v (asR s, F, asC s, asW s)) c
    show hI (sI h 224 113 (nI F)) 224 (49 + bcN (asM v (asR s, F, asC s, asW s)) c) = _
    rw [hI_sI, if_neg (by omega)]
    exact ps.1 c hc hb
  · show hI (sI h 224 113 (nI F)) 224 113 = _
    rw [hI_sI, if_pos ⟨rfl, rfl⟩]
    rfl
  · show hI (sI h 224 113 (nI F)) 224 114 = _
    rw [hI_sI, if_neg (by omega)]
    exact ps.2.2.1
  · show hI (sI h 224 113 (nI F)) 224 (49 + (66 + 3 * u + j)) = _
    rw [hI_sI, if_neg (by omega)]
    exact ps.2.2.2 u j hu hj
theorem StM_C2 {v : NV} {s : AS} {h : MH} {c0 n : Nat} (hv : nvC v ≤ 40) (hc0 : c0 < nvC v) (hb0 : bt (asM v s) c0 = 1) (ps : StM v s (fun k => hI h 224 (49 + k))) : StM v (asR s, asF s, (fun x => if x = c0 then n else asC s x), asW s) (fun k => hI (sI h 224 (49 + bcN (asM v s) c0) (nI n)) 224 (49 + k)) := by
  have h0 := bcN_le (asM v s) c0
  refine ⟨fun c hc hb => ?_, ?_, ?_, fun u j hu hj => ?_⟩
  · have := bcN_le (asM v s) c
    show hI (sI h 224 (49 + bcN (asM v s) c0) (nI n)) 224 (49 + bcN (asM v s) c) = nI (if c = c0 then n else asC s c)
    rw [hI_sI]
    by_cases q : c = c0
    · rw [if_pos q, q, if_pos ⟨rfl, rfl⟩]
    · rw [if_neg q, if_neg (fun z => q (ring_inj (m := asM v s) hb hb0 (by omega)))]
      exact ps.1 c hc hb
  · show hI (sI h 224 (49 + bcN (asM v s) c0) (nI n)) 224 113 = _
    rw [hI_sI, if_neg (by omega)]
    exact ps.2.1
  · show hI (sI h 224 (49 + bcN (asM v s) c0) (nI n)) 224 114 = _
    rw [hI_sI, if_neg (by omega)]
    exact ps.2.2.1
  · show hI (sI h 224 (49 + bcN (asM v s) c0) (nI n)) 224 (49 + (66 + 3 * u + j)) = _
    rw [hI_sI, if_neg (by omega)]
    exact ps.2.2.2 u j hu hj
/-- trying behind a move -/
theorem m_tries2 {Q : MH → Prop} {h g : MH} {v : NV} {s : AS} (hl : LX h) (hv : NvOK v) (pn : MNet (hI h 224) v) (pr : RgV h v (asR s)) (ok : AsOK v s) (t : MTr v h s g) (hq : ∀ g2, MTr v h (tryS v s) g2 → Q g2) : wX10_tries 223 g Q :=
  m_tries (LX_Fr t.1 hl) hv (MTr_net (by have := hv.1; omega) t pn) (MTr_rg t pr) ok t.2.2 (fun g2 t2 => hq g2 ⟨Fr_trans t.1 t2.1, fun k hk => (t2.2.1 k hk).trans (t.2.1 k hk), t2.2.2⟩)
theorem mfail15 {Q : MH → Prop} {h : MH} {v : NV} {s : AS} {l : Nat} (hl : LX h) (hv : NvOK v) (pn : MNet (hI h 224) v) (pr : RgV h v (asR s)) (ok : AsOK v s) (hl2 : l < nvL v) (hq : ∀ g, MTr v h (dFail v s l) g → Q g) : ∀ n i g, i + n = 20 → MTr v h (clF s l i) g → wX10_goesFail_15 Q (n + 1) 223 (nI l) (nI i) g := by
  have h4 := hv.1
  intro n
  induction n with
  | zero =>
    intro i g hi t
    have hi : i = 20 := by omega
    subst hi
    unfold wX10_goesFail_15
    exact ⟨fun _ => ⟨S_223 (LX_Fr t.1 hl), m_tries2 (s := clF s l 20) hl hv pn pr (AsOK_clF hv ok hl2) t hq⟩, fun z => absurd (nI_le (by omega) (by omega)) z⟩
  | succ n ih =>
    intro i g hi t
    have hlg := LX_Fr t.1 hl
    have ew : asW (clF s l i) i = asW s i := upW_ge (Nat.le_refl _)
    unfold wX10_goesFail_15
    simp only [nI_add]
    refine ⟨fun z => absurd z (nI_ge (by omega) (by omega)), fun _ => ⟨S_223 hlg, u_runOf hlg (by omega) (by omega) ?_⟩⟩
    rw [StM_run t.2.2 (by omega) (by omega), ew]
    have same : fFail l (asW s i) = asW s i → wX10_goesFail_15 Q (n + 1) 223 (nI l) (nI (i + 1)) g := fun e => ih (i + 1) g (by omega) (by
      have e2 : clF s l (i + 1) = clF s l i := by
        unfold clF
        rw [upW_same e]
      rw [e2]
      exact t)
    cases e : asW s i with
    | none =>
      rw [e] at same
      rw [show runM (asM v (clF s l i)) none 2 = nI 0 from nI_0.symm]
      refine u_isIn (by omega) (by omega) ⟨fun _ => same rfl, fun z => absurd ?_ z⟩
      rw [show bt 0 l = 0 from by unfold bt; rw [Nat.zero_div]]
      exact nI_0
    | some w =>
      obtain ⟨c, k, p⟩ := w
      have aw := ok.2.2.2 i (by omega) c k p e
      rw [e] at same
      have ef : fFail l (some (c, k, p)) = if bt p l = 1 then none else some (c, k, p) := rfl
      have bl := bt_lt p l
      rw [show runM (asM v (clF s l i)) (some (c, k, p)) 2 = nI p from rfl]
      refine u_isIn (by omega) (by omega) ?_
      rw [nI_eq0 (by omega)]
      refine ⟨fun y => same (by rw [ef, if_neg (by omega)]), fun y => ⟨S_223 hlg, u_runsOn hlg (by omega) (ih (i + 1) _ (by omega) ?_)⟩⟩
      have e3 : clF s l (i + 1) = setW (clF s l i) i none := by
        have := upW_step (asW s) (fFail l) i
        rw [e, ef, if_pos (by omega)] at this
        unfold clF
        rw [← this]
        rfl
      rw [e3]
      exact MTr_rnH (o := none) (by omega) (by omega) t run_m1 nI_0 nI_0
theorem m_goesFail {Q : MH → Prop} {h : MH} {v : NV} {s : AS} {l : Nat} (hl : LX h) (hv : NvOK v) (pn : MNet (hI h 224) v) (pr : RgV h v (asR s)) (ok : AsOK v s) (ps : StM v s (fun k => hI h 224 (49 + k))) (hl2 : l < nvL v) (hq : ∀ g, MTr v h (dFail v s l) g → Q g) : wX10_goesFail 223 (nI l) h Q := by
  have h4 := hv.1
  have hp := pow_le10 (show l < 10 by omega)
  have lF := asF_lt ok (by omega)
  unfold wX10_goesFail
  rw [show (nI 113).toNatClampNeg = 113 from by decide]
  refine ⟨S_223 hl, 224, R_223_1 hl, 7011, S_224 hl, vp_in_nI (by omega) (by omega), vp_in_nI (by omega) (by omega), fun _ e => ⟨21, ?_⟩⟩
  rw [StM_F ps, nI_shl l (by omega), nI_or (by omega) (by omega)] at e
  subst e
  refine mfail15 hl hv pn pr ok hl2 hq 20 0 _ (by omega) ⟨Fr_sI rfl, fun k hk => by rw [hI_sI, if_neg (by omega)], ?_⟩
  have e1 : clF s l 0 = (asR s, asF s ||| 2 ^ l, asC s, asW s) := by
    unfold clF
    have : upW (asW s) (fFail l) 0 = asW s := by
      funext x
      exact upW_ge (Nat.zero_le _)
    rw [this]
  rw [e1]
  exact StM_F2 (by omega) ps
theorem m_goesMend {Q : MH → Prop} {h : MH} {v : NV} {s : AS} {l : Nat} (hl : LX h) (hv : NvOK v) (pn : MNet (hI h 224) v) (pr : RgV h v (asR s)) (ok : AsOK v s) (ps : StM v s (fun k => hI h 224 (49 + k))) (hl2 : l < nvL v) (hq : ∀ g, MTr v h (dMend v s l) g → Q g) : wX10_goesMend 223 (nI l) h Q := by
  have h4 := hv.1
  have hp := pow_le10 (show l < 10 by omega)
  have lF := asF_lt ok (by omega)
  unfold wX10_goesMend
  rw [show (nI 113).toNatClampNeg = 113 from by decide]
  simp only [nI_mul, nI_add]
  refine ⟨S_223 hl, 224, R_223_1 hl, 7011, S_224 hl, vp_in_nI (by omega) (by omega), vp_in_nI (by omega) (by omega), fun _ e => ?_⟩
  rw [StM_F ps, nI_shl l (by omega), nI_andn (by omega) (by omega)] at e
  subst e
  have t0 : MTr v h (asR s, asF s ^^^ (asF s &&& 2 ^ l), asC s, asW s) (sI h 224 113 (nI (asF s ^^^ (asF s &&& 2 ^ l)))) := ⟨Fr_sI rfl, fun k hk => by rw [hI_sI, if_neg (by omega)], StM_F2 (by omega) ps⟩
  refine u_runsOn (LX_sI hl) (by omega) ⟨S_223 (LX_rnH (LX_sI hl)), u_runsOn (LX_rnH (LX_sI hl)) (by omega) ⟨S_223 (LX_rnH (LX_rnH (LX_sI hl))), ?_⟩⟩
  have t1 := MTr_rnH (u := 2 * l) (o := none) (by omega) (by omega) t0 run_m1 (show nI 0 = _ from nI_0) (show nI 0 = _ from nI_0)
  have t2 := MTr_rnH (u := 2 * l + 1) (o := none) (by omega) (by omega) t1 run_m1 (show nI 0 = _ from nI_0) (show nI 0 = _ from nI_0)
  have e1 : setW (setW (asR s, asF s ^^^ (asF s &&& 2 ^ l), asC s, asW s) (2 * l) none) (2 * l + 1) none = clM s l 2 := by
    have e2 : (fun x => if x = 2 * l + 1 then none else if x = 2 * l then none else asW s x) = fun u => if 2 * l ≤ u ∧ u < 2 * l + 2 then none else asW s u := by
      funext x
      by_cases q : x = 2 * l + 1
      · rw [if_pos q, if_pos (by omega)]
      · rw [if_neg q]
        by_cases q2 : x = 2 * l
        · rw [if_pos q2, if_pos (by omega)]
        · rw [if_neg q2, if_neg (by omega)]
    unfold clM
    rw [← e2]
    rfl
  rw [e1] at t2
  exact m_tries2 (s := clM s l 2) hl hv pn pr (AsOK_clM ok) t2 hq
theorem m_goesLay {Q : MH → Prop} {h : MH} {v : NV} {s : AS} {c : Nat} (hl : LX h) (hv : NvOK v) (pn : MNet (hI h 224) v) (pr : RgV h v (asR s)) (ok : AsOK v s) (ps : StM v s (fun k => hI h 224 (49 + k))) (hc : c < nvC v) (hb : bt (asM v s) c = 1) (hc9 : asC s c < 9) (hq : ∀ g, MTr v h (dLay v s c) g → Q g) : wX10_goesLay 223 (nI (bcN (asM v s) c)) h Q := by
  have h4 := hv.1
  have hbc := bcN_le (asM v s) c
  have es : hI h 224 (49 + bcN (asM v s) c) = nI (asC s c) := ps.1 c hc hb
  unfold wX10_goesLay
  rw [nI_add 49 (bcN (asM v s) c), nI_clamp (by omega)]
  refine ⟨S_223 hl, 224, R_223_1 hl, 7011, S_224 hl, vp_in_nI (by omega) (by omega), vp_in_nI (by omega) (by omega), fun _ e => ?_⟩
  rw [es, nI_add] at e
  subst e
  exact m_tries2 (s := clL s c) hl hv pn pr (AsOK_clL ok hb hc9) ⟨Fr_sI rfl, fun k hk => by rw [hI_sI, if_neg (by omega)], StM_C2 (by omega) hc hb ps⟩ hq
theorem mtake15 {Q : MH → Prop} {h : MH} {v : NV} {s : AS} {c : Nat} (hl : LX h) (hv : NvOK v) (pn : MNet (hI h 224) v) (pr : RgV h v (asR s)) (ok : AsOK v s) (hc : c < nvC v) (hb : bt (asM v s) c = 1) (hc0 : 0 < asC s c) (hq : ∀ g, MTr v h (dTake v s c) g → Q g) : ∀ n i g, i + n = 20 → MTr v h (clT s c i) g → wX10_goesTake_15 Q (n + 1) 223 (nI (bcN (asM v s) c)) (nI i) g := by
  have h4 := hv.1
  have hbc := bcN_le (asM v s) c
  have hc9 := (ok.2.2.1 c (by omega)).1
  intro n
  induction n with
  | zero =>
    intro i g hi t
    have hi : i = 20 := by omega
    subst hi
    unfold wX10_goesTake_15
    exact ⟨fun _ => ⟨S_223 (LX_Fr t.1 hl), m_tries2 (s := clT s c 20) hl hv pn pr (AsOK_clT ok hc0) t hq⟩, fun z => absurd (nI_le (by omega) (by omega)) z⟩
  | succ n ih =>
    intro i g hi t
    have hlg := LX_Fr t.1 hl
    have ew : asW (clT s c i) i = asW s i := upW_ge (Nat.le_refl _)
    have es : hI g 224 (49 + bcN (asM v s) c) = nI (asC s c - 1) := by
      have := t.2.2.1 c hc hb
      have e2 : asC (clT s c i) c = asC s c - 1 := if_pos rfl
      rw [e2] at this
      exact this
    unfold wX10_goesTake_15
    simp only [nI_add]
    refine ⟨fun z => absurd z (nI_ge (by omega) (by omega)), fun _ => ⟨S_223 hlg, u_runOf hlg (by omega) (by omega) ?_⟩⟩
    rw [StM_run t.2.2 (by omega) (by omega), ew]
    have same : fTake c (asC s c - 1) (asW s i) = asW s i → wX10_goesTake_15 Q (n + 1) 223 (nI (bcN (asM v s) c)) (nI (i + 1)) g := fun e => ih (i + 1) g (by omega) (by
      have e2 : clT s c (i + 1) = clT s c i := by
        unfold clT
        rw [upW_same e]
      rw [e2]
      exact t)
    cases e : asW s i with
    | none =>
      rw [e] at same
      refine ⟨fun _ => same rfl, fun z => ?_⟩
      have := (nI_eq0 (n := bcN (asM v s) c + 1) (by omega)).mp z.symm
      omega
    | some w =>
      obtain ⟨d, k, p⟩ := w
      have aw := ok.2.2.2 i (by omega) d k p e
      have aw2 := (ok.2.2.1 d (by omega)).1
      have hbd := bcN_le (asM v s) d
      rw [e] at same
      have ef : fTake c (asC s c - 1) (some (d, k, p)) = if d = c ∧ k = asC s c - 1 then none else some (d, k, p) := rfl
      refine ⟨fun z => same (by rw [ef, if_neg (fun q => z (by rw [← q.1]; rfl))]), fun z => ⟨S_223 hlg, u_runOf hlg (by omega) (by omega) ⟨S_223 hlg, 224, R_223_1 hlg, 7011, S_224 hlg, vp_in_nI (by omega) (by omega), ?_⟩⟩⟩
      have ed : d = c := ring_inj aw.2.1 hb (by have := (nI_eq (a := bcN (asM v s) d + 1) (b := bcN (asM v s) c + 1) (by omega) (by omega)).mp z; omega)
      rw [nI_clamp (by omega), es, StM_run t.2.2 (by omega) (by omega), ew, e, show runM (asM v (clT s c i)) (some (d, k, p)) 1 = nI k from rfl, nI_eq (by omega) (by omega)]
      refine ⟨fun y => same (by rw [ef, if_neg (fun q => y q.2)]), fun y => u_runsOn hlg (by omega) (ih (i + 1) _ (by omega) ?_)⟩
      have e3 : clT s c (i + 1) = setW (clT s c i) i none := by
        have := upW_step (asW s) (fTake c (asC s c - 1)) i
        rw [e, ef, if_pos ⟨ed, y⟩] at this
        unfold clT
        rw [← this]
        rfl
      rw [e3]
      exact MTr_rnH (o := none) (by omega) (by omega) t run_m1 nI_0 nI_0
theorem m_goesTake {Q : MH → Prop} {h : MH} {v : NV} {s : AS} {c : Nat} (hl : LX h) (hv : NvOK v) (pn : MNet (hI h 224) v) (pr : RgV h v (asR s)) (ok : AsOK v s) (ps : StM v s (fun k => hI h 224 (49 + k))) (hc : c < nvC v) (hb : bt (asM v s) c = 1) (hc0 : 0 < asC s c) (hq : ∀ g, MTr v h (dTake v s c) g → Q g) : wX10_goesTake 223 (nI (bcN (asM v s) c)) h Q := by
  have h4 := hv.1
  have hbc := bcN_le (asM v s) c
  have es : hI h 224 (49 + bcN (asM v s) c) = nI (asC s c) := ps.1 c hc hb
  unfold wX10_goesTake
  rw [nI_add 49 (bcN (asM v s) c), nI_clamp (by omega)]
  refine ⟨S_223 hl, 224, R_223_1 hl, 7011, S_224 hl, vp_in_nI (by omega) (by omega), vp_in_nI (by omega) (by omega), fun _ e => ⟨21, ?_⟩⟩
  rw [es, nI_subN (by omega)] at e
  subst e
  refine mtake15 hl hv pn pr ok hc hb hc0 hq 20 0 _ (by omega) ⟨Fr_sI rfl, fun k hk => by rw [hI_sI, if_neg (by omega)], ?_⟩
  have e1 : clT s c 0 = (asR s, asF s, (fun x => if x = c then asC s c - 1 else asC s x), asW s) := by
    unfold clT
    have : upW (asW s) (fTake c (asC s c - 1)) 0 = asW s := by
      funext x
      exact upW_ge (Nat.zero_le _)
    rw [this]
  rw [e1]
  exact StM_C2 (by omega) hc hb ps
