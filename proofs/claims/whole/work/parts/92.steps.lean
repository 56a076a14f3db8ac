/-! ===== steps: lay, take, fail, mend, rate ===== -/
theorem Fr_cpS {h : MH} {a b : Nat} : Fr (fun x => x = a ∨ x = a + 1 ∨ x = a + 2) h (cpS h a b) := by
  unfold cpS
  exact Fr_trans (Fr_trans (Fr_trans (Fr_sI (Or.inl rfl)) (Fr_sI (Or.inl rfl))) (Fr_rI (Or.inr (Or.inl rfl)))) (Fr_rI (Or.inr (Or.inr rfl)))
theorem Fr_kpH {h : MH} {p n b : Nat} : Fr (fun x => x = 165 ∨ x = 167 + 3 * p ∨ x = 167 + 3 * p + 1 ∨ x = 167 + 3 * p + 2) h (kpH h p n b) := by
  unfold kpH
  exact Fr_trans (Fr_trans (Fr_mono (fun x q => Or.inr q) Fr_cpS) (Fr_sI (Or.inl rfl))) (Fr_sI (Or.inl rfl))
/-- what an address means for the class's part: only these rows may change -/
theorem CP_move {CV : MH → Prop} (ck : ∀ h h1, CvEq h h1 → CV h → CV h1) {S : Nat → Prop} {h g : MH} {d : DV} (f : Fr S h g) (hS : ∀ b, S b → (149 ≤ b ∧ b ≤ 164) ∨ (205 ≤ b ∧ b < 217)) (c : CP CV h d) : CP CV g d := by
  obtain ⟨⟨a, ca, cn⟩, cs, ⟨p, ch⟩, ci, cb, cv⟩ := c
  have q : CvEq h g := CvEq_Fr (fun b hb => by have := hS b hb; omega) f
  have n : ∀ b, ¬ ((149 ≤ b ∧ b ≤ 164) ∨ (205 ≤ b ∧ b < 217)) → hI g b = hI h b := fun b hb => f.2.2.2.2 b (fun z => hb (hS b z))
  refine ⟨⟨a, by rw [f.2.2.2.1]; exact ca, NetV_keep (CvEq_net q) cn⟩, StV_row (n _ (by omega)) (n _ (by omega)) (n _ (by omega)) cs, ⟨p, HiV_row (fun b b1 b2 => n b (by omega)) ch⟩, fun t ht => ImC_cong ht (CvEq_net q) (by rw [f.2.2.2.1]) (fun b b1 b2 => n b (by omega)) (ci t ht), fun k hk => ?_, ck h g q cv⟩
  rw [n 198 (by omega)]
  exact cb k hk
/-- the state moved on to s2; all else as it was -/
theorem CP_state {CV : MH → Prop} (ck : ∀ h h1, CvEq h h1 → CV h → CV h1) {h g : MH} {d : DV} {s2 : AS} (f : Fr (SD 146) h g) (ps : StV g 146 (encS s2)) (hz : ∀ k, k < 360 → hI g 198 k = 0) (c : CP CV h d) : CP CV g (dN d, s2, dH d, dI d) := by
  obtain ⟨⟨a, ca, cn⟩, cs, ⟨p, ch⟩, ci, cb, cv⟩ := c
  have q : CvEq h g := CvEq_Fr (fun b hb => by unfold SD at hb; omega) f
  have n : ∀ b, 149 ≤ b → b ≠ 198 → hI g b = hI h b := fun b b1 b2 => f.2.2.2.2 b (fun z => by unfold SD at z; omega)
  exact ⟨⟨a, by rw [f.2.2.2.1]; exact ca, NetV_keep (CvEq_net q) cn⟩, ps, ⟨p, HiV_row (fun b b1 b2 => n b (by omega) (by omega)) ch⟩, fun t ht => ImC_cong ht (CvEq_net q) (by rw [f.2.2.2.1]) (fun b b1 b2 => n b (by omega) (by omega)) (ci t ht), hz, ck h g q cv⟩
/-- ended, done: what was comes to the history -/
theorem n_keep {CV : MH → Prop} (ck : ∀ h h1, CvEq h h1 → CV h → CV h1) {Q : MH → Prop} {g : MH} {d : DV} {s0 : AS} (hl : LX g) (ps : StV g 149 (encS s0)) (c : CP CV g d) (hq : ∀ g2, Fr SC g g2 → CP CV g2 (dN d, dS d, (s0 :: dH d).take 10, dI d) → Q g2) : wX2_keep 165 149 g Q := by
  obtain ⟨⟨a, ca, cn⟩, cs, ⟨p, ch⟩, ci, cb, cv⟩ := c
  have hp := ch.1
  have f : Fr (fun x => 165 ≤ x ∧ x ≤ 196) g (kpH g p ((dH d).map encS).length 149) := Fr_mono (fun x q => by omega) Fr_kpH
  refine u_keep hl ch (by decide) (by omega) (hq _ (Fr_mono (fun x q => by unfold SC; omega) f) ?_)
  have q : CvEq g (kpH g p ((dH d).map encS).length 149) := CvEq_Fr (fun b hb => by omega) f
  have n : ∀ b, ¬ (165 ≤ b ∧ b ≤ 196) → hI (kpH g p ((dH d).map encS).length 149) b = hI g b := fun b hb => f.2.2.2.2 b hb
  refine ⟨⟨a, by rw [f.2.2.2.1]; exact ca, NetV_keep (CvEq_net q) cn⟩, StV_row (n _ (by omega)) (n _ (by omega)) (n _ (by omega)) cs, ⟨(p + 1) % 10, ?_⟩, fun t ht => ImC_cong ht (CvEq_net q) (by rw [f.2.2.2.1]) (fun b b1 b2 => n b (by omega)) (ci t ht), fun k hk => ?_, ck _ _ q cv⟩
  · have hv := kpH_V ch ps
    show HiV _ _ (((s0 :: dH d).take 10).map encS)
    rw [List.map_take, List.map_cons]
    exact hv
  · rw [n 198 (by omega)]
    exact cb k hk
/-- the reference: behind stores, all as it was, and the state laid aside -/
theorem MP_235 {h g : MH} {d : DV} (f : Fr (fun b => b = 235) h g) (m : MP h d) : MP g d := MP_cong (Fr_I f (by omega) _) (f.2.2.2.2 _ (by omega)) (f.2.2.2.2 _ (by omega)) (fun b b1 b2 => f.2.2.2.2 _ (by omega)) m
theorem was_StM {h g : MH} {v : NV} {s : AS} (hv : nvC v ≤ 40) (e : ∀ k, k < 126 → hI g 235 k = hI h 224 (49 + k)) (ps : StM v s (fun k => hI h 224 (49 + k))) : StM v s (hI g 235) := StM_cong hv e ps
/-- the reference's part with another state -/
theorem MP_state {h g : MH} {d : DV} {s2 : AS} (hv : nvC (dN d) ≤ 40) (t : MDe (dN d) h s2 g) (m : MP h d) : MP g (dN d, s2, dH d, dI d) := by
  obtain ⟨m1, m2, m3, m4, m5, m6, m7⟩ := m
  have f225 : hI g 225 = hI h 225 := t.1.2.2.2.2 _ (by unfold SE; omega)
  refine ⟨m1, MDe_net m1 t m2, t.2.2.2.2, t.2.2.2.1, (t.2.2.1 _ (by omega)).trans m5, fun i s hs => StM_cong hv (fun k hk => t.2.2.1 _ (by omega)) (m6 i s hs), fun x hx => ?_⟩
  have q := m7 x hx
  show ImM g x (dI d x)
  cases hd : dI d x with
  | none =>
    rw [hd] at q
    show hI g 225 x = 0
    rw [f225]
    exact q
  | some w =>
    obtain ⟨w, s⟩ := w
    rw [hd] at q
    refine ⟨by rw [f225]; exact q.1, q.2.1, MNet_cong (fun k hk => t.2.2.1 _ (by omega)) q.2.1 q.2.2.1, ?_⟩
    have e : (fun k => hI g 224 (2337 * (x + 1) + 49 + k)) = fun k => hI h 224 (2337 * (x + 1) + 49 + k) := funext (fun k => t.2.2.1 _ (by omega))
    rw [e]
    exact q.2.2.2
theorem ImM_row {h g : MH} {t : Nat} {o : Option (NV × AS)} (e1 : hI g 225 = hI h 225) (e2 : ∀ k, 2337 ≤ k → hI g 224 k = hI h 224 k) (q : ImM h t o) : ImM g t o := by
  cases o with
  | none =>
    show hI g 225 t = 0
    rw [e1]
    exact q
  | some w =>
    obtain ⟨w, s⟩ := w
    refine ⟨by rw [e1]; exact q.1, q.2.1, MNet_cong (fun k hk => e2 _ (by omega)) q.2.1 q.2.2.1, ?_⟩
    have e : (fun k => hI g 224 (2337 * (t + 1) + 49 + k)) = fun k => hI h 224 (2337 * (t + 1) + 49 + k) := funext (fun k => e2 _ (by omega))
    rw [e]
    exact q.2.2.2
theorem m_noted {Q : MH → Prop} {h : MH} {d : DV} {s0 : AS} (hl : LX h) (hv : nvC (dN d) ≤ 40) (hd : (dH d).length ≤ 10) (pw : StM (dN d) s0 (hI h 235)) (m : MP h d) (hq : ∀ g, Fr (fun b => b = 224) h g → MP g (dN d, dS d, (s0 :: dH d).take 10, dI d) → Q g) : wX10_notes 223 h Q := by
  obtain ⟨m1, m2, m3, m4, m5, m6, m7⟩ := m
  refine m_notes hl hv pw ⟨hd, m5, m6⟩ (fun g f e no => hq g f ⟨m1, MNet_cong (fun k hk => e k (by omega)) m1 m2, RgV_row (Fr_I f (by omega) _) (f.2.2.2.2 _ (by omega)) (f.2.2.2.2 _ (by omega)) (f.2.2.2.2 _ (by omega)) (f.2.2.2.2 _ (by omega)) m3, StM_row (fun k k1 k2 => e k (by omega)) hv m4, no.2.1, no.2.2, fun t ht => ImM_row (f.2.2.2.2 _ (by omega)) (fun k hk => e k (by omega)) (m7 t ht)⟩)
theorem DOK_done {d : DV} {s2 : AS} (ok : DOK d) (o2 : AsOK (dN d) s2) : DOK (dN d, s2, (dS d :: dH d).take 10, dI d) := by
  refine ⟨o2, fun s hs => ?_, by show ((dS d :: dH d).take 10).length ≤ 10; rw [List.length_take]; omega, ok.2.2.2⟩
  have hs2 := List.mem_of_mem_take hs
  rcases List.mem_cons.mp hs2 with e | e
  · rw [e]; exact ok.1
  · exact ok.2.1 s e
theorem i64_32 (x : Int32) : x.toInt64.toInt32 = x := by simp
theorem n_copiesOf1 {Q : Int32 → MH → Prop} {g : MH} {v : NV} {s : AS} {a c : Nat} {x : Int32} (hl : LX g) (ca : hR g 128 1 = some a) (p : NetV g a v) (hr : asR s < 10) (ps : StV g 146 (encS s)) (hc : isRg v (asR s) x c) (hq : Q (nI (asC s c)) g) : wX9_copiesOf 128 x g Q := by
  have h4 := p.1.1
  have hc1 := hc.1
  have e0 : hI g 146 0 = nI (asR s) := ps.1
  refine ⟨S_128 hl, a, ca, 146, R_128_2 hl, S_146 hl, p.2.1, ?_⟩
  rw [e0]
  refine n_cycleOf1 p hr hc ⟨fun _ => ⟨S_128 hl, 146, R_128_2 hl, S_146 hl, 147, R_146_2 hl, 40, S_147 hl, vp_in_nI (by omega) (by omega), ?_⟩, fun z => absurd (nI_pos' (by omega)) z⟩
  rw [nI_clamp (by omega), show hI g 147 c = nI (asC s c) from ps.2.2.1 c (by omega)]
  exact hq
theorem n_copiesOf0 {Q : Int32 → MH → Prop} {g : MH} {v : NV} {s : AS} {a : Nat} {x : Int32} (hl : LX g) (ca : hR g 128 1 = some a) (p : NetV g a v) (hr : asR s < 10) (ps : StV g 146 (encS s)) (hc : ¬ ∃ c, isRg v (asR s) x c) (hq : Q (nI 0) g) : wX9_copiesOf 128 x g Q := by
  have e0 : hI g 146 0 = nI (asR s) := ps.1
  refine ⟨S_128 hl, a, ca, 146, R_128_2 hl, S_146 hl, p.2.1, ?_⟩
  rw [e0]
  exact n_cycleOf0 p hr hc ⟨fun z => absurd z (by decide), fun _ => hq⟩
theorem dLay_rest (v : NV) (s : AS) (c : Nat) : asR (dLay v s c) = asR s ∧ asC (dLay v s c) c = asC s c + 1 := by
  have h1 := tryA_rest v (nvL v) (clL s c)
  refine ⟨h1.1, ?_⟩
  show asC (tryA v (nvL v) (clL s c)) c = _
  rw [h1.2.2]
  exact if_pos rfl
theorem dTake_rest (v : NV) (s : AS) (c : Nat) : asR (dTake v s c) = asR s ∧ asC (dTake v s c) c = asC s c - 1 := by
  have h1 := tryA_rest v (nvL v) (clT s c 20)
  refine ⟨h1.1, ?_⟩
  show asC (tryA v (nvL v) (clT s c 20)) c = _
  rw [h1.2.2]
  exact if_pos rfl
theorem why_lay1 {Q : Int32 → MH → Prop} {h : MH} {v : NV} {s : AS} {x : Int32} (hl : LX h) (hv : NvOK v) (ok : AsOK v s) (pr : RgV h v (asR s)) (ps : StM v s (fun k => hI h 224 (49 + k))) (k1 : (¬ ∃ c, isRg v (asR s) x c) → Q (nI 1) h) (k2 : ∀ c, isRg v (asR s) x c → asC s c = 9 → Q (nI 2) h) (k3 : ∀ c, isRg v (asR s) x c → asC s c < 9 → Q (nI 0) h) : wX10_whyLay 223 x.toInt64 h Q := by
  have h4 := hv.1
  refine ⟨S_223 hl, ?_⟩
  rcases Classical.em (∃ c, isRg v (asR s) x c) with ⟨c, hc⟩ | hc
  · have hlt := isRg_lt hv hc
    have hc1 := hc.1
    have hc9 := (ok.2.2.1 c (by omega)).1
    refine m_isRing1 hl hv pr hc ⟨fun _ => ⟨S_223 hl, 224, R_223_1 hl, 7011, S_224 hl, ?_, ?_⟩, fun z => absurd z (by decide)⟩
    · rw [i64_32, hc.2.2, nI_add]; exact vp_in_nI (by omega) (by omega)
    · have es : hI h 224 (49 + bcN (nvMy v (asR s)) c) = nI (asC s c) := ps.1 c hc.1 hc.2.1
      rw [i64_32]
      have ex : (nI 49 + x).toNatClampNeg = 49 + bcN (nvMy v (asR s)) c := by rw [hc.2.2, nI_add, nI_clamp (by omega)]
      rw [ex, es]
      by_cases q : asC s c = 9
      · rw [if_pos (by rw [q])]; exact k2 c hc q
      · rw [if_neg (fun z => q ((nI_eq (by omega) (by omega)).mp z))]; exact k3 c hc (by omega)
  · exact m_isRing0 hl hv pr hc ⟨fun z => absurd nI_0 z, fun _ => k1 hc⟩
theorem why_take1 {Q : Int32 → MH → Prop} {h : MH} {v : NV} {s : AS} {x : Int32} (hl : LX h) (hv : NvOK v) (ok : AsOK v s) (pr : RgV h v (asR s)) (ps : StM v s (fun k => hI h 224 (49 + k))) (k1 : (¬ ∃ c, isRg v (asR s) x c) → Q (nI 1) h) (k2 : ∀ c, isRg v (asR s) x c → asC s c = 0 → Q (nI 2) h) (k3 : ∀ c, isRg v (asR s) x c → 0 < asC s c → Q (nI 0) h) : wX10_whyTake 223 x.toInt64 h Q := by
  have h4 := hv.1
  refine ⟨S_223 hl, ?_⟩
  rcases Classical.em (∃ c, isRg v (asR s) x c) with ⟨c, hc⟩ | hc
  · have hlt := isRg_lt hv hc
    have hc1 := hc.1
    have hc9 := (ok.2.2.1 c (by omega)).1
    refine m_isRing1 hl hv pr hc ⟨fun _ => ⟨S_223 hl, 224, R_223_1 hl, 7011, S_224 hl, ?_, ?_⟩, fun z => absurd z (by decide)⟩
    · rw [i64_32, hc.2.2, nI_add]; exact vp_in_nI (by omega) (by omega)
    · have es : hI h 224 (49 + bcN (nvMy v (asR s)) c) = nI (asC s c) := ps.1 c hc.1 hc.2.1
      rw [i64_32]
      have ex : (nI 49 + x).toNatClampNeg = 49 + bcN (nvMy v (asR s)) c := by rw [hc.2.2, nI_add, nI_clamp (by omega)]
      rw [ex, es]
      by_cases q : asC s c = 0
      · rw [if_pos (by rw [q]; exact nI_0)]; exact k2 c hc q
      · rw [if_neg (fun z => q ((nI_eq0 (by omega)).mp z))]; exact k3 c hc (by omega)
  · exact m_isRing0 hl hv pr hc ⟨fun z => absurd nI_0 z, fun _ => k1 hc⟩
theorem why_fail1 {Q : Int32 → MH → Prop} {h : MH} {v : NV} {s : AS} {x : Int32} (hl : LX h) (hv : NvOK v) (ok : AsOK v s) (pn : MNet (hI h 224) v) (ps : StM v s (fun k => hI h 224 (49 + k))) (k1 : (¬ ∃ l, isLk v x l) → Q (nI 1) h) (k2 : ∀ l, isLk v x l → bt (asF s) l = 1 → Q (nI 2) h) (k3 : ∀ l, isLk v x l → bt (asF s) l = 0 → Q (nI 0) h) : wX10_whyFail 223 x.toInt64 h Q := by
  have h4 := hv.1
  refine ⟨S_223 hl, ?_⟩
  rcases Classical.em (∃ l, isLk v x l) with ⟨l, hk⟩ | hk
  · have hk1 := hk.1
    refine m_isLink1 hl (by omega) pn hk ⟨fun _ => ⟨S_223 hl, ?_⟩, fun z => absurd z (by decide)⟩
    rw [i64_32, hk.2]
    refine m_failed hl ok (by omega) ps (by omega) ?_
    rcases bt01 (asF s) l with q | q
    · rw [q, if_pos nI_0]; exact k3 l hk q
    · rw [q, if_neg (by decide)]; exact k2 l hk q
  · exact m_isLink0 hl (by omega) pn hk ⟨fun z => absurd nI_0 z, fun _ => k1 hk⟩
theorem why_mend1 {Q : Int32 → MH → Prop} {h : MH} {v : NV} {s : AS} {x : Int32} (hl : LX h) (hv : NvOK v) (ok : AsOK v s) (pn : MNet (hI h 224) v) (ps : StM v s (fun k => hI h 224 (49 + k))) (k1 : (¬ ∃ l, isLk v x l) → Q (nI 1) h) (k2 : ∀ l, isLk v x l → bt (asF s) l = 0 → Q (nI 2) h) (k3 : ∀ l, isLk v x l → bt (asF s) l = 1 → Q (nI 0) h) : wX10_whyMend 223 x.toInt64 h Q := by
  have h4 := hv.1
  refine ⟨S_223 hl, ?_⟩
  rcases Classical.em (∃ l, isLk v x l) with ⟨l, hk⟩ | hk
  · have hk1 := hk.1
    refine m_isLink1 hl (by omega) pn hk ⟨fun _ => ⟨S_223 hl, ?_⟩, fun z => absurd z (by decide)⟩
    rw [i64_32, hk.2]
    refine m_failed hl ok (by omega) ps (by omega) ?_
    rcases bt01 (asF s) l with q | q
    · rw [q, if_pos nI_0]; exact k2 l hk q
    · rw [q, if_neg (by decide)]; exact k3 l hk q
  · exact m_isLink0 hl (by omega) pn hk ⟨fun z => absurd nI_0 z, fun _ => k1 hk⟩
/-- before.copyFrom(now): nothing that counts has changed -/
theorem CP_before {CV : MH → Prop} (ck : ∀ h h1, CvEq h h1 → CV h → CV h1) {h : MH} {d : DV} (c : CP CV h d) : CP CV (cpS h 149 146) d ∧ StV (cpS h 149 146) 149 (encS (dS d)) ∧ Fr SC h (cpS h 149 146) :=
  ⟨CP_move ck Fr_cpS (fun b q => by omega) c, cpS_new c.2.1, Fr_mono (fun b q => by unfold SC; omega) Fr_cpS⟩
