/-! ===== the reference keeps, brings back, notes; its rate ===== -/
/-- stores: the state's 126 numbers laid aside -/
theorem m_stores {Q : MH → Prop} {h : MH} (hl : LX h) (hq : ∀ g, Fr (fun b => b = 235) h g → (∀ k, k < 126 → hI g 235 k = hI h 224 (49 + k)) → Q g) : wX10_stores 223 h Q := by
  have lp : ∀ n i g, i + n = 126 → Fr (fun b => b = 235) h g → (∀ k, k < i → hI g 235 k = hI h 224 (49 + k)) → wX10_stores_2 Q (n + 1) 223 (nI i) g := by
    intro n
    induction n with
    | zero =>
      intro i g hi f p
      have hi : i = 126 := by omega
      subst hi
      unfold wX10_stores_2
      exact ⟨fun _ => hq g f p, fun z => absurd (nI_le (by omega) (by omega)) z⟩
    | succ n ih =>
      intro i g hi f p
      have hlg := LX_Fr f hl
      unfold wX10_stores_2
      simp only [nI_add]
      rw [nI_clamp (by omega), nI_clamp (by omega)]
      refine ⟨fun z => absurd z (nI_ge (by omega) (by omega)), fun _ => ⟨S_223 hlg, 235, R_223_24 hlg, 224, R_223_1 hlg, 7011, S_224 hlg, vp_in_nI (by omega) (by omega), 126, S_235 hlg, vp_in_nI (by omega) (by omega), fun _ e => ?_⟩⟩
      subst e
      refine ih (i + 1) _ (by omega) (Fr_trans f (Fr_sI rfl)) (fun k hk => ?_)
      rw [hI_sI]
      by_cases q : k = i
      · rw [if_pos ⟨rfl, q⟩, q, Fr_I f (by omega)]
      · rw [if_neg (fun z => q z.2)]
        exact p k (by omega)
  exact ⟨127, lp 126 0 h (by omega) (Fr_rfl _ _) (fun k hk => absurd hk (by omega))⟩
/-- what a deed of the reference may change: its rings, the numbers of the state -/
def SE (b : Nat) : Prop := b = 223 ∨ b = 224 ∨ (228 ≤ b ∧ b ≤ 234)
def MDe (v : NV) (h : MH) (s : AS) (g : MH) : Prop := Fr SE h g ∧ (∀ k, k ≠ 23 → hI g 223 k = hI h 223 k) ∧ (∀ k, (k < 49 ∨ 175 ≤ k) → hI g 224 k = hI h 224 k) ∧ StM v s (fun k => hI g 224 (49 + k)) ∧ RgV g v (asR s)
theorem MDe_MTr {v : NV} {h g : MH} {s : AS} (t : MTr v h s g) (pr : RgV h v (asR s)) : MDe v h s g := ⟨Fr_mono (fun b q => Or.inr (Or.inl q)) t.1, fun k _ => Fr_I t.1 (by omega) k, t.2.1, t.2.2, MTr_rg t pr⟩
theorem MDe_trans {v : NV} {h g g2 : MH} {s s2 : AS} (t : MDe v h s g) (t2 : MDe v g s2 g2) : MDe v h s2 g2 := ⟨Fr_trans t.1 t2.1, fun k hk => (t2.2.1 k hk).trans (t.2.1 k hk), fun k hk => (t2.2.2.1 k hk).trans (t.2.2.1 k hk), t2.2.2.2.1, t2.2.2.2.2⟩
theorem MDe_rfl {v : NV} {h : MH} {s : AS} (ps : StM v s (fun k => hI h 224 (49 + k))) (pr : RgV h v (asR s)) : MDe v h s h := ⟨Fr_rfl _ _, fun _ _ => rfl, fun _ _ => rfl, ps, pr⟩
theorem MDe_net {v : NV} {h g : MH} {s : AS} (hv : nvL v ≤ 10) (t : MDe v h s g) (pn : MNet (hI h 224) v) : MNet (hI g 224) v := MNet_cong (fun k hk => t.2.2.1 k (by omega)) hv pn
theorem FrM_MDe {v : NV} {h g : MH} {s : AS} (t : MDe v h s g) : FrM h g := ⟨Fr_mono (fun b q => by unfold SE at q; unfold SM; omega) t.1, fun k _ hk => t.2.1 k (by omega)⟩
theorem laysR {Q : MH → Prop} {h : MH} {v : NV} {r : Nat} (hl : LX h) (pn : MNet (hI h 224) v) (hr : r < 10) (er : hI h 224 114 = nI r) (hq : ∀ h1, FrL h h1 → RgV h1 v r → Q h1) : wX10_laysRings 223 h Q :=
  pn.2.2.2.2.1 h r hl hr (fun _ _ => rfl) er Q hq
theorem StM_FrL {v : NV} {h g : MH} {s : AS} (f : FrL h g) (ps : StM v s (fun k => hI h 224 (49 + k))) : StM v s (fun k => hI g 224 (49 + k)) := by
  rw [f.1.2.2.2.2 224 (by omega)]
  exact ps
/-- isAgain: the laid-aside state comes back -/
theorem m_isAgain {Q : MH → Prop} {h : MH} {v : NV} {s s2 : AS} (hl : LX h) (hv : NvOK v) (pn : MNet (hI h 224) v) (pr : RgV h v (asR s2)) (ok : AsOK v s) (ok2 : AsOK v s2) (er : hI h 224 114 = nI (asR s2)) (pw : StM v s (hI h 235)) (hq : ∀ g, MDe v h s g → Q g) : wX10_isAgain 223 h Q := by
  have h4 := hv.1
  have o1 := ok.1
  have o2 := ok2.1
  have ew : hI h 235 65 = nI (asR s) := pw.2.2.1
  unfold wX10_isAgain
  rw [show (nI 114).toNatClampNeg = 114 from by decide, show (nI 65).toNatClampNeg = 65 from by decide]
  refine ⟨S_223 hl, 224, R_223_1 hl, 7011, S_224 hl, vp_in_nI (by omega) (by omega), 235, R_223_24 hl, 126, S_235 hl, vp_in_nI (by omega) (by omega), fun x e => ⟨127, ?_⟩⟩
  rw [er, ew] at e
  have lp : ∀ n i g, i + n = 126 → Fr (fun b => b = 224) h g → (∀ k, (k < 49 ∨ 175 ≤ k) → hI g 224 k = hI h 224 k) → (∀ k, k < i → hI g 224 (49 + k) = hI h 235 k) → wX10_isAgain_25 Q (n + 1) 223 x (nI i) g := by
    intro n
    induction n with
    | zero =>
      intro i g hi f p1 p2
      have hi : i = 126 := by omega
      subst hi
      have hlg := LX_Fr f hl
      have psg : StM v s (fun k => hI g 224 (49 + k)) := by
        refine ⟨fun c hc hb => ?_, ?_, ?_, fun u j hu hj => ?_⟩
        · have := bcN_le (asM v s) c
          exact (p2 _ (by omega)).trans (pw.1 c hc hb)
        · exact (p2 64 (by omega)).trans pw.2.1
        · exact (p2 65 (by omega)).trans pw.2.2.1
        · exact (p2 _ (by omega)).trans (pw.2.2.2 u j hu hj)
      have rg : RgV g v (asR s2) := RgV_row (Fr_I f (by omega) _) (f.2.2.2.2 _ (by omega)) (f.2.2.2.2 _ (by omega)) (f.2.2.2.2 _ (by omega)) (f.2.2.2.2 _ (by omega)) pr
      have fe : Fr SE h g := Fr_mono (fun b q => Or.inr (Or.inl q)) f
      unfold wX10_isAgain_25
      refine ⟨fun _ => ⟨fun z => hq g ⟨fe, fun k _ => Fr_I f (by omega) k, p1, psg, ?_⟩, fun z => ⟨S_223 hlg, laysR (r := asR s) hlg (MNet_cong (fun k hk => p1 k (by omega)) (by omega) pn) o1 psg.2.2.1 (fun g2 f2 rg2 => hq g2 ⟨Fr_trans fe (Fr_mono (fun b q => by unfold SE; omega) f2.1), fun k hk => (f2.2 k hk).trans (Fr_I f (by omega) k), fun k hk => (Fr_I f2.1 (by omega) k).trans (p1 k hk), StM_FrL f2 psg, rg2⟩)⟩⟩, fun z => absurd (nI_le (by omega) (by omega)) z⟩
      by_cases q : nI (asR s2) = nI (asR s)
      · rw [← (nI_eq (by omega) (by omega)).mp q]
        exact rg
      · rw [if_neg q] at e
        rw [e] at z
        exact absurd z (by decide)
    | succ n ih =>
      intro i g hi f p1 p2
      have hlg := LX_Fr f hl
      unfold wX10_isAgain_25
      simp only [nI_add]
      rw [nI_clamp (by omega), nI_clamp (by omega)]
      refine ⟨fun z => absurd z (nI_ge (by omega) (by omega)), fun _ => ⟨S_223 hlg, 224, R_223_1 hlg, 235, R_223_24 hlg, 126, S_235 hlg, vp_in_nI (by omega) (by omega), 7011, S_224 hlg, vp_in_nI (by omega) (by omega), fun _ e2 => ?_⟩⟩
      subst e2
      refine ih (i + 1) _ (by omega) (Fr_trans f (Fr_sI rfl)) (fun k hk => ?_) (fun k hk => ?_)
      · rw [hI_sI, if_neg (by omega)]
        exact p1 k hk
      · rw [hI_sI]
        by_cases q : k = i
        · rw [if_pos ⟨rfl, by omega⟩, q, Fr_I f (by omega)]
        · rw [if_neg (by omega)]
          exact p2 k (by omega)
  exact lp 126 0 h (by omega) (Fr_rfl _ _) (fun _ _ => rfl) (fun k hk => absurd hk (by omega))
/-- the deeds noted, each a row of 126; the latest first -/
def NoV (h : MH) (v : NV) (l : List AS) : Prop := l.length ≤ 10 ∧ hI h 224 175 = nI l.length ∧ ∀ i s, l[i]? = some s → StM v s (fun k => hI h 224 (176 + 126 * (l.length - 1 - i) + k))
theorem StM_cong {v : NV} {s : AS} {f g : Nat → Int32} (hv : nvC v ≤ 40) (e : ∀ k, k < 126 → g k = f k) (p : StM v s f) : StM v s g := by
  refine ⟨fun c hc hb => ?_, ?_, ?_, fun u j hu hj => ?_⟩
  · have := bcN_le (asM v s) c
    exact (e _ (by omega)).trans (p.1 c hc hb)
  · exact (e _ (by omega)).trans p.2.1
  · exact (e _ (by omega)).trans p.2.2.1
  · exact (e _ (by omega)).trans (p.2.2.2 u j hu hj)
theorem notes62 {Q : MH → Prop} {h : MH} {n0 : Nat} (hl : LX h) (hn : n0 < 10) (e0 : hI h 224 175 = nI n0) (hq : ∀ g, Fr (fun b => b = 224) h g → (∀ k, k ≠ 175 → (k < 176 + 126 * n0 ∨ 302 + 126 * n0 ≤ k) → hI g 224 k = hI h 224 k) → hI g 224 175 = nI (n0 + 1) → (∀ k, k < 126 → hI g 224 (176 + 126 * n0 + k) = hI h 235 k) → Q g) : ∃ m, wX10_notes_62 Q m 223 (nI 0) h := by
  have lp : ∀ n i g, i + n = 126 → Fr (fun b => b = 224) h g → (∀ k, (k < 176 + 126 * n0 ∨ 302 + 126 * n0 ≤ k) → hI g 224 k = hI h 224 k) → (∀ k, k < i → hI g 224 (176 + 126 * n0 + k) = hI h 235 k) → wX10_notes_62 Q (n + 1) 223 (nI i) g := by
    intro n
    induction n with
    | zero =>
      intro i g hi f p1 p2
      have hi : i = 126 := by omega
      subst hi
      have hlg := LX_Fr f hl
      unfold wX10_notes_62
      rw [show (nI 175).toNatClampNeg = 175 from by decide]
      refine ⟨fun _ => ⟨S_223 hlg, 224, R_223_1 hlg, 7011, S_224 hlg, vp_in_nI (by omega) (by omega), vp_in_nI (by omega) (by omega), fun _ e => ?_⟩, fun z => absurd (nI_le (by omega) (by omega)) z⟩
      rw [p1 175 (by omega), e0, nI_add] at e
      subst e
      refine hq _ (Fr_trans f (Fr_sI rfl)) (fun k k1 k2 => ?_) ?_ (fun k hk => ?_)
      · rw [hI_sI, if_neg (by omega)]
        exact p1 k k2
      · rw [hI_sI, if_pos ⟨rfl, rfl⟩]
      · rw [hI_sI, if_neg (by omega)]
        exact p2 k hk
    | succ n ih =>
      intro i g hi f p1 p2
      have hlg := LX_Fr f hl
      unfold wX10_notes_62
      rw [show (nI 175).toNatClampNeg = 175 from by decide]
      refine ⟨fun z => absurd z (nI_ge (by omega) (by omega)), fun _ => ⟨S_223 hlg, 224, R_223_1 hlg, 7011, S_224 hlg, vp_in_nI (by omega) (by omega), 235, R_223_24 hlg, 126, S_235 hlg, vp_in_nI (by omega) (by omega), ?_⟩⟩
      rw [p1 175 (by omega), e0]
      simp only [nI_mul, nI_add]
      rw [nI_clamp (by omega), nI_clamp (by omega)]
      refine ⟨vp_in_nI (by omega) (by omega), fun _ e => ?_⟩
      subst e
      refine ih (i + 1) _ (by omega) (Fr_trans f (Fr_sI rfl)) (fun k hk => ?_) (fun k hk => ?_)
      · rw [hI_sI, if_neg (by omega)]
        exact p1 k hk
      · rw [hI_sI]
        by_cases q : k = i
        · rw [if_pos ⟨rfl, by omega⟩, q, Fr_I f (by omega)]
        · rw [if_neg (by omega)]
          exact p2 k (by omega)
  exact ⟨127, lp 126 0 h (by omega) (Fr_rfl _ _) (fun _ _ => rfl) (fun k hk => absurd hk (by omega))⟩
theorem notes15 {Q : MH → Prop} {h : MH} (hl : LX h) (e0 : hI h 224 175 = nI 10) (hq : ∀ g, Fr (fun b => b = 224) h g → (∀ k, k ≠ 175 → (k < 176 ∨ 1310 ≤ k) → hI g 224 k = hI h 224 k) → hI g 224 175 = nI 9 → (∀ k, k < 1134 → hI g 224 (176 + k) = hI h 224 (302 + k)) → ∃ m, wX10_notes_62 Q m 223 (nI 0) g) : ∃ m, wX10_notes_15 Q m 223 (nI 0) h := by
  have lp : ∀ n i g, i + n = 1134 → Fr (fun b => b = 224) h g → (∀ k, (k < 176 ∨ 176 + i ≤ k) → hI g 224 k = hI h 224 k) → (∀ k, k < i → hI g 224 (176 + k) = hI h 224 (302 + k)) → wX10_notes_15 Q (n + 1) 223 (nI i) g := by
    intro n
    induction n with
    | zero =>
      intro i g hi f p1 p2
      have hi : i = 1134 := by omega
      subst hi
      have hlg := LX_Fr f hl
      unfold wX10_notes_15
      rw [show (nI 175).toNatClampNeg = 175 from by decide]
      refine ⟨fun _ => ⟨S_223 hlg, 224, R_223_1 hlg, 7011, S_224 hlg, vp_in_nI (by omega) (by omega), vp_in_nI (by omega) (by omega), fun _ e => ?_⟩, fun z => absurd (nI_le (by omega) (by omega)) z⟩
      rw [p1 175 (by omega), e0, nI_subN (by omega)] at e
      subst e
      refine hq _ (Fr_trans f (Fr_sI rfl)) (fun k k1 k2 => ?_) ?_ (fun k hk => ?_)
      · rw [hI_sI, if_neg (by omega)]
        exact p1 k (by omega)
      · rw [hI_sI, if_pos ⟨rfl, rfl⟩]
      · rw [hI_sI, if_neg (by omega)]
        exact p2 k hk
    | succ n ih =>
      intro i g hi f p1 p2
      have hlg := LX_Fr f hl
      unfold wX10_notes_15
      simp only [nI_add]
      rw [nI_clamp (by omega), nI_clamp (by omega)]
      refine ⟨fun z => absurd z (nI_ge (by omega) (by omega)), fun _ => ⟨S_223 hlg, 224, R_223_1 hlg, 7011, S_224 hlg, vp_in_nI (by omega) (by omega), vp_in_nI (by omega) (by omega), fun _ e => ?_⟩⟩
      subst e
      refine ih (i + 1) _ (by omega) (Fr_trans f (Fr_sI rfl)) (fun k hk => ?_) (fun k hk => ?_)
      · rw [hI_sI, if_neg (by omega)]
        exact p1 k (by omega)
      · rw [hI_sI]
        by_cases q : k = i
        · rw [if_pos ⟨rfl, by omega⟩, q, nI_clamp (by omega)]
          exact p1 (302 + i) (by omega)
        · rw [if_neg (by omega)]
          exact p2 k (by omega)
  exact ⟨1135, lp 1134 0 h (by omega) (Fr_rfl _ _) (fun _ _ => rfl) (fun k hk => absurd hk (by omega))⟩
/-- notes: the laid-aside state comes to the head of the deeds -/
theorem m_notes {Q : MH → Prop} {h : MH} {v : NV} {s : AS} {l : List AS} (hl : LX h) (hv : nvC v ≤ 40) (pw : StM v s (hI h 235)) (no : NoV h v l) (hq : ∀ g, Fr (fun b => b = 224) h g → (∀ k, (k < 175 ∨ 1436 ≤ k) → hI g 224 k = hI h 224 k) → NoV g v ((s :: l).take 10) → Q g) : wX10_notes 223 h Q := by
  obtain ⟨n1, n2, n3⟩ := no
  unfold wX10_notes
  rw [show (nI 175).toNatClampNeg = 175 from by decide]
  refine ⟨S_223 hl, 224, R_223_1 hl, 7011, S_224 hl, vp_in_nI (by omega) (by omega), ?_⟩
  rw [n2, nI_eq (by omega) (by omega)]
  refine ⟨fun z => notes62 hl (by omega) n2 (fun g f p1 p2 p3 => hq g f (fun k hk => p1 k (by omega) (by omega)) ?_), fun z => notes15 hl (by rw [n2, z]) (fun g f p1 p2 p3 => notes62 (LX_Fr f hl) (by omega) p2 (fun g2 f2 q1 q2 q3 => hq g2 (Fr_trans f f2) (fun k hk => (q1 k (by omega) (by omega)).trans (p1 k (by omega) (by omega))) ?_))⟩
  · rw [List.take_of_length_le (by rw [List.length_cons]; omega)]
    refine ⟨by rw [List.length_cons]; omega, by rw [List.length_cons]; exact p2, fun i w hw => ?_⟩
    rw [List.length_cons]
    cases i with
    | zero =>
      rw [List.getElem?_cons_zero] at hw
      injection hw with hw
      subst hw
      refine StM_cong hv (fun k hk => ?_) pw
      rw [show l.length + 1 - 1 - 0 = l.length from by omega]
      exact p3 k hk
    | succ i =>
      rw [List.getElem?_cons_succ] at hw
      have hlt : i < l.length := (List.getElem?_eq_some_iff.mp hw).1
      refine StM_cong hv (fun k hk => ?_) (n3 i w hw)
      rw [show l.length + 1 - 1 - (i + 1) = l.length - 1 - i from by omega]
      exact p1 _ (by omega) (by omega)
  · have tl : ((s :: l).take 10).length = 10 := by
      rw [List.length_take, List.length_cons]
      omega
    refine ⟨by omega, by rw [tl]; exact q2, fun i w hw => ?_⟩
    rw [tl]
    rw [List.getElem?_take] at hw
    have hi : i < 10 := by
      apply Classical.byContradiction
      intro y
      rw [if_neg y] at hw
      exact absurd hw (by simp)
    rw [if_pos hi] at hw
    cases i with
    | zero =>
      rw [List.getElem?_cons_zero] at hw
      injection hw with hw
      subst hw
      refine StM_cong hv (fun k hk => ?_) pw
      rw [show 10 - 1 - 0 = 9 from by omega]
      exact (q3 k hk).trans (Fr_I f (by omega) k)
    | succ i =>
      rw [List.getElem?_cons_succ] at hw
      refine StM_cong hv (fun k hk => ?_) (n3 i w hw)
      rw [q1 _ (by omega) (by omega), show 176 + 126 * (10 - 1 - (i + 1)) + k = 176 + (126 * (8 - i) + k) from by omega, p3 _ (by omega)]
      congr 1
      omega
