/-! ===== lost units ===== -/
def lostU (s : AS) (l u : Nat) : Nat := if bt (asF s) l = 1 ∧ asW s (2 * l + u) = none then 1 else 0
def lostL (v : NV) (s : AS) (l : Nat) : Nat := sumC (lostU s l) (nvW v l)
def lostA (v : NV) (s : AS) : Nat := sumC (lostL v s) (nvL v)
theorem sumC_zero {f : Nat → Nat} : ∀ n, (∀ k, k < n → f k = 0) → sumC f n = 0
  | 0, _ => rfl
  | n + 1, h => by
    show sumC f n + f n = 0
    rw [sumC_zero n (fun k hk => h k (by omega)), h n (by omega)]
theorem lostL_zero {v : NV} {s : AS} {l : Nat} (h : bt (asF s) l = 0) : ∀ n, sumC (lostU s l) n = 0 := fun n => sumC_zero n (fun k _ => if_neg (fun q => by omega))
theorem encW_neg {v : NV} {s : AS} {u : Nat} (ok : AsOK v s) (hv : nvC v ≤ 40) (hu : u < 20) : (0 ≤ encW (asW s u)) ↔ asW s u ≠ none := by
  cases e : asW s u with
  | none => exact ⟨fun q => absurd q (by decide), fun q => absurd rfl q⟩
  | some w =>
    obtain ⟨c, k, p⟩ := w
    have q := ok.2.2.2 u hu c k p e
    have q2 := (ok.2.2.1 c (by omega)).1
    refine ⟨fun _ => by simp, fun _ => ?_⟩
    show 0 ≤ nI ((9 * c + k) * 1024 + p)
    rw [Int32.le_iff_toInt_le, i0_toInt, nI_toInt (by omega)]
    omega
theorem StM_run {v : NV} {s : AS} {h : MH} {u j : Nat} (ps : StM v s (fun k => hI h 224 (49 + k))) (hu : u < 20) (hj : j < 3) : hI h 224 (115 + 3 * u + j) = runM (asM v s) (asW s u) j := by
  have q := ps.2.2.2 u j hu hj
  rw [← q]
  show _ = hI h 224 (49 + (66 + 3 * u + j))
  congr 1
  omega
theorem StM_F {v : NV} {s : AS} {h : MH} (ps : StM v s (fun k => hI h 224 (49 + k))) : hI h 224 113 = nI (asF s) := ps.2.1
theorem StM_R {v : NV} {s : AS} {h : MH} (ps : StM v s (fun k => hI h 224 (49 + k))) : hI h 224 114 = nI (asR s) := ps.2.2.1
theorem runM0 {v : NV} {s : AS} {u : Nat} (ok : AsOK v s) (hv : nvC v ≤ 40) (hu : u < 20) : (runM (asM v s) (asW s u) 0 = 0) ↔ asW s u = none := by
  cases e : asW s u with
  | none => exact ⟨fun _ => rfl, fun _ => rfl⟩
  | some w =>
    obtain ⟨c, k, p⟩ := w
    have q := ok.2.2.2 u hu c k p e
    have b := bcN_le (asM v s) c
    refine ⟨fun z => ?_, fun z => absurd z (by simp)⟩
    have z2 : nI (bcN (asM v s) c + 1) = nI 0 := z.trans nI_0.symm
    have := (nI_eq (by omega) (by omega)).mp z2
    omega
theorem asF_lt {v : NV} {s : AS} (ok : AsOK v s) (hv : nvL v ≤ 10) : asF s < 1024 := lt_of_pow ok.2.1 hv
theorem n_failed {Q : Int32 → MH → Prop} {h : MH} {v : NV} {s : AS} {b l : Nat} (hl : LX h) (ok : AsOK v s) (hv : nvL v ≤ 10) (hb : b ∈ stL) (ps : StV h b (encS s)) (h1 : l < 32) (hq : Q (nI (bt (asF s) l)) h) : wX6_hasFailed b (nI l) h Q :=
  u_cfailed (st_S hl hb).1 (by have := asF_lt ok hv; omega) ps.2.1 h1 hq
theorem m_failed {Q : Int32 → MH → Prop} {h : MH} {v : NV} {s : AS} {l : Nat} (hl : LX h) (ok : AsOK v s) (hv : nvL v ≤ 10) (ps : StM v s (fun k => hI h 224 (49 + k))) (h1 : l < 32) (hq : Q (nI (bt (asF s) l)) h) : wX10_hasFailed 223 (nI l) h Q :=
  u_mfailed hl (by have := asF_lt ok hv; omega) (StM_F ps) h1 hq
theorem nI_mul (a b : Nat) : nI a * nI b = nI (a * b) := (Int32.ofNat_mul _ _).symm
theorem n_lostOf_loop {Q : Int32 → MH → Prop} {h : MH} {v : NV} {s : AS} {a b l : Nat} (hl : LX h) (p : NetV h a v) (ok : AsOK v s) (hb : b ∈ stL) (ps : StV h b (encS s)) (hl2 : l < nvL v) (hq : Q (nI (lostL v s l)) h) : ∀ n u, u + n = nvW v l → wX7_lostOf_6 Q (n + 1) a b (nI l) (nI (sumC (lostU s l) u)) (nI u) h := by
  obtain ⟨p0, p1, p2, p3, p4, p5, p6, w, w1, w2, w3, w4, w5, w6, w7⟩ := p
  have h4 := p0.1
  have h5 := p0.2.1 l hl2
  have st := st_S hl hb
  intro n
  induction n with
  | zero =>
    intro u hu
    have hu : u = nvW v l := by omega
    subst hu
    unfold wX7_lostOf_6
    refine ⟨p1, w 7, (w1 7 (by omega) (by omega) (by omega)).1, 10, w2.2.2.2.1, vp_in_nI (by omega) (by omega), ?_⟩
    rw [nI_clamp (by omega), (w3 l hl2).2.2.2]
    exact ⟨fun _ => hq, fun z => absurd (nI_le (Nat.le_refl _) (by omega)) z⟩
  | succ n ih =>
    intro u hu
    have g := ih (u + 1) (by omega)
    unfold wX7_lostOf_6
    refine ⟨p1, w 7, (w1 7 (by omega) (by omega) (by omega)).1, 10, w2.2.2.2.1, vp_in_nI (by omega) (by omega), ?_⟩
    rw [nI_clamp (by omega), (w3 l hl2).2.2.2]
    refine ⟨fun z => absurd z (nI_ge (by omega) (by omega)), fun _ => ⟨st.1, n_failed hl ok (by omega) hb ps (by omega) ⟨fun z => ?_, fun z => ⟨st.1, b + 2, st.2.2.2.2, 20, st.2.2.1, ?_, fun _ e => ?_⟩⟩⟩⟩
    · have b0 : bt (asF s) l = 0 := (nI_eq (by have := bt_lt (asF s) l; omega) (by omega)).mp (z.trans nI_0.symm)
      rw [lostL_zero (v := v) b0]
      have hq2 := hq
      unfold lostL at hq2
      rw [lostL_zero (v := v) b0] at hq2
      exact hq2
    · rw [nI_mul, nI_add]
      exact vp_in_nI (by omega) (by omega)
    · have b1 : bt (asF s) l = 1 := by
        rcases bt01 (asF s) l with q | q
        · rw [q] at z; exact absurd nI_0 z
        · exact q
      have es : hI h (b + 2) (l * 2 + u) = encW (asW s (l * 2 + u)) := ps.2.2.2 _ (by omega)
      rw [nI_mul, nI_add, nI_clamp (by omega), es] at e
      have el : sumC (lostU s l) (u + 1) = sumC (lostU s l) u + lostU s l u := rfl
      have en := encW_neg (u := l * 2 + u) ok (by omega) (by omega)
      have ec : l * 2 + u = 2 * l + u := by omega
      rw [nI_add]
      by_cases c : asW s (l * 2 + u) = none
      · rw [if_neg (fun q => (en.mp q) c), nI_add] at e
        subst e
        have el2 : lostU s l u = 1 := if_pos ⟨b1, by rw [← ec]; exact c⟩
        rw [el, el2] at g
        exact g
      · rw [if_pos (en.mpr c), nI_add] at e
        subst e
        have el2 : lostU s l u = 0 := if_neg (fun q => c (by rw [ec]; exact q.2))
        rw [el, el2] at g
        exact g
theorem n_lostOf {Q : Int32 → MH → Prop} {h : MH} {v : NV} {s : AS} {a b l x : Nat} (hl : LX h) (p : NetV h a v) (ok : AsOK v s) (hb : b ∈ stL) (ps : StV h b (encS s)) (hl2 : l < nvL v) (hq : Q (nI (lostL v s l)) h) : wX7_lostOf x a b (nI l) h Q :=
  ⟨_, n_lostOf_loop hl p ok hb ps hl2 hq (nvW v l) 0 (by omega)⟩
theorem n_lostUnits_loop {Q : Int32 → MH → Prop} {h : MH} {v : NV} {s : AS} {a b : Nat} (hl : LX h) (p : NetV h a v) (ok : AsOK v s) (hb : b ∈ stL) (ps : StV h b (encS s)) (hq : Q (nI (lostA v s)) h) : ∀ n l, l + n = nvL v → wX7_lostUnits_5 Q (n + 1) 197 a b (nI (sumC (lostL v s) l)) (nI l) h := by
  have h4 := p.1.1
  intro n
  induction n with
  | zero =>
    intro l hn
    have hn : l = nvL v := by omega
    subst hn
    unfold wX7_lostUnits_5
    rw [p.2.2.2.2.2.1]
    exact ⟨p.2.1, fun _ => hq, fun z => absurd (nI_le (Nat.le_refl _) (by omega)) z⟩
  | succ n ih =>
    intro l hn
    have g := ih (l + 1) (by omega)
    unfold wX7_lostUnits_5
    rw [p.2.2.2.2.2.1]
    refine ⟨p.2.1, fun z => absurd z (nI_ge (by omega) (by omega)), fun _ => ⟨S_197 hl, n_lostOf hl p ok hb ps (by omega) ?_⟩⟩
    rw [nI_add, nI_add]
    exact g
theorem n_lostUnits {Q : Int32 → MH → Prop} {h : MH} {v : NV} {s : AS} {a b : Nat} (hl : LX h) (p : NetV h a v) (ok : AsOK v s) (hb : b ∈ stL) (ps : StV h b (encS s)) (hq : Q (nI (lostA v s)) h) : wX7_lostUnits 197 a b h Q :=
  ⟨_, n_lostUnits_loop hl p ok hb ps hq (nvL v) 0 (by omega)⟩
theorem m_lost16 {Q : Int32 → MH → Prop} {K : Nat → Int32 → Int32 → MH → Prop} {h : MH} {v : NV} {s : AS} {l x : Nat} (hl : LX h) (hv : NvOK v) (pn : MNet (hI h 224) v) (ok : AsOK v s) (ps : StM v s (fun k => hI h 224 (49 + k))) (hl2 : l < nvL v) (hq : K 223 (nI (x + lostL v s l)) (nI (l + 1)) h) : ∀ n u, u + n = nvW v l → wX10_lostNow_16 Q K (n + 1) 223 (nI (x + sumC (lostU s l) u)) (nI l) (nI u) h := by
  have h4 := hv.1
  have h5 := hv.2.1 l hl2
  have ew : hI h 224 (39 + l) = nI (nvW v l) := (pn.2.2.2.1 l hl2).2.2.2
  intro n
  induction n with
  | zero =>
    intro u hu
    have hu : u = nvW v l := by omega
    subst hu
    unfold wX10_lostNow_16
    rw [nI_add, nI_clamp (by omega), nI_add]
    refine ⟨S_223 hl, 224, R_223_1 hl, 7011, S_224 hl, vp_in_nI (by omega) (by omega), ?_⟩
    rw [ew]
    exact ⟨fun _ => hq, fun z => absurd (nI_le (Nat.le_refl _) (by omega)) z⟩
  | succ n ih =>
    intro u hu
    have g := ih (u + 1) (by omega)
    have el : sumC (lostU s l) (u + 1) = sumC (lostU s l) u + lostU s l u := rfl
    unfold wX10_lostNow_16
    simp only [nI_mul, nI_add]
    rw [nI_clamp (by omega)]
    refine ⟨S_223 hl, 224, R_223_1 hl, 7011, S_224 hl, vp_in_nI (by omega) (by omega), ?_⟩
    rw [ew]
    refine ⟨fun z => absurd z (nI_ge (by omega) (by omega)), fun _ => m_failed hl ok (by omega) ps (by omega) ⟨fun z => ?_, fun z => ⟨S_223 hl, u_runOf hl (by omega) (by omega) ?_⟩⟩⟩
    · have b0 : bt (asF s) l = 0 := (nI_eq (by have := bt_lt (asF s) l; omega) (by omega)).mp (z.trans nI_0.symm)
      have el2 : lostU s l u = 0 := if_neg (fun q => by omega)
      rw [el, el2] at g
      exact g
    · have b1 : bt (asF s) l = 1 := by
        rcases bt01 (asF s) l with q | q
        · rw [q] at z; exact absurd nI_0 z
        · exact q
      have en := runM0 (u := 2 * l + u) ok (by omega) (by omega)
      rw [StM_run ps (by omega) (by omega)]
      by_cases c : asW s (2 * l + u) = none
      · rw [if_pos (en.mpr c), nI_add]
        have el2 : lostU s l u = 1 := if_pos ⟨b1, c⟩
        rw [el, el2] at g
        exact g
      · rw [if_neg (fun q => c (en.mp q)), nI_add]
        have el2 : lostU s l u = 0 := if_neg (fun q => c q.2)
        rw [el, el2] at g
        exact g
theorem m_lostNow_loop {Q : Int32 → MH → Prop} {h : MH} {v : NV} {s : AS} (hl : LX h) (hv : NvOK v) (pn : MNet (hI h 224) v) (ok : AsOK v s) (ps : StM v s (fun k => hI h 224 (49 + k))) (hq : Q (nI (lostA v s)) h) : ∀ n l, l + n = nvL v → wX10_lostNow_4 Q (n + 1) 223 (nI (sumC (lostL v s) l)) (nI l) h := by
  have h4 := hv.1
  intro n
  induction n with
  | zero =>
    intro l hn
    have hn : l = nvL v := by omega
    subst hn
    unfold wX10_lostNow_4
    rw [show (nI 2).toNatClampNeg = 2 from by decide]
    refine ⟨S_223 hl, 224, R_223_1 hl, 7011, S_224 hl, vp_in_nI (by omega) (by omega), ?_⟩
    rw [pn.2.2.1]
    exact ⟨fun _ => hq, fun z => absurd (nI_le (Nat.le_refl _) (by omega)) z⟩
  | succ n ih =>
    intro l hn
    have g := ih (l + 1) (by omega)
    unfold wX10_lostNow_4
    rw [show (nI 2).toNatClampNeg = 2 from by decide]
    refine ⟨S_223 hl, 224, R_223_1 hl, 7011, S_224 hl, vp_in_nI (by omega) (by omega), ?_⟩
    rw [pn.2.2.1]
    refine ⟨fun z => absurd z (nI_ge (by omega) (by omega)), fun _ => ⟨_, m_lost16 (l := l) hl hv pn ok ps (by omega) g (nvW v l) 0 (by omega)⟩⟩
theorem m_lostNow {Q : Int32 → MH → Prop} {h : MH} {v : NV} {s : AS} (hl : LX h) (hv : NvOK v) (pn : MNet (hI h 224) v) (ok : AsOK v s) (ps : StM v s (fun k => hI h 224 (49 + k))) (hq : Q (nI (lostA v s)) h) : wX10_lostNow 223 h Q :=
  ⟨_, m_lostNow_loop hl hv pn ok ps hq (nvL v) 0 (by omega)⟩
/-- link's own loop of the reference -/
theorem m_link119 {Q : Int32 → MH → Prop} {h : MH} {v : NV} {s : AS} {l : Nat} (hl : LX h) (hv : NvOK v) (pn : MNet (hI h 224) v) (ok : AsOK v s) (ps : StM v s (fun k => hI h 224 (49 + k))) (hl2 : l < nvL v) (hq : Q (nI (lostL v s l)) h) : ∀ n u, u + n = nvW v l → wX10_link_119 Q (n + 1) 223 (nI l) (nI (sumC (lostU s l) u)) (nI u) h := by
  have h4 := hv.1
  have h5 := hv.2.1 l hl2
  have ew : hI h 224 (39 + l) = nI (nvW v l) := (pn.2.2.2.1 l hl2).2.2.2
  intro n
  induction n with
  | zero =>
    intro u hu
    have hu : u = nvW v l := by omega
    subst hu
    unfold wX10_link_119
    rw [nI_add, nI_clamp (by omega)]
    refine ⟨S_223 hl, 224, R_223_1 hl, 7011, S_224 hl, vp_in_nI (by omega) (by omega), ?_⟩
    rw [ew]
    exact ⟨fun _ => hq, fun z => absurd (nI_le (Nat.le_refl _) (by omega)) z⟩
  | succ n ih =>
    intro u hu
    have g := ih (u + 1) (by omega)
    have el : sumC (lostU s l) (u + 1) = sumC (lostU s l) u + lostU s l u := rfl
    unfold wX10_link_119
    simp only [nI_mul, nI_add]
    rw [nI_clamp (by omega)]
    refine ⟨S_223 hl, 224, R_223_1 hl, 7011, S_224 hl, vp_in_nI (by omega) (by omega), ?_⟩
    rw [ew]
    refine ⟨fun z => absurd z (nI_ge (by omega) (by omega)), fun _ => m_failed hl ok (by omega) ps (by omega) ⟨fun z => ?_, fun z => ⟨S_223 hl, u_runOf hl (by omega) (by omega) ?_⟩⟩⟩
    · have b0 : bt (asF s) l = 0 := (nI_eq (by have := bt_lt (asF s) l; omega) (by omega)).mp (z.trans nI_0.symm)
      have el2 : lostU s l u = 0 := if_neg (fun q => by omega)
      rw [el, el2] at g
      exact g
    · have b1 : bt (asF s) l = 1 := by
        rcases bt01 (asF s) l with q | q
        · rw [q] at z; exact absurd nI_0 z
        · exact q
      have en := runM0 (u := 2 * l + u) ok (by omega) (by omega)
      rw [StM_run ps (by omega) (by omega)]
      by_cases c : asW s (2 * l + u) = none
      · rw [if_pos (en.mpr c), nI_add]
        have el2 : lostU s l u = 1 := if_pos ⟨b1, c⟩
        rw [el, el2] at g
        exact g
      · rw [if_neg (fun q => c (en.mp q)), nI_add]
        have el2 : lostU s l u = 0 := if_neg (fun q => c q.2)
        rw [el, el2] at g
        exact g
