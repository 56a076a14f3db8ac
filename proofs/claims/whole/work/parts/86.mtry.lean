/-! ===== the reference tries lost units ===== -/
theorem m_isFree {Q : Int32 → MH → Prop} {h : MH} {v : NV} {s : AS} {c k p : Nat} (hl : LX h) (hv : NvOK v) (ok : AsOK v s) (ps : StM v s (fun k => hI h 224 (49 + k))) (hc : c < nvC v) (hb : bt (asM v s) c = 1) (hk : k < 9) (hp : p < 1024) (k1 : p &&& asF s = 0 → p &&& bzN s c k 20 = 0 → Q (nI 1) h) (k2 : ¬ (p &&& asF s = 0 ∧ p &&& bzN s c k 20 = 0) → Q (nI 0) h) : wX10_isFree 223 (nI (bcN (asM v s) c)) (nI k) (nI p) h Q := by
  have h4 := hv.1
  have lF := asF_lt ok (by omega)
  have hbc := bcN_le (asM v s) c
  unfold wX10_isFree
  rw [show (nI 113).toNatClampNeg = 113 from by decide]
  refine ⟨S_223 hl, 224, R_223_1 hl, 7011, S_224 hl, vp_in_nI (by omega) (by omega), ?_⟩
  have le : p &&& asF s ≤ p := Nat.and_le_left
  rw [StM_F ps, nI_and (by omega) (by omega), nI_eq0 (by omega)]
  refine ⟨fun z => ⟨21, ?_⟩, fun z => k2 (fun q => z q.1)⟩
  have lp : ∀ n i, i + n = 20 → p &&& bzN s c k i = 0 → wX10_isFree_17 Q (n + 1) 223 (nI (bcN (asM v s) c)) (nI k) (nI p) (nI i) h := by
    intro n
    induction n with
    | zero =>
      intro i hi e
      have hi : i = 20 := by omega
      subst hi
      unfold wX10_isFree_17
      exact ⟨fun _ => k1 z e, fun y => absurd (nI_le (by omega) (by omega)) y⟩
    | succ n ih =>
      intro i hi e
      have nxt : p &&& pOf c k (asW s i) = 0 → wX10_isFree_17 Q (n + 1) 223 (nI (bcN (asM v s) c)) (nI k) (nI p) (nI (i + 1)) h := fun y => ih (i + 1) (by omega) (and_or0.mpr ⟨e, y⟩)
      unfold wX10_isFree_17
      simp only [nI_add]
      refine ⟨fun y => absurd y (nI_ge (by omega) (by omega)), fun _ => ⟨S_223 hl, u_runOf hl (by omega) (by omega) ?_⟩⟩
      rw [StM_run ps (by omega) (by omega)]
      cases ea : asW s i with
      | none =>
        rw [ea] at nxt
        refine ⟨fun _ => nxt (Nat.and_zero _), fun y => ?_⟩
        have := (nI_eq0 (n := bcN (asM v s) c + 1) (by omega)).mp y.symm
        omega
      | some t =>
        obtain ⟨d, j, q⟩ := t
        have aw := ok.2.2.2 i (by omega) d j q ea
        have aw2 := (ok.2.2.1 d (by omega)).1
        have hbd := bcN_le (asM v s) d
        rw [ea] at nxt
        have np : pOf c k (some (d, j, q)) = if d = c ∧ j = k then q else 0 := rfl
        refine ⟨fun y => nxt ?_, fun y => ⟨S_223 hl, u_runOf hl (by omega) (by omega) ?_⟩⟩
        · rw [np, if_neg (fun y2 => y (by rw [← y2.1]; rfl))]
          exact Nat.and_zero _
        · have ed : d = c := ring_inj aw.2.1 hb (by have := (nI_eq (a := bcN (asM v s) d + 1) (b := bcN (asM v s) c + 1) (by omega) (by omega)).mp y; omega)
          rw [StM_run ps (by omega) (by omega), ea]
          refine ⟨fun y2 => nxt ?_, fun y2 => ⟨S_223 hl, u_runOf hl (by omega) (by omega) ?_⟩⟩
          · rw [np, if_neg (fun y3 => y2 (by rw [← y3.2]; rfl))]
            exact Nat.and_zero _
          · have ej : j = k := (nI_eq (a := j) (b := k) (by omega) (by omega)).mp y2
            rw [StM_run ps (by omega) (by omega), ea]
            have le2 : q &&& p ≤ q := Nat.and_le_left
            have er : runM (asM v s) (some (d, j, q)) 2 = nI q := rfl
            rw [er, nI_and (by omega) (by omega), nI_eq0 (by omega), Nat.and_comm q p]
            refine ⟨fun y3 => nxt ?_, fun y3 => k2 (fun y4 => ?_)⟩
            · rw [np, if_pos ⟨ed, ej⟩]
              exact y3
            · have y5 := (bz_and 20).mp y4.2 i (by omega)
              rw [ea, np, if_pos ⟨ed, ej⟩] at y5
              exact y3 y5
  exact lp 20 0 (by omega) (Nat.and_zero _)
section MT
variable {Q : MH → Prop} {h : MH} {v : NV} {s : AS} {l U : Nat}
theorem us_cases {v : NV} (hv : NvOK v) {c l : Nat} (hc : c < nvC v) (hl : l < nvL v) : usN v c l ≤ 2 ∧ ∀ i, i < 2 → (i < usN v c l ↔ nvPa v c l i ≠ 0) := by
  unfold usN
  refine ⟨by rcases hv.2.2.2.2.1 c l hc hl with q | q | q <;> omega, fun i hi => ?_⟩
  have qi : i = 0 ∨ i = 1 := by omega
  rcases hv.2.2.2.2.1 c l hc hl with q | q | q <;> rcases qi with qi | qi <;> subst qi <;> omega
theorem mt39 {K2 : Nat → Int32 → Int32 → Int32 → MH → Prop} {K13 : Nat → Int32 → Int32 → Int32 → Int32 → MH → Prop} {c k : Nat} (hl : LX h) (hv : NvOK v) (pn : MNet (hI h 224) v) (pr : RgV h v (asR s)) (ok : AsOK v s) (ps : StM v s (fun k => hI h 224 (49 + k))) (hl2 : l < nvL v) (hU : U < 20) (hc : c < nvC v) (hb : bt (asM v s) c = 1) (hk : k < asC s c)
    (hq : ∀ j, ffS (cand v s l) (18 * nvC v) 0 = some j → Q (rnH h U (nI (bcN (asM v s) (j / 18))) (nI (j % 18 / 2)) (nI (nvPa v (j / 18) l (j % 2)))))
    (hK : ffS (cand v s l) (18 * nvC v) 0 = ffS (cand v s l) (18 * nvC v) (18 * c + 2 * (k + 1)) → K13 223 (nI l) (nI U) (nI (bcN (asM v s) c)) (nI (k + 1)) h) : ∀ n i, i + n = usN v c l → ffS (cand v s l) (18 * nvC v) 0 = ffS (cand v s l) (18 * nvC v) (18 * c + 2 * k + i) → wX10_triesOne_39 Q K2 K13 (n + 1) 223 (nI l) (nI U) (nI (bcN (asM v s) c)) (nI k) (nI i) h := by
  have h4 := hv.1
  have hc9 := (ok.2.2.1 c (by omega)).1
  have us := us_cases hv hc hl2
  intro n
  induction n with
  | zero =>
    intro i hi e
    unfold wX10_triesOne_39
    refine ⟨S_223 hl, m_useOf hl hv pr hc hb hl2 ⟨fun _ => ?_, fun z => absurd (nI_le (by omega) (by omega)) z⟩⟩
    rw [nI_add]
    refine hK ?_
    rw [e, ff_skips (2 - i) (fun j j1 j2 q => ?_), show 18 * c + 2 * k + i + (2 - i) = 18 * c + 2 * (k + 1) from by omega]
    unfold cand at q
    have q1 := q.2.1
    rw [show j / 18 = c from by omega] at q1
    have := (us.2 (j % 2) (by omega)).mpr q1
    omega
  | succ n ih =>
    intro i hi e
    have pl := pa_lt (i := i) hv hc hl2 (by omega)
    have d1 : (18 * c + 2 * k + i) / 18 = c := by omega
    have d2 : (18 * c + 2 * k + i) % 18 / 2 = k := by omega
    have d3 : (18 * c + 2 * k + i) % 2 = i := by omega
    have pne := (us.2 i (by omega)).mp (by omega)
    have epr : pathR (nvPa v c l i) = nI (nvPa v c l i) := if_neg pne
    unfold wX10_triesOne_39
    simp only [nI_add]
    refine ⟨S_223 hl, m_useOf hl hv pr hc hb hl2 ⟨fun z => absurd z (nI_ge (by omega) (by omega)), fun _ => ⟨S_223 hl, m_pathOf hl hv pn pr hc hb hl2 (by omega) ⟨S_223 hl, ?_⟩⟩⟩⟩
    rw [epr]
    refine m_isFree hl hv ok ps hc hb (by omega) pl (fun z1 z2 => ⟨fun _ => ⟨S_223 hl, m_pathOf hl hv pn pr hc hb hl2 (by omega) ⟨S_223 hl, u_runsOn hl hU ?_⟩⟩, fun z => absurd z (by decide)⟩) (fun z => ⟨fun y => absurd nI_0 y, fun _ => ih (i + 1) (by omega) ?_⟩)
    · have cj : cand v s l (18 * c + 2 * k + i) := by
        unfold cand
        rw [d1, d2, d3]
        exact ⟨hk, pne, z1, z2⟩
      have q := hq (18 * c + 2 * k + i) (by rw [e, ff_hit (by omega) cj])
      rw [d1, d2, d3] at q
      rw [epr]
      exact q
    · rw [e, ff_skip (fun q => ?_), show 18 * c + 2 * k + (i + 1) = 18 * c + 2 * k + i + 1 from by omega]
      unfold cand at q
      rw [d1, d2, d3] at q
      exact z ⟨q.2.2.1, q.2.2.2⟩
theorem mt13 {K2 : Nat → Int32 → Int32 → Int32 → MH → Prop} {c : Nat} (hl : LX h) (hv : NvOK v) (pn : MNet (hI h 224) v) (pr : RgV h v (asR s)) (ok : AsOK v s) (ps : StM v s (fun k => hI h 224 (49 + k))) (hl2 : l < nvL v) (hU : U < 20) (hc : c < nvC v) (hb : bt (asM v s) c = 1)
    (hq : ∀ j, ffS (cand v s l) (18 * nvC v) 0 = some j → Q (rnH h U (nI (bcN (asM v s) (j / 18))) (nI (j % 18 / 2)) (nI (nvPa v (j / 18) l (j % 2)))))
    (hK : ffS (cand v s l) (18 * nvC v) 0 = ffS (cand v s l) (18 * nvC v) (18 * (c + 1)) → K2 223 (nI l) (nI U) (nI (bcN (asM v s) c + 1)) h) : ∀ n k, k + n = asC s c → ffS (cand v s l) (18 * nvC v) 0 = ffS (cand v s l) (18 * nvC v) (18 * c + 2 * k) → wX10_triesOne_13 Q K2 (n + 1) 223 (nI l) (nI U) (nI (bcN (asM v s) c)) (nI k) h := by
  have h4 := hv.1
  have hc9 := (ok.2.2.1 c (by omega)).1
  have hbc := bcN_le (asM v s) c
  have us := us_cases hv hc hl2
  have es : hI h 224 (49 + bcN (asM v s) c) = nI (asC s c) := ps.1 c hc hb
  intro n
  induction n with
  | zero =>
    intro k hk e
    unfold wX10_triesOne_13
    simp only [nI_add]
    refine ⟨S_223 hl, 224, R_223_1 hl, 7011, S_224 hl, vp_in_nI (by omega) (by omega), ?_⟩
    rw [nI_clamp (by omega), es]
    refine ⟨fun _ => hK ?_, fun z => absurd (nI_le (by omega) (by omega)) z⟩
    rw [e, ff_skips (18 - 2 * k) (fun i i1 i2 q => ?_), show 18 * c + 2 * k + (18 - 2 * k) = 18 * (c + 1) from by omega]
    unfold cand at q
    have q1 := q.1
    rw [show i / 18 = c from by omega] at q1
    omega
  | succ n ih =>
    intro k hk e
    unfold wX10_triesOne_13
    simp only [nI_add]
    refine ⟨S_223 hl, 224, R_223_1 hl, 7011, S_224 hl, vp_in_nI (by omega) (by omega), ?_⟩
    rw [nI_clamp (by omega), es]
    refine ⟨fun z => absurd z (nI_ge (by omega) (by omega)), fun _ => m_useOf hl hv pr hc hb hl2 ⟨fun z => hK ?_, fun _ => ⟨usN v c l + 1, mt39 hl hv pn pr ok ps hl2 hU hc hb (by omega) hq (fun e2 => ih (k + 1) (by omega) e2) (usN v c l) 0 (by omega) (by rw [e]; rfl)⟩⟩⟩
    have z0 : usN v c l = 0 := by
      rw [Int32.le_iff_toInt_le, i0_toInt, nI_toInt (by omega)] at z
      omega
    rw [e, ff_skips (18 - 2 * k) (fun i i1 i2 q => ?_), show 18 * c + 2 * k + (18 - 2 * k) = 18 * (c + 1) from by omega]
    unfold cand at q
    have q1 := q.2.1
    rw [show i / 18 = c from by omega] at q1
    have := (us.2 (i % 2) (by omega)).mpr q1
    omega
theorem mt2 (hl : LX h) (hv : NvOK v) (pn : MNet (hI h 224) v) (pr : RgV h v (asR s)) (ok : AsOK v s) (ps : StM v s (fun k => hI h 224 (49 + k))) (hl2 : l < nvL v) (hU : U < 20)
    (hq : ∀ j, ffS (cand v s l) (18 * nvC v) 0 = some j → Q (rnH h U (nI (bcN (asM v s) (j / 18))) (nI (j % 18 / 2)) (nI (nvPa v (j / 18) l (j % 2)))))
    (hq2 : ffS (cand v s l) (18 * nvC v) 0 = none → Q h) : ∀ n c, c + n = nvC v → ffS (cand v s l) (18 * nvC v) 0 = ffS (cand v s l) (18 * nvC v) (18 * c) → wX10_triesOne_2 Q (bcN (asM v s) (nvC v) - bcN (asM v s) c + 1) 223 (nI l) (nI U) (nI (bcN (asM v s) c)) h := by
  have h4 := hv.1
  have hC := bcN_le (asM v s) (nvC v)
  have p1 : hI h 223 23 = nI (bcN (asM v s) (nvC v)) := pr.1
  intro n
  induction n with
  | zero =>
    intro c hc e
    have hc : c = nvC v := by omega
    subst hc
    rw [Nat.sub_self]
    unfold wX10_triesOne_2
    rw [p1]
    refine ⟨S_223 hl, fun _ => hq2 ?_, fun z => absurd (nI_le (Nat.le_refl _) (by omega)) z⟩
    rw [e, ff_end (by omega)]
  | succ n ih =>
    intro c hc e
    have e1 : bcN (asM v s) (c + 1) = bcN (asM v s) c + bt (asM v s) c := rfl
    rcases bt01 (asM v s) c with b | b
    · have z := (ok.2.2.1 c (by omega)).2 b
      have g := ih (c + 1) (by omega) (by
        rw [e, ff_skips 18 (fun i i1 i2 q => ?_), show 18 * (c + 1) = 18 * c + 18 from by omega]
        unfold cand at q
        have q1 := q.1
        rw [show i / 18 = c from by omega] at q1
        omega)
      rw [e1, b] at g
      exact g
    · have hlt := bcN_lt (show c < nvC v by omega) b
      rw [show bcN (asM v s) (nvC v) - bcN (asM v s) c + 1 = (bcN (asM v s) (nvC v) - (bcN (asM v s) c + 1) + 1) + 1 from by omega]
      unfold wX10_triesOne_2
      rw [p1]
      refine ⟨S_223 hl, fun z => absurd z (nI_ge hlt (by omega)), fun _ => ⟨asC s c + 1, mt13 hl hv pn pr ok ps hl2 hU (by omega) b hq (fun e2 => ?_) (asC s c) 0 (by omega) e⟩⟩
      have g := ih (c + 1) (by omega) e2
      rw [e1, b] at g
      exact g
theorem m_triesOne (hl : LX h) (hv : NvOK v) (pn : MNet (hI h 224) v) (pr : RgV h v (asR s)) (ok : AsOK v s) (ps : StM v s (fun k => hI h 224 (49 + k))) (hl2 : l < nvL v) (hU : U < 20)
    (hq : ∀ j, ffS (cand v s l) (18 * nvC v) 0 = some j → Q (rnH h U (nI (bcN (asM v s) (j / 18))) (nI (j % 18 / 2)) (nI (nvPa v (j / 18) l (j % 2)))))
    (hq2 : ffS (cand v s l) (18 * nvC v) 0 = none → Q h) : wX10_triesOne 223 (nI l) (nI U) h Q :=
  ⟨_, mt2 hl hv pn pr ok ps hl2 hU hq hq2 (nvC v) 0 (by omega) rfl⟩
end MT
/-- the reference's state moved on: its row but for the units -/
def MTr (v : NV) (h : MH) (s : AS) (g : MH) : Prop := Fr (fun b => b = 224) h g ∧ (∀ k, (k < 49 ∨ 175 ≤ k) → hI g 224 k = hI h 224 k) ∧ StM v s (fun k => hI g 224 (49 + k))
theorem MTr_net {v : NV} {h g : MH} {s : AS} (hv : nvL v ≤ 10) (t : MTr v h s g) (pn : MNet (hI h 224) v) : MNet (hI g 224) v := MNet_cong (fun k hk => t.2.1 k (by omega)) hv pn
theorem MTr_rg {v : NV} {h g : MH} {s : AS} {r : Nat} (t : MTr v h s g) (pr : RgV h v r) : RgV g v r := RgV_row (Fr_I t.1 (by omega) _) (t.1.2.2.2.2 _ (by omega)) (t.1.2.2.2.2 _ (by omega)) (t.1.2.2.2.2 _ (by omega)) (t.1.2.2.2.2 _ (by omega)) pr
theorem Fr_rnH {h : MH} {u : Nat} {r c p : Int32} : Fr (fun b => b = 224) h (rnH h u r c p) := Fr_trans (Fr_sI rfl) (Fr_trans (Fr_sI rfl) (Fr_sI rfl))
theorem StM_rnH {v : NV} {s : AS} {g : MH} {u : Nat} {o : Option (Nat × Nat × Nat)} {r c p : Int32} (hv : nvC v ≤ 40) (hu : u < 20) (ps : StM v s (fun k => hI g 224 (49 + k))) (e0 : r + nI 1 = runM (asM v s) o 0) (e1 : c = runM (asM v s) o 1) (e2 : p = runM (asM v s) o 2) : StM v (setW s u o) (fun k => hI (rnH g u r c p) 224 (49 + k)) := by
  refine ⟨fun d hd hb => ?_, ?_, ?_, fun x j hx hj => ?_⟩
  · have hlt := bcN_le (asM v (setW s u o)) d
    show hI (rnH g u r c p) 224 (49 + bcN (asM v (setW s u o)) d) = _
    rw [rnH_I, if_neg (by omega), if_neg (by omega), if_neg (by omega)]
    exact ps.1 d hd hb
  · show hI (rnH g u r c p) 224 113 = _
    rw [rnH_I, if_neg (by omega), if_neg (by omega), if_neg (by omega)]
    exact ps.2.1
  · show hI (rnH g u r c p) 224 114 = _
    rw [rnH_I, if_neg (by omega), if_neg (by omega), if_neg (by omega)]
    exact ps.2.2.1
  · show hI (rnH g u r c p) 224 (49 + (66 + 3 * x + j)) = runM (asM v s) (if x = u then o else asW s x) j
    have qj : j = 0 ∨ j = 1 ∨ j = 2 := by omega
    by_cases q : x = u
    · rw [if_pos q, rnH_I]
      rcases qj with qj | qj | qj <;> subst qj
      · rw [if_neg (by omega), if_neg (by omega), if_pos ⟨rfl, by omega⟩]; exact e0
      · rw [if_neg (by omega), if_pos ⟨rfl, by omega⟩]; exact e1
      · rw [if_pos ⟨rfl, by omega⟩]; exact e2
    · rw [if_neg q, rnH_I, if_neg (by omega), if_neg (by omega), if_neg (by omega)]
      exact ps.2.2.2 x j hx hj
theorem MTr_rnH {v : NV} {s : AS} {h g : MH} {u : Nat} {o : Option (Nat × Nat × Nat)} {r c p : Int32} (hv : nvC v ≤ 40) (hu : u < 20) (t : MTr v h s g) (e0 : r + nI 1 = runM (asM v s) o 0) (e1 : c = runM (asM v s) o 1) (e2 : p = runM (asM v s) o 2) : MTr v h (setW s u o) (rnH g u r c p) := by
  refine ⟨Fr_trans t.1 Fr_rnH, fun k hk => ?_, StM_rnH hv hu t.2.2 e0 e1 e2⟩
  rw [rnH_I, if_neg (by omega), if_neg (by omega), if_neg (by omega)]
  exact t.2.1 k hk
theorem mtr25 {Q : MH → Prop} {K : Nat → Int32 → MH → Prop} {h : MH} {v : NV} {s : AS} {l : Nat} (hl : LX h) (hv : NvOK v) (pn : MNet (hI h 224) v) (pr : RgV h v (asR s)) (ok : AsOK v s) (hl2 : l < nvL v) (hb : bt (asF s) l = 1) (hq : ∀ g, MTr v h (tryN v l (nvW v l) s) g → K 223 (nI (l + 1)) g) : ∀ n u g, u + n = nvW v l → MTr v h (tryN v l u s) g → wX10_tries_25 Q K (n + 1) 223 (nI l) (nI u) g := by
  have h4 := hv.1
  have h5 := hv.2.1 l hl2
  intro n
  induction n with
  | zero =>
    intro u g hu t
    have hu : u = nvW v l := by omega
    subst hu
    have hlg := LX_Fr t.1 hl
    have ew : hI g 224 (39 + l) = nI (nvW v l) := ((MTr_net (by omega) t pn).2.2.2.1 l hl2).2.2.2
    unfold wX10_tries_25
    simp only [nI_mul, nI_add]
    refine ⟨S_223 hlg, 224, R_223_1 hlg, 7011, S_224 hlg, vp_in_nI (by omega) (by omega), ?_⟩
    rw [nI_clamp (by omega), ew]
    exact ⟨fun _ => hq g t, fun z => absurd (nI_le (Nat.le_refl _) (by omega)) z⟩
  | succ n ih =>
    intro u g hu t
    have hlg := LX_Fr t.1 hl
    have ok1 := AsOK_tryN hv ok hl2 u (by omega)
    have rest := tryN_rest v l u s
    have ew : hI g 224 (39 + l) = nI (nvW v l) := ((MTr_net (by omega) t pn).2.2.2.1 l hl2).2.2.2
    have r0 := runM0 (u := 2 * l + u) ok1 (by omega) (by omega)
    unfold wX10_tries_25
    simp only [nI_mul, nI_add]
    refine ⟨S_223 hlg, 224, R_223_1 hlg, 7011, S_224 hlg, vp_in_nI (by omega) (by omega), ?_⟩
    rw [nI_clamp (by omega), ew]
    refine ⟨fun z => absurd z (nI_ge (by omega) (by omega)), fun _ => u_runOf hlg (by omega) (by omega) ?_⟩
    rw [StM_run t.2.2 (by omega) (by omega), r0]
    refine ⟨fun y => ih (u + 1) g (by omega) ?_, fun y => ⟨S_223 hlg, ?_⟩⟩
    · have e1 : tryN v l (u + 1) s = tryN v l u s := tryU_no (fun q => y q.2)
      rw [e1]
      exact t
    · have e1 : tryN v l (u + 1) s = setW (tryN v l u s) (2 * l + u) (ffW v (tryN v l u s) l) := tryU_yes (by rw [rest.2.1]; exact hb) y
      refine m_triesOne hlg hv (MTr_net (by omega) t pn) (MTr_rg t (by rw [rest.1]; exact pr)) ok1 t.2.2 hl2 (by omega) (fun j ej => ih (u + 1) _ (by omega) ?_) (fun ej => ih (u + 1) _ (by omega) ?_)
      · have ef : ffW v (tryN v l u s) l = some (trip v l j) := by
          unfold ffW
          rw [ej]
          rfl
        rw [e1, ef]
        exact MTr_rnH (by omega) (by omega) t (nI_add _ _) rfl rfl
      · have ef : ffW v (tryN v l u s) l = none := by
          unfold ffW
          rw [ej]
          rfl
        rw [e1, ef, bz_set0 y]
        exact t
theorem mtr2 {Q : MH → Prop} {h : MH} {v : NV} {s : AS} (hl : LX h) (hv : NvOK v) (pn : MNet (hI h 224) v) (pr : RgV h v (asR s)) (ok : AsOK v s) (hq : ∀ g, MTr v h (tryS v s) g → Q g) : ∀ n l g, l + n = nvL v → MTr v h (tryA v l s) g → wX10_tries_2 Q (n + 1) 223 (nI l) g := by
  have h4 := hv.1
  intro n
  induction n with
  | zero =>
    intro l g hn t
    have hn : l = nvL v := by omega
    subst hn
    have hlg := LX_Fr t.1 hl
    unfold wX10_tries_2
    rw [show (nI 2).toNatClampNeg = 2 from by decide]
    refine ⟨S_223 hlg, 224, R_223_1 hlg, 7011, S_224 hlg, vp_in_nI (by omega) (by omega), ?_⟩
    rw [(MTr_net (by omega) t pn).2.2.1]
    exact ⟨fun _ => hq g t, fun z => absurd (nI_le (Nat.le_refl _) (by omega)) z⟩
  | succ n ih =>
    intro l g hn t
    have hlg := LX_Fr t.1 hl
    have ok1 := AsOK_tryA hv ok l (by omega)
    have rest := tryA_rest v l s
    unfold wX10_tries_2
    rw [show (nI 2).toNatClampNeg = 2 from by decide]
    refine ⟨S_223 hlg, 224, R_223_1 hlg, 7011, S_224 hlg, vp_in_nI (by omega) (by omega), ?_⟩
    rw [(MTr_net (by omega) t pn).2.2.1, nI_add]
    refine ⟨fun z => absurd z (nI_ge (by omega) (by omega)), fun _ => m_failed hlg ok1 (by omega) t.2.2 (by omega) ⟨fun z => ⟨nvW v l + 1, ?_⟩, fun z => ih (l + 1) g (by omega) ?_⟩⟩
    · have b1 : bt (asF (tryA v l s)) l = 1 := by
        rcases bt01 (asF (tryA v l s)) l with q | q
        · rw [q] at z; exact absurd nI_0 z
        · exact q
      exact mtr25 hl hv pn (by rw [rest.1]; exact pr) ok1 (by omega) b1 (fun g2 t2 => ih (l + 1) g2 (by omega) t2) (nvW v l) 0 g (by omega) t
    · have b0 : bt (asF (tryA v l s)) l = 0 := (nI_eq0 (by have := bt_lt (asF (tryA v l s)) l; omega)).mp z
      have e1 : tryA v (l + 1) s = tryA v l s := tryN_ok _ _ b0
      rw [e1]
      exact t
theorem m_tries {Q : MH → Prop} {h : MH} {v : NV} {s : AS} (hl : LX h) (hv : NvOK v) (pn : MNet (hI h 224) v) (pr : RgV h v (asR s)) (ok : AsOK v s) (ps : StM v s (fun k => hI h 224 (49 + k))) (hq : ∀ g, MTr v h (tryS v s) g → Q g) : wX10_tries 223 h Q :=
  ⟨_, mtr2 hl hv pn pr ok hq (nvL v) 0 h (by omega) ⟨Fr_rfl _ _, fun _ _ => rfl, ps⟩⟩
