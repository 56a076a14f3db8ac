/-! ===== the class tries lost units: the loops ===== -/
theorem BzI_0 {h : MH} {s : AS} (hz : ∀ k, k < 360 → hI h 198 k = 0) : BzI h s 0 := fun c k hc hk => (hz _ (by omega)).trans nI_0.symm
theorem encW_lt {v : NV} {s : AS} {u : Nat} (ok : AsOK v s) (hv : nvC v ≤ 40) (hu : u < 20) : (encW (asW s u) < 0) ↔ asW s u = none := by
  have q := encW_neg ok hv hu
  constructor
  · intro z
    apply Classical.byContradiction
    intro y
    have y2 := q.mpr y
    rw [Int32.le_iff_toInt_le] at y2
    rw [Int32.lt_iff_toInt_lt] at z
    omega
  · intro z
    rw [z]
    decide
theorem try10 {Q : MH → Prop} {h : MH} {v : NV} {s : AS} {a b : Nat} (hl : LX h) (hv : NvOK v) (ok : AsOK v s) (hb : b ∈ stL) (hq : ∀ g, TrI h b s g → ∃ m, wX7_tryLost_59 Q m 197 a b (nI 0) g) : ∀ n i g, i + n = 20 → Fr (ST2 b) h g → StV g b (encS s) → BzI g s i → wX7_tryLost_10 Q (n + 1) 197 a b (nI i) g := by
  have h4 := hv.1
  have s198 := stL_198 b hb
  intro n
  induction n with
  | zero =>
    intro i g hi f ps bz
    have hi : i = 20 := by omega
    subst hi
    unfold wX7_tryLost_10
    exact ⟨fun _ => hq g ⟨f, ps, bz⟩, fun z => absurd (nI_le (by omega) (by omega)) z⟩
  | succ n ih =>
    intro i g hi f ps bz
    have hlg := LX_Fr f hl
    have st := st_S hlg hb
    have ew : hI g (b + 2) i = encW (asW s i) := ps.2.2.2 i (by omega)
    unfold wX7_tryLost_10
    rw [nI_clamp (by omega), nI_add]
    refine ⟨fun z => absurd z (nI_ge (by omega) (by omega)), fun _ => ⟨st.1, b + 2, st.2.2.2.2, 20, st.2.2.1, vp_in_nI (by omega) (by omega), ?_⟩⟩
    rw [ew, encW_lt ok (by omega) (by omega)]
    refine ⟨fun z => ih (i + 1) g (by omega) f ps (fun c k hc hk => ?_), fun z => ?_⟩
    · show hI g 198 (c * 9 + k) = nI (bzN s c k i ||| pOf c k (asW s i))
      rw [z]
      show _ = nI (bzN s c k i ||| 0)
      rw [Nat.or_zero]
      exact bz c k hc hk
    · cases e : asW s i with
      | none => exact absurd e z
      | some t =>
        obtain ⟨c, k, p⟩ := t
        have aw := ok.2.2.2 i (by omega) c k p e
        have aw2 := (ok.2.2.1 c (by omega)).1
        have es : encW (some (c, k, p)) = nI ((9 * c + k) * 1024 + p) := rfl
        have lb := bz_lt (c := c) (k := k) ok i (by omega)
        rw [es, wh_slot (by omega) (by omega) (by omega)]
        refine ⟨S_197 hlg, 198, R_197_0 hlg, vp_in_nI (by omega) (by omega), 360, S_198 hlg, vp_in_nI (by omega) (by omega), vp_in_nI (by omega) (by omega), 360, S_198 hlg, vp_in_nI (by omega) (by omega), fun _ e2 => ?_⟩
        rw [pk_andN (by omega) 10 (by decide), show ((9 * c + k) * 1024 + p) % 2 ^ 10 = p from by omega, nI_clamp (by omega), show 9 * c + k = c * 9 + k from by omega, bz c k (by omega) (by omega), nI_or (by omega) (by omega)] at e2
        subst e2
        refine ih (i + 1) _ (by omega) (Fr_trans f (Fr_sI (Or.inr rfl))) (StV_row (hI_sI_row (by omega)) (hI_sI_row (by omega)) (hI_sI_row (by omega)) ps) (fun d j hd hj => ?_)
        show _ = nI (bzN s d j i ||| pOf d j (asW s i))
        rw [e, hI_sI]
        show _ = nI (bzN s d j i ||| (if c = d ∧ k = j then p else 0))
        by_cases q : c = d ∧ k = j
        · rw [if_pos ⟨rfl, by omega⟩, if_pos q, q.1, q.2]
        · rw [if_neg (fun y => q (by omega)), if_neg q, Nat.or_zero]
          exact bz d j hd hj
theorem try70 {Q : MH → Prop} {K : Nat → Nat → Nat → Int32 → MH → Prop} {h : MH} {v : NV} {s : AS} {a b l : Nat} (hl : LX h) (p : NetV h a v) (ok : AsOK v s) (hb : b ∈ stL) (hl2 : l < nvL v) (hq : ∀ g, TrI h b (tryN v l (nvW v l) s) g → K 197 a b (nI (l + 1)) g) : ∀ n u g, u + n = nvW v l → TrI h b (tryN v l u s) g → wX7_tryLost_70 Q K (n + 1) 197 a b (nI l) (nI u) g := by
  have h4 := p.1.1
  have h5 := p.1.2.1 l hl2
  intro n
  induction n with
  | zero =>
    intro u g hu t
    have hu : u = nvW v l := by omega
    subst hu
    have pg := NetV_ST2 hb t.1 p
    obtain ⟨w, w1, w2, w3, w4, w5, w6, w7⟩ := id pg.2.2.2.2.2.2.2
    unfold wX7_tryLost_70
    refine ⟨pg.2.1, w 7, (w1 7 (by omega) (by omega) (by omega)).1, 10, w2.2.2.2.1, vp_in_nI (by omega) (by omega), ?_⟩
    rw [nI_clamp (by omega), (w3 l hl2).2.2.2, nI_add]
    exact ⟨fun _ => hq g t, fun z => absurd (nI_le (Nat.le_refl _) (by omega)) z⟩
  | succ n ih =>
    intro u g hu t
    have pg := NetV_ST2 hb t.1 p
    have hlg := LX_Fr t.1 hl
    have st := st_S hlg hb
    have ok1 := AsOK_tryN p.1 ok hl2 u (by omega)
    have rest := tryN_rest v l u s
    obtain ⟨w, w1, w2, w3, w4, w5, w6, w7⟩ := id pg.2.2.2.2.2.2.2
    unfold wX7_tryLost_70
    refine ⟨pg.2.1, w 7, (w1 7 (by omega) (by omega) (by omega)).1, 10, w2.2.2.2.1, vp_in_nI (by omega) (by omega), ?_⟩
    rw [nI_clamp (by omega), (w3 l hl2).2.2.2]
    simp only [nI_mul, nI_add]
    refine ⟨fun z => absurd z (nI_ge (by omega) (by omega)), fun _ => ⟨st.1, n_failed hlg ok1 (by omega) hb t.2.1 (by omega) ⟨fun z => ?_, fun z => ⟨st.1, b + 2, st.2.2.2.2, 20, st.2.2.1, vp_in_nI (by omega) (by omega), ?_⟩⟩⟩⟩
    · have b0 : bt (asF (tryN v l u s)) l = 0 := (nI_eq0 (by have := bt_lt (asF (tryN v l u s)) l; omega)).mp z
      rw [rest.2.1] at b0
      have e1 := tryN_ok (v := v) (l := l) u s b0
      have e2 := tryN_ok (v := v) (l := l) (nvW v l) s b0
      rw [e1] at t
      exact hq g (by rw [e2]; exact t)
    · have b1 : bt (asF (tryN v l u s)) l = 1 := by
        rcases bt01 (asF (tryN v l u s)) l with q | q
        · rw [q] at z; exact absurd nI_0 z
        · exact q
      have ec : l * 2 + u = 2 * l + u := by omega
      have ew : hI g (b + 2) (l * 2 + u) = encW (asW (tryN v l u s) (2 * l + u)) := by
        rw [ec]
        exact t.2.1.2.2.2 _ (by omega)
      have en := encW_neg (u := 2 * l + u) ok1 (by omega) (by omega)
      rw [nI_clamp (by omega), ew, en]
      refine ⟨fun y => ih (u + 1) g (by omega) ?_, fun y => ⟨S_197 hlg, ?_⟩⟩
      · have e1 : tryN v l (u + 1) s = tryN v l u s := tryU_no (fun q => y q.2)
        rw [e1]
        exact t
      · have yn : asW (tryN v l u s) (2 * l + u) = none := Classical.byContradiction (fun q => y q)
        have e1 : tryN v l (u + 1) s = setW (tryN v l u s) (2 * l + u) (ffW v (tryN v l u s) l) := tryU_yes b1 yn
        refine n_firstFree hlg pg ok1 hb t.2.1 t.2.2 hl2 (fun j ej => ⟨20, st.2.2.1, vp_in_nI (by omega) (by omega), fun _ e2 => ?_⟩) (fun ej => ⟨20, st.2.2.1, vp_in_nI (by omega) (by omega), fun _ e2 => ?_⟩)
        · subst e2
          refine ih (u + 1) _ (by omega) ?_
          have ef : ffW v (tryN v l u s) l = some (trip v l j) := by
            unfold ffW
            rw [ej]
            rfl
          rw [e1, ef, ec]
          exact TrI_step hb (by omega) (by omega) (ff_some _ 0 j rfl ej).1 t yn
        · subst e2
          refine ih (u + 1) _ (by omega) ?_
          have ef : ffW v (tryN v l u s) l = none := by
            unfold ffW
            rw [ej]
            rfl
          rw [e1, ef, ec]
          have s198 := stL_198 b hb
          refine ⟨Fr_trans t.1 (Fr_sI (Or.inl rfl)), StV_where (o := none) t.2.1, fun c k hc hk => ?_⟩
          rw [hI_sI, if_neg (by omega), bz_set0 yn]
          exact t.2.2 c k hc hk
theorem bz_zero {s : AS} {c k : Nat} : ∀ n, (∀ u, u < n → ∀ p, asW s u ≠ some (c, k, p)) → bzN s c k n = 0
  | 0, _ => rfl
  | n + 1, h => by
    show bzN s c k n ||| pOf c k (asW s n) = 0
    rw [bz_zero n (fun u hu => h u (by omega))]
    cases e : asW s n with
    | none => exact Nat.or_zero 0
    | some t =>
      obtain ⟨d, i, p⟩ := t
      have := h n (by omega) p
      show 0 ||| (if d = c ∧ i = k then p else 0) = 0
      rw [if_neg (fun q => this (by rw [e, q.1, q.2]))]
      rfl
theorem try135 {Q : MH → Prop} {h : MH} {v : NV} {s : AS} {b : Nat} (hl : LX h) (hv : NvOK v) (ok : AsOK v s) (hb : b ∈ stL) (hq : ∀ g, Fr (ST2 b) h g → StV g b (encS s) → (∀ k, k < 360 → hI g 198 k = 0) → Q g) : ∀ n i g, i + n = 20 → Fr (ST2 b) h g → StV g b (encS s) → (∀ c k, c < 40 → k < 9 → hI g 198 (c * 9 + k) = 0 ∨ (hI g 198 (c * 9 + k) = nI (bzN s c k 20) ∧ ∀ u, u < i → ∀ p, asW s u ≠ some (c, k, p))) → wX7_tryLost_135 Q (n + 1) 197 b (nI i) g := by
  have h4 := hv.1
  have s198 := stL_198 b hb
  intro n
  induction n with
  | zero =>
    intro i g hi f ps bz
    have hi : i = 20 := by omega
    subst hi
    unfold wX7_tryLost_135
    refine ⟨fun _ => hq g f ps (fun x hx => ?_), fun z => absurd (nI_le (by omega) (by omega)) z⟩
    have e : x / 9 * 9 + x % 9 = x := by omega
    rcases bz (x / 9) (x % 9) (by omega) (by omega) with q | q
    · rw [e] at q; exact q
    · rw [e] at q
      rw [q.1, bz_zero 20 q.2]
      exact nI_0
  | succ n ih =>
    intro i g hi f ps bz
    have hlg := LX_Fr f hl
    have st := st_S hlg hb
    have ew : hI g (b + 2) i = encW (asW s i) := ps.2.2.2 i (by omega)
    unfold wX7_tryLost_135
    rw [nI_clamp (by omega), nI_add]
    refine ⟨fun z => absurd z (nI_ge (by omega) (by omega)), fun _ => ⟨st.1, b + 2, st.2.2.2.2, 20, st.2.2.1, vp_in_nI (by omega) (by omega), ?_⟩⟩
    rw [ew, encW_lt ok (by omega) (by omega)]
    refine ⟨fun z => ih (i + 1) g (by omega) f ps (fun c k hc hk => ?_), fun z => ?_⟩
    · rcases bz c k hc hk with q | q
      · exact Or.inl q
      · refine Or.inr ⟨q.1, fun u hu p y => ?_⟩
        by_cases e : u = i
        · rw [e, z] at y; exact absurd y (by simp)
        · exact q.2 u (by omega) p y
    · cases e : asW s i with
      | none => exact absurd e z
      | some t =>
        obtain ⟨c, k, p⟩ := t
        have aw := ok.2.2.2 i (by omega) c k p e
        have aw2 := (ok.2.2.1 c (by omega)).1
        have es : encW (some (c, k, p)) = nI ((9 * c + k) * 1024 + p) := rfl
        rw [es, wh_slot (by omega) (by omega) (by omega)]
        refine ⟨S_197 hlg, 198, R_197_0 hlg, vp_in_nI (by omega) (by omega), 360, S_198 hlg, vp_in_nI (by omega) (by omega), fun _ e2 => ?_⟩
        rw [nI_clamp (by omega), show 9 * c + k = c * 9 + k from by omega] at e2
        subst e2
        refine ih (i + 1) _ (by omega) (Fr_trans f (Fr_sI (Or.inr rfl))) (StV_row (hI_sI_row (by omega)) (hI_sI_row (by omega)) (hI_sI_row (by omega)) ps) (fun d j hd hj => ?_)
        rw [hI_sI]
        by_cases q : c = d ∧ k = j
        · rw [if_pos ⟨rfl, by omega⟩]
          exact Or.inl nI_0
        · rw [if_neg (fun y => q (by omega))]
          rcases bz d j hd hj with y | y
          · exact Or.inl y
          · refine Or.inr ⟨y.1, fun u hu p2 y2 => ?_⟩
            by_cases eu : u = i
            · rw [eu, e] at y2
              injection y2 with y2
              injection y2 with y3 y4
              injection y4 with y4 y5
              exact q ⟨y3, y4⟩
            · exact y.2 u (by omega) p2 y2
theorem try59 {Q : MH → Prop} {h : MH} {v : NV} {s : AS} {a b : Nat} (hl : LX h) (p : NetV h a v) (ok : AsOK v s) (hb : b ∈ stL) (hq : ∀ g, Fr (ST2 b) h g → StV g b (encS (tryS v s)) → (∀ k, k < 360 → hI g 198 k = 0) → Q g) : ∀ n l g, l + n = nvL v → TrI h b (tryA v l s) g → wX7_tryLost_59 Q (n + 1) 197 a b (nI l) g := by
  have h4 := p.1.1
  intro n
  induction n with
  | zero =>
    intro l g hn t
    have hn : l = nvL v := by omega
    subst hn
    have pg := NetV_ST2 hb t.1 p
    unfold wX7_tryLost_59
    rw [pg.2.2.2.2.2.1]
    exact ⟨pg.2.1, fun _ => ⟨21, try135 hl p.1 (AsOK_tryS p.1 ok) hb hq 20 0 g (by omega) t.1 t.2.1 (fun c k hc hk => Or.inr ⟨t.2.2 c k hc hk, fun u hu => absurd hu (by omega)⟩)⟩, fun z => absurd (nI_le (Nat.le_refl _) (by omega)) z⟩
  | succ n ih =>
    intro l g hn t
    have pg := NetV_ST2 hb t.1 p
    unfold wX7_tryLost_59
    rw [pg.2.2.2.2.2.1]
    exact ⟨pg.2.1, fun z => absurd z (nI_ge (by omega) (by omega)), fun _ => ⟨nvW v l + 1, try70 hl p (AsOK_tryA p.1 ok l (by omega)) hb (by omega) (fun g2 t2 => ih (l + 1) g2 (by omega) t2) (nvW v l) 0 g (by omega) t⟩⟩
theorem n_tryLost {Q : MH → Prop} {h : MH} {v : NV} {s : AS} {a b : Nat} (hl : LX h) (p : NetV h a v) (ok : AsOK v s) (hb : b ∈ stL) (ps : StV h b (encS s)) (hz : ∀ k, k < 360 → hI h 198 k = 0) (hq : ∀ g, Fr (ST2 b) h g → StV g b (encS (tryS v s)) → (∀ k, k < 360 → hI g 198 k = 0) → Q g) : wX7_tryLost 197 a b h Q := by
  have h4 := p.1.1
  have eF : hI h b 1 = nI (asF s) := ps.2.1
  have lF := asF_lt ok (by omega)
  unfold wX7_tryLost
  rw [eF, nI_eq0 (by omega)]
  refine ⟨(st_S hl hb).1, fun _ => ⟨21, try10 hl p.1 ok hb (fun g t => ⟨nvL v + 1, try59 hl p ok hb hq (nvL v) 0 g (by omega) t⟩) 20 0 h (by omega) (Fr_rfl _ _) ps (BzI_0 hz)⟩, fun z => hq h (Fr_rfl _ _) ?_ hz⟩
  unfold tryS
  rw [tryA_zero _ _ z]
  exact ps
