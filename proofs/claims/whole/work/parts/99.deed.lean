/-! ===== told deeds ===== -/
theorem lgc_lt {a b : Int64} : (lg_cmp a b < 0) ↔ a.toInt < b.toInt := by
  unfold lg_cmp
  by_cases q : a > b
  · rw [if_pos q]
    have q2 : b.toInt < a.toInt := Int64.lt_iff_toInt_lt.mp q
    exact ⟨fun z => absurd z (by decide), fun z => by omega⟩
  · rw [if_neg q]
    have q2 : ¬ (b.toInt < a.toInt) := fun z => q (Int64.lt_iff_toInt_lt.mpr z)
    by_cases e : a = b
    · rw [if_pos e, e]
      exact ⟨fun z => absurd z (by decide), fun z => by omega⟩
    · rw [if_neg e]
      have e2 : a.toInt ≠ b.toInt := fun z => e (Int64.toInt_inj.mp z)
      exact ⟨fun _ => by omega, fun _ => by decide⟩
theorem lgc_le {a b : Int64} : (lg_cmp a b ≤ 0) ↔ a.toInt ≤ b.toInt := by
  unfold lg_cmp
  by_cases q : a > b
  · rw [if_pos q]
    have q2 : b.toInt < a.toInt := Int64.lt_iff_toInt_lt.mp q
    exact ⟨fun z => absurd z (by decide), fun z => by omega⟩
  · rw [if_neg q]
    have q2 : ¬ (b.toInt < a.toInt) := fun z => q (Int64.lt_iff_toInt_lt.mpr z)
    by_cases e : a = b
    · rw [if_pos e, e]
      exact ⟨fun _ => by omega, fun _ => by decide⟩
    · rw [if_neg e]
      exact ⟨fun _ => by omega, fun _ => by decide⟩
theorem ff_none {P : Nat → Prop} {N : Nat} : ∀ n j, N - j = n → ffS P N j = none → ∀ i, j ≤ i → i < N → ¬ P i := by
  intro n
  induction n with
  | zero =>
    intro j hn _ i h1 h2
    omega
  | succ n ih =>
    intro j hn e i h1 h2 p
    by_cases q : P j
    · rw [ff_hit (by omega) q] at e
      exact absurd e (by simp)
    · rw [ff_skip q] at e
      by_cases z : i = j
      · rw [z] at p; exact q p
      · exact ih (j + 1) (by omega) e i (by omega) h2 p
/-- the cycle of a ring's number -/
noncomputable def rgI (v : NV) (r n : Nat) : Option Nat := ffS (fun c => bt (nvMy v r) c = 1 ∧ bcN (nvMy v r) c = n) (nvC v) 0
theorem rgI_some {v : NV} {r n c : Nat} (hv : NvOK v) (hn : n < 2 ^ 30) (h : isRg v r (nI n) c) : rgI v r n = some c := by
  have hlt := isRg_lt hv h
  have e : bcN (nvMy v r) c = n := ((nI_eq (by omega) (by omega)).mp h.2.2).symm
  cases q : rgI v r n with
  | none => exact absurd ⟨h.2.1, e⟩ (ff_none _ 0 rfl q c (by omega) h.1)
  | some d =>
    have hd := (ff_some _ 0 d rfl q).2
    rw [ring_inj h.2.1 hd.1 (e.trans hd.2.symm)]
theorem rgI_none {v : NV} {r n : Nat} (h : ¬ ∃ c, isRg v r (nI n) c) : rgI v r n = none := by
  cases q : rgI v r n with
  | none => rfl
  | some d =>
    have hd := ff_some _ 0 d rfl q
    exact absurd ⟨d, hd.1, hd.2.1, by rw [hd.2.2]⟩ h
noncomputable def deedL (v : NV) (s : AS) : Option Nat → Nat × AS
  | none => (1, s)
  | some c => if asC s c = 9 then (2, s) else (0, dLay v s c)
noncomputable def deedT (v : NV) (s : AS) : Option Nat → Nat × AS
  | none => (1, s)
  | some c => if asC s c = 0 then (2, s) else (0, dTake v s c)
noncomputable def deedX (v : NV) (s : AS) (l : Nat) : Nat × AS := if l < nvL v then (if bt (asF s) l = 1 then (2, s) else (0, dFail v s l)) else (1, s)
noncomputable def deedM (v : NV) (s : AS) (l : Nat) : Nat × AS := if l < nvL v then (if bt (asF s) l = 1 then (0, dMend v s l) else (2, s)) else (1, s)
/-- a told deed: why not (0: done), the state behind it -/
noncomputable def deedF (v : NV) (s : AS) (z : Int) : Nat × AS :=
  if 10 ≤ z ∧ z ≤ 19 then (0, dRate v s (z - 10).toNat) else
  if 100 ≤ z ∧ z ≤ 109 then deedX v s (z - 100).toNat else
  if 110 ≤ z ∧ z ≤ 119 then deedM v s (z - 110).toNat else
  if 200 ≤ z ∧ z ≤ 299 then deedL v s (rgI v (asR s) (z - 200).toNat) else
  if 300 ≤ z ∧ z ≤ 399 then deedT v s (rgI v (asR s) (z - 300).toNat) else (1, s)
theorem deedF_rate {v : NV} {s : AS} {r : Nat} (h : r < 10) : deedF v s ((10 + r : Nat) : Int) = (0, dRate v s r) := by
  unfold deedF
  rw [if_pos (by omega), show (((10 + r : Nat) : Int) - 10).toNat = r from by omega]
theorem deedF_fail {v : NV} {s : AS} {r : Nat} (h : r < 10) : deedF v s ((100 + r : Nat) : Int) = deedX v s r := by
  unfold deedF
  rw [if_neg (by omega), if_pos (by omega), show (((100 + r : Nat) : Int) - 100).toNat = r from by omega]
theorem deedF_mend {v : NV} {s : AS} {r : Nat} (h : r < 10) : deedF v s ((110 + r : Nat) : Int) = deedM v s r := by
  unfold deedF
  rw [if_neg (by omega), if_neg (by omega), if_pos (by omega), show (((110 + r : Nat) : Int) - 110).toNat = r from by omega]
theorem deedF_lay {v : NV} {s : AS} {r : Nat} (h : r < 100) : deedF v s ((200 + r : Nat) : Int) = deedL v s (rgI v (asR s) r) := by
  unfold deedF
  rw [if_neg (by omega), if_neg (by omega), if_neg (by omega), if_pos (by omega), show (((200 + r : Nat) : Int) - 200).toNat = r from by omega]
theorem deedF_take {v : NV} {s : AS} {r : Nat} (h : r < 100) : deedF v s ((300 + r : Nat) : Int) = deedT v s (rgI v (asR s) r) := by
  unfold deedF
  rw [if_neg (by omega), if_neg (by omega), if_neg (by omega), if_neg (by omega), if_pos (by omega), show (((300 + r : Nat) : Int) - 300).toNat = r from by omega]
theorem deedF_no {v : NV} {s : AS} {z : Int} (h : ¬ (10 ≤ z ∧ z ≤ 19) ∧ ¬ (100 ≤ z ∧ z ≤ 119) ∧ ¬ (200 ≤ z ∧ z ≤ 399)) : deedF v s z = (1, s) := by
  unfold deedF
  rw [if_neg (by omega), if_neg (by omega), if_neg (by omega), if_neg (by omega), if_neg (by omega)]
theorem deedF_ok {v : NV} {s : AS} (hv : NvOK v) (ok : AsOK v s) (z : Int) : AsOK v (deedF v s z).2 := by
  unfold deedF
  by_cases q1 : 10 ≤ z ∧ z ≤ 19
  · rw [if_pos q1]; exact AsOK_dRate ok (by omega)
  · rw [if_neg q1]
    by_cases q2 : 100 ≤ z ∧ z ≤ 109
    · rw [if_pos q2]
      unfold deedX
      by_cases a : (z - 100).toNat < nvL v
      · rw [if_pos a]
        by_cases b : bt (asF s) (z - 100).toNat = 1
        · rw [if_pos b]; exact ok
        · rw [if_neg b]; exact AsOK_tryS hv (AsOK_clF hv ok a)
      · rw [if_neg a]; exact ok
    · rw [if_neg q2]
      by_cases q3 : 110 ≤ z ∧ z ≤ 119
      · rw [if_pos q3]
        unfold deedM
        by_cases a : (z - 110).toNat < nvL v
        · rw [if_pos a]
          by_cases b : bt (asF s) (z - 110).toNat = 1
          · rw [if_pos b]; exact AsOK_tryS hv (AsOK_clM ok)
          · rw [if_neg b]; exact ok
        · rw [if_neg a]; exact ok
      · rw [if_neg q3]
        by_cases q4 : 200 ≤ z ∧ z ≤ 299
        · rw [if_pos q4]
          cases e : rgI v (asR s) (z - 200).toNat with
          | none => exact ok
          | some c =>
            have hc := ff_some _ 0 c rfl e
            have h4 := hv.1
            have h9 := (ok.2.2.1 c (by omega)).1
            show AsOK v (if asC s c = 9 then (2, s) else (0, dLay v s c)).2
            by_cases b : asC s c = 9
            · rw [if_pos b]; exact ok
            · rw [if_neg b]; exact AsOK_tryS hv (AsOK_clL ok hc.2.1 (by omega))
        · rw [if_neg q4]
          by_cases q5 : 300 ≤ z ∧ z ≤ 399
          · rw [if_pos q5]
            cases e : rgI v (asR s) (z - 300).toNat with
            | none => exact ok
            | some c =>
              show AsOK v (if asC s c = 0 then (2, s) else (0, dTake v s c)).2
              by_cases b : asC s c = 0
              · rw [if_pos b]; exact ok
              · rw [if_neg b]; exact AsOK_tryS hv (AsOK_clT ok (by omega))
          · rw [if_neg q5]; exact ok
/-- the class does a told deed -/
theorem n_doDeed {Q : Int32 → MH → Prop} {h : MH} {v : NV} {s : AS} {a b : Nat} {x : Int64} (hl : LX h) (p : NetV h a v) (ok : AsOK v s) (hb : b ∈ stL) (ps : StV h b (encS s)) (hz : ∀ k, k < 360 → hI h 198 k = 0) (hq : ∀ g, Fr (SD b) h g → StV g b (encS (deedF v s x.toInt).2) → (∀ k, k < 360 → hI g 198 k = 0) → Q (nI (deedF v s x.toInt).1) g) : wX7_doDeed 197 a b x h Q := by
  have h4 := p.1.1
  have l10 : (10 : Int64).toInt = 10 := by decide
  have l399 : (399 : Int64).toInt = 399 := by decide
  have no : ¬ (10 ≤ x.toInt ∧ x.toInt ≤ 19) ∧ ¬ (100 ≤ x.toInt ∧ x.toInt ≤ 119) ∧ ¬ (200 ≤ x.toInt ∧ x.toInt ≤ 399) → Q (nI 1) h := fun q => by
    have := hq h (Fr_rfl _ _)
    rw [deedF_no q] at this
    exact this ps hz
  unfold wX7_doDeed
  rw [lgc_lt, lgc_le, l10, l399]
  refine ⟨fun z => no (by omega), fun z => ⟨fun z2 => ?_, fun z2 => no (by omega)⟩⟩
  obtain ⟨n, hn, en⟩ : ∃ n : Nat, 10 ≤ n ∧ n ≤ 399 ∧ x.toInt = (n : Int) := ⟨x.toInt.toNat, by omega, by omega, by omega⟩
  have ei : x.toInt32 = nI n := by
    apply Int32.toInt_inj.mp
    rw [Int64.toInt_toInt32, en.2, nI_toInt (by omega), Int.bmod_eq_of_le (by omega) (by omega)]
  rw [ei]
  rw [en.2] at hq no
  have d109 : (n < 100 ∨ 110 ≤ n → Q (nI 1) h) → (100 ≤ n → n < 110 → wX7_failLink 197 a b (nI (n - 100)) h (fun r2 h3 => Q r2 h3)) → wX7_doDeed_109 Q 197 a b (nI n) h := fun k1 k2 => by
    unfold wX7_doDeed_109
    refine ⟨fun y => k1 ?_, fun y => ⟨fun y2 => k1 ?_, fun y2 => ⟨S_197 hl, ?_⟩⟩⟩
    · rw [Int32.lt_iff_toInt_lt, nI_toInt (by omega), nI_toInt (by omega)] at y; omega
    · rw [Int32.le_iff_toInt_le, nI_toInt (by omega), nI_toInt (by omega)] at y2; omega
    · rw [Int32.lt_iff_toInt_lt, nI_toInt (by omega), nI_toInt (by omega)] at y
      rw [Int32.le_iff_toInt_le, nI_toInt (by omega), nI_toInt (by omega)] at y2
      rw [nI_subN (by omega)]
      exact k2 (by omega) (by omega)
  have fl : 100 ≤ n → n < 110 → wX7_failLink 197 a b (nI (n - 100)) h (fun r2 h3 => Q r2 h3) := fun c1 c2 => by
    have e : (n : Int) = ((100 + (n - 100) : Nat) : Int) := by omega
    rw [e, deedF_fail (by omega)] at hq
    unfold deedX at hq
    refine n_failLink hl p ok hb ps hz (fun k => ?_) (fun l hk k => ?_) (fun l hk k g fg pg zg => ?_)
    · have : ¬ (n - 100 < nvL v) := fun q => k ⟨_, q, rfl⟩
      rw [if_neg this] at hq
      exact hq h (Fr_rfl _ _) ps hz
    · have hk1 := hk.1
      have e2 : n - 100 = l := (nI_eq (by omega) (by omega)).mp hk.2
      rw [e2, if_pos hk.1, if_pos k] at hq
      exact hq h (Fr_rfl _ _) ps hz
    · have hk1 := hk.1
      have e2 : n - 100 = l := (nI_eq (by omega) (by omega)).mp hk.2
      rw [e2, if_pos hk.1, if_neg (by omega)] at hq
      exact hq g fg pg zg
  have no2 : (n < 100 ∨ 110 ≤ n) → ¬ (n < 20) → ¬ (110 ≤ n ∧ n < 120) → n < 200 → Q (nI 1) h := fun c1 c2 c3 c4 => no (by omega)
  have lt : ∀ k : Nat, k < 2 ^ 30 → ((nI n < nI k) ↔ n < k) := fun k hk => by rw [Int32.lt_iff_toInt_lt, nI_toInt (by omega), nI_toInt (by omega)]; omega
  have le : ∀ k : Nat, k < 2 ^ 30 → ((nI k ≤ nI n) ↔ k ≤ n) := fun k hk => by rw [Int32.le_iff_toInt_le, nI_toInt (by omega), nI_toInt (by omega)]; omega
  rw [le 20 (by omega), lt 300 (by omega), lt 200 (by omega), lt 110 (by omega), le 120 (by omega)]
  refine ⟨fun c1 => ⟨fun c2 => ⟨fun c3 => ⟨fun c4 => d109 (fun c5 => no2 c5 (by omega) (by omega) c3) fl, fun c4 => ⟨fun c5 => d109 (fun c6 => no2 c6 (by omega) (by omega) c3) fl, fun c5 => ⟨S_197 hl, ?_⟩⟩⟩, fun c3 => ⟨S_197 hl, ?_⟩⟩, fun c2 => ⟨S_197 hl, ?_⟩⟩, fun c1 => ⟨S_197 hl, ?_⟩⟩
  · rw [nI_subN (by omega)]
    have e : (n : Int) = ((110 + (n - 110) : Nat) : Int) := by omega
    rw [e, deedF_mend (by omega)] at hq
    unfold deedM at hq
    refine n_mendLink hl p ok hb ps hz (fun k => ?_) (fun l hk k => ?_) (fun l hk k g fg pg zg => ?_)
    · have : ¬ (n - 110 < nvL v) := fun q => k ⟨_, q, rfl⟩
      rw [if_neg this] at hq
      exact hq h (Fr_rfl _ _) ps hz
    · have hk1 := hk.1
      have e2 : n - 110 = l := (nI_eq (by omega) (by omega)).mp hk.2
      rw [e2, if_pos hk.1, if_neg (by omega)] at hq
      exact hq h (Fr_rfl _ _) ps hz
    · have hk1 := hk.1
      have e2 : n - 110 = l := (nI_eq (by omega) (by omega)).mp hk.2
      rw [e2, if_pos hk.1, if_pos k] at hq
      exact hq g fg pg zg
  · rw [nI_subN (by omega)]
    have e : (n : Int) = ((200 + (n - 200) : Nat) : Int) := by omega
    rw [e, deedF_lay (by omega)] at hq
    refine n_layCopy hl p ok hb ps hz (fun k => ?_) (fun c hc k => ?_) (fun c hc k g fg pg zg => ?_)
    · rw [rgI_none k] at hq
      exact hq h (Fr_rfl _ _) ps hz
    · rw [rgI_some p.1 (by omega) hc, show deedL v s (some c) = (2, s) from if_pos k] at hq
      exact hq h (Fr_rfl _ _) ps hz
    · rw [rgI_some p.1 (by omega) hc, show deedL v s (some c) = (0, dLay v s c) from if_neg (by omega)] at hq
      exact hq g fg pg zg
  · rw [nI_subN (by omega)]
    have e : (n : Int) = ((300 + (n - 300) : Nat) : Int) := by omega
    rw [e, deedF_take (by omega)] at hq
    refine n_takeCopy hl p ok hb ps hz (fun k => ?_) (fun c hc k => ?_) (fun c hc k g fg pg zg => ?_)
    · rw [rgI_none k] at hq
      exact hq h (Fr_rfl _ _) ps hz
    · rw [rgI_some p.1 (by omega) hc, show deedT v s (some c) = (2, s) from if_pos k] at hq
      exact hq h (Fr_rfl _ _) ps hz
    · rw [rgI_some p.1 (by omega) hc, show deedT v s (some c) = (0, dTake v s c) from if_neg (by omega)] at hq
      exact hq g fg pg zg
  · rw [nI_subN (by omega)]
    have e : (n : Int) = ((10 + (n - 10) : Nat) : Int) := by omega
    rw [e, deedF_rate (by omega)] at hq
    refine n_changeRate hl p ok hb ps hz (fun k => ?_) (fun r hr er g fg pg zg => ?_)
    · rw [nI_toInt (by omega)] at k
      omega
    · have e2 : n - 10 = r := (nI_eq (by omega) (by omega)).mp er
      rw [e2] at hq
      exact hq g fg pg zg
