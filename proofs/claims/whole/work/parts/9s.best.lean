/-! Part 9s: best. -/
theorem us_or {v : NV} {c l : Nat} : (bt (nvOn v c ||| nvCh v c) l = 0) ↔ usN v c l = 0 := by
  rw [bt_orN]
  unfold usN
  rcases bt01 (nvOn v c) l with a | a <;> rcases bt01 (nvCh v c) l with b | b <;> rw [a, b] <;> decide
theorem n_bestLoop {Q : Int32 → MH → Prop} {h : MH} {v : NV} {r : Nat} {lo : Option Nat} (hl : LX h) (hv : NvOK v) (hr : r < 10) (p : CvR h v r) (hlo : ∀ l, lo = some l → l < nvL v) (hq : Q (bsI v r (bsN v r lo (nvC v))) h) : ∀ n c, c + n = nvC v → wX0_bestFor_12 Q (bcN (nvMy v r) (nvC v) - bcN (nvMy v r) c + 1) 199 (liOf lo) (bsI v r (bsN v r lo c)) (nI (bcN (nvMy v r) c)) h := by
  have h4 := hv.1
  have hC := bcN_le (nvMy v r) (nvC v)
  intro n
  induction n with
  | zero =>
    intro k hn
    have hn : k = nvC v := by omega
    subst hn
    rw [Nat.sub_self]
    unfold wX0_bestFor_12
    rw [p.1]
    exact ⟨S_199 hl, fun _ => hq, fun z => absurd (nI_le (Nat.le_refl _) (by omega)) z⟩
  | succ n ih =>
    intro k hn
    have g1 := ih (k + 1) (by omega)
    have eb : bcN (nvMy v r) (k + 1) = bcN (nvMy v r) k + bt (nvMy v r) k := rfl
    have es : bsN v r lo (k + 1) = if bt (nvMy v r) k = 1 ∧ hasB v lo k ≠ 0 then bsT v r (bsN v r lo k) k else bsN v r lo k := rfl
    rcases bt01 (nvMy v r) k with b | b
    · rw [eb, b, es, if_neg (by omega)] at g1
      exact g1
    · have hc : k < nvC v := by omega
      have hlt := bcN_lt hc b
      have h3 := hv.2.2.1 k hc
      have o1 := lt_of_pow h3.2.1 (by omega)
      have o2 := lt_of_pow h3.2.2.2 (by omega)
      have oo : nvOn v k ||| nvCh v k < 1024 := Nat.or_lt_two_pow (n := 10) o1 o2
      rw [eb, b, es] at g1
      rw [show bcN (nvMy v r) (nvC v) - bcN (nvMy v r) k + 1 = (bcN (nvMy v r) (nvC v) - (bcN (nvMy v r) k + 1) + 1) + 1 from by omega]
      unfold wX0_bestFor_12
      rw [p.1]
      refine ⟨S_199 hl, fun z => absurd z (nI_ge hlt (by omega)), fun _ => ?_⟩
      cases lo with
      | none =>
        rw [if_pos ⟨b, Nat.one_ne_zero⟩] at g1
        exact ⟨fun _ => n_best52 hl hv hr p hc b (by decide) g1, fun z => absurd neg1_lt z⟩
      | some l =>
        have hl2 := hlo l rfl
        refine ⟨fun z => absurd z (nI_nn (by omega)), fun _ => ⟨200, R_199_3 hl, 40, S_200 hl, vp_in_nI (by omega) (by omega), 201, R_199_4 hl, 40, S_201 hl, vp_in_nI (by omega) (by omega), ?_⟩⟩
        rw [show liOf (some l) = nI l from rfl, nI_clamp (by omega), (p.2.2 k hc b).1, (p.2.2 k hc b).2.1, nI_or (by omega) (by omega), nI_bit (by omega) (by omega)]
        by_cases u : usN v k l = 0
        · rw [us_or.mpr u, if_pos nI_0]
          rw [if_neg (fun z => z.2 u)] at g1
          unfold wX0_bestFor_52
          rw [nI_add]
          exact ⟨fun _ => g1, fun z => absurd nI_0 z⟩
        · rw [if_pos ⟨b, u⟩] at g1
          rw [if_neg (fun z => u (us_or.mp ((nI_eq0 (Nat.lt_of_lt_of_le (bt_lt _ _) (by omega))).mp z)))]
          exact n_best52 hl hv hr p hc b (by decide) g1
theorem m_bestLoop {Q : Int32 → MH → Prop} {h : MH} {v : NV} {r : Nat} {lo : Option Nat} (hl : LX h) (hv : NvOK v) (hr : r < 10) (p : RgV h v r) (hlo : ∀ l, lo = some l → l < nvL v) (hq : Q (bsI v r (bsN v r lo (nvC v))) h) : ∀ n c, c + n = nvC v → wX10_cheapestFor_4 Q (bcN (nvMy v r) (nvC v) - bcN (nvMy v r) c + 1) 223 (liOf lo) (bsI v r (bsN v r lo c)) (nI (bcN (nvMy v r) c)) h := by
  have h4 := hv.1
  have hC := bcN_le (nvMy v r) (nvC v)
  intro n
  induction n with
  | zero =>
    intro k hn
    have hn : k = nvC v := by omega
    subst hn
    rw [Nat.sub_self]
    unfold wX10_cheapestFor_4
    rw [p.1]
    exact ⟨S_223 hl, fun _ => hq, fun z => absurd (nI_le (Nat.le_refl _) (by omega)) z⟩
  | succ n ih =>
    intro k hn
    have g1 := ih (k + 1) (by omega)
    have eb : bcN (nvMy v r) (k + 1) = bcN (nvMy v r) k + bt (nvMy v r) k := rfl
    have es : bsN v r lo (k + 1) = if bt (nvMy v r) k = 1 ∧ hasB v lo k ≠ 0 then bsT v r (bsN v r lo k) k else bsN v r lo k := rfl
    rcases bt01 (nvMy v r) k with b | b
    · rw [eb, b, es, if_neg (by omega)] at g1
      exact g1
    · have hc : k < nvC v := by omega
      have hlt := bcN_lt hc b
      rw [eb, b, es] at g1
      rw [show bcN (nvMy v r) (nvC v) - bcN (nvMy v r) k + 1 = (bcN (nvMy v r) (nvC v) - (bcN (nvMy v r) k + 1) + 1) + 1 from by omega]
      unfold wX10_cheapestFor_4
      rw [p.1]
      refine ⟨S_223 hl, fun z => absurd z (nI_ge hlt (by omega)), fun _ => ?_⟩
      cases lo with
      | none =>
        rw [if_pos ⟨b, Nat.one_ne_zero⟩] at g1
        exact ⟨fun _ => m_best26 hl hv hr p hc b g1, fun z => absurd rfl z⟩
      | some l =>
        have hl2 := hlo l rfl
        refine ⟨fun z => absurd z (nI_nm (by omega)), fun _ => m_useOf hl hv p hc b hl2 ?_⟩
        have hu := (us_cases hv hc hl2).1
        by_cases u : usN v k l = 0
        · rw [if_neg (fun z => z.2 u)] at g1
          rw [nI_add]
          exact ⟨fun _ => g1, fun z => absurd ((nI_le0 (by omega)).mpr u) z⟩
        · rw [if_pos ⟨b, u⟩] at g1
          exact ⟨fun z => absurd ((nI_le0 (by omega)).mp z) u, fun _ => m_best26 hl hv hr p hc b g1⟩
theorem n_bestFor {lp : NV → Nat → Nat → Nat} {A : Nat} {Q : Int32 → MH → Prop} {h : MH} {v : NV} {a r : Nat} {lo : Option Nat} (hl : LX h) (cv : CVA lp A h) (hA : A < 2 ^ 40) (p : NetV h a v) (hr : r < 10) (hlo : ∀ l, lo = some l → l < nvL v) (hq : ∀ g, LkF h g → CVA lp (A + 1) g → hR g 199 0 = some a → hI g 199 1 = nI r → CvR g v r → Q (bsI v r (bsN v r lo (nvC v))) g) : wX0_bestFor 199 a (nI r) (liOf lo) h Q :=
  ⟨S_199 hl, n_lookAt hl cv hA p hr (fun g f cg ag ig cr => ⟨_, n_bestLoop (LX_LkF f hl) p.1 hr cr hlo (hq g f cg ag ig cr) (nvC v) 0 (by omega)⟩)⟩
theorem m_cheapestFor {Q : Int32 → MH → Prop} {h : MH} {v : NV} {r : Nat} {lo : Option Nat} (hl : LX h) (hv : NvOK v) (hr : r < 10) (p : RgV h v r) (hlo : ∀ l, lo = some l → l < nvL v) (hq : Q (bsI v r (bsN v r lo (nvC v))) h) : wX10_cheapestFor 223 (liOf lo) h Q := ⟨_, m_bestLoop hl hv hr p hlo hq (nvC v) 0 (by omega)⟩
def ST2_best (R R2 : MH → Prop) : Prop := ∀ (h : MH), R h → ∀ P : Int32 → MH → Prop, (∀ (r : Int32) (h1 : MH), hS h1 223 = (1, 10) → (∀ P2 : Int32 → MH → Prop, (∀ h2 : MH, R2 h2 → P2 r h2) → wX10_best 223 h1 P2) → P r h1) → wX9_best 128 h P
theorem ST2_best_c {lp : NV → Nat → Nat → Nat} {A : Nat} (hA : A < 2 ^ 40) : ST2_best (RLY (RRc (CVA lp A))) (RLY (RRc (CVA lp (A + 1)))) := by
  intro h hr P kP
  obtain ⟨hl, t1, t2, d, ok, c, m⟩ := hr
  obtain ⟨⟨a, ca, cn⟩, cs, _, _, _, cv⟩ := id c
  refine ⟨S_128 hl, 199, R_128_7 hl, a, ca, 146, R_128_2 hl, S_146 hl, S_199 hl, ?_⟩
  rw [show hI h 146 0 = nI (asR (dS d)) from cs.1]
  refine n_bestFor (lo := none) hl cv hA cn ok.1.1 (fun l z => by cases z) (fun g f cg ag ig cr => ?_)
  obtain ⟨hlg, tg, cpg, mg⟩ := lk_at hl t1 t2 c m f cg
  refine kP _ _ (S_223 hlg) (fun P2 k2 => ⟨S_223 hlg, fun g2 e2 => ?_⟩)
  have m2 : MP g2 d := by rw [e2]; exact MP_thrown mg
  have f2 : FrM g g2 := by rw [e2]; exact FrM_thrown _ _
  exact m_cheapestFor (lo := none) (LX_Fr f2.1 hlg) cn.1 ok.1.1 m2.2.2.1 (fun l z => by cases z) (k2 _ (st_close2 (CVA_keep lp (A + 1)) hlg tg cpg f2 m2 ok))
