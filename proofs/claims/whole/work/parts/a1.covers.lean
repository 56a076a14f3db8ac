/-! Part a1: in how many ways: the reference. -/
theorem nedB_zero {v : NV} {f : Nat → Nat} : (nedB f 1 (nvL v) = 0) ↔ ∀ l, l < nvL v → f l = 0 := by
  constructor
  · intro e l hl
    have h := nedB_bt f 1 (nvL v) l
    rw [e, show bt 0 l = 0 from by unfold bt; rw [Nat.zero_div]] at h
    by_cases q : 1 ≤ f l
    · rw [if_pos ⟨hl, q⟩] at h
      omega
    · omega
  · intro h
    apply Nat.eq_of_testBit_eq
    intro i
    rw [nedB_tb, Nat.zero_testBit]
    exact decide_eq_false (fun z => by have := h i z.1; omega)
theorem lak_ned {v : NV} {f : Nat → Nat} (hv : NvOK v) : (lakN v f 10 = 0) ↔ nedB f 1 (nvL v) = 0 := by
  have h4 := hv.1
  rw [nedB_zero]
  exact lakN_zero 10 (by omega)
theorem lakN_top {v : NV} {f : Nat → Nat} : ∀ n, lakN v f (nvL v + n) = lakN v f (nvL v)
  | 0 => rfl
  | n + 1 => by
    show lakN v f (nvL v + n) + (if nvL v + n < nvL v then f (nvL v + n) else 0) * 3 ^ (nvL v + n) = _
    rw [if_neg (by omega), Nat.zero_mul, lakN_top n]
    rfl
theorem m_coversFrom {v : NV} {r : Nat} (hv : NvOK v) : ∀ n d c0 f h (Q : Int32 → MH → Prop), 3 + n ≤ d → n < 100 → LX h → MNet (hI h 224) v → RgV h v r → (∀ l, l < 10 → hI h 238 l = nI (3 ^ l)) → c0 ≤ nvC v → (∀ l, l < nvL v → f l ≤ 2) → Q (nI (wyN v r n c0 f)) h → Cm MX10_coversFrom d 0 0 [.ref 223, .int (nI (lakN v f 10)), .int (nI (bcN (nvMy v r) c0)), .int (nI n)] h (pI Q) := by
  have h4 := hv.1
  have hC := bcN_le (nvMy v r) (nvC v)
  intro n
  induction n with
  | zero =>
    intro d c0 f h Q hd hn hl pn p p3 hc hf hq
    have g1 := lakN_lt hf 10
    refine gX10_coversFrom (PX10_coversFrom := fun _ _ _ _ _ _ => False) (d2 := 0) (by omega) (by omega) (fun _ _ _ _ _ _ q => q.elim) _ _ _ _ h Q ⟨fun z => absurd nI_0 z, fun _ => ?_⟩
    unfold wyN at hq
    by_cases q : nedB f 1 (nvL v) = 0
    · rw [if_pos q] at hq
      rw [if_pos ((nI_eq0 (by omega)).mpr ((lak_ned hv).mpr q))]
      exact hq
    · rw [if_neg q] at hq
      rw [if_neg (fun z => q ((lak_ned hv).mp ((nI_eq0 (by omega)).mp z)))]
      exact hq
  | succ n ih =>
    intro d c0 f h Q hd hn hl pn p p3 hc hf hq
    have lp : ∀ m c acc, c + m = nvC v → Q (nI (acc + sumF (fun c => if bt (nvMy v r) c = 1 then wyN v r n c (fBh v c f) else 0) m c)) h → wX10_coversFrom_20 Q (fun y0 y1 y2 y3 h Q => Cm MX10_coversFrom (d - 1) 0 0 [.ref y0, .int y1, .int y2, .int y3] h (pI Q)) (bcN (nvMy v r) (nvC v) - bcN (nvMy v r) c + 1) 223 (nI (lakN v f 10)) (nI (n + 1)) (nI acc) (nI (bcN (nvMy v r) c)) h := by
      intro m
      induction m with
      | zero =>
        intro c acc hm hq
        have hm : c = nvC v := by omega
        subst hm
        rw [Nat.sub_self]
        unfold wX10_coversFrom_20
        rw [p.1]
        exact ⟨S_223 hl, fun _ => hq, fun z => absurd (nI_le (Nat.le_refl _) (by omega)) z⟩
      | succ m im =>
        intro c acc hm hq
        have g1 := im (c + 1)
        have eb : bcN (nvMy v r) (c + 1) = bcN (nvMy v r) c + bt (nvMy v r) c := rfl
        unfold sumF at hq
        rcases bt01 (nvMy v r) c with b | b
        · rw [if_neg (by omega), Nat.zero_add] at hq
          have g2 := g1 acc (by omega) hq
          rw [eb, b] at g2
          exact g2
        · rw [if_pos b, ← Nat.add_assoc] at hq
          have g2 := g1 _ (by omega) hq
          have hcc : c < nvC v := by omega
          have hlt := bcN_lt hcc b
          rw [eb, b] at g2
          rw [show bcN (nvMy v r) (nvC v) - bcN (nvMy v r) c + 1 = (bcN (nvMy v r) (nvC v) - (bcN (nvMy v r) c + 1) + 1) + 1 from by omega]
          unfold wX10_coversFrom_20
          rw [p.1, nI_subN (by omega), nI_add]
          refine ⟨S_223 hl, fun z => absurd z (nI_ge hlt (by omega)), fun _ => m_lackWith hl hv pn p hcc b p3 hf ⟨S_223 hl, ?_⟩⟩
          refine ih (d - 1) c (fBh v c f) h _ (by omega) (by omega) hl pn p p3 (by omega) (fBh_2 hf) ?_
          rw [nI_add]
          exact g2
    refine gX10_coversFrom (PX10_coversFrom := fun y0 y1 y2 y3 h Q => Cm MX10_coversFrom (d - 1) 0 0 [.ref y0, .int y1, .int y2, .int y3] h (pI Q)) (d2 := d - 1) (by omega) (by omega) (fun _ _ _ _ _ _ q => q) _ _ _ _ h Q ⟨fun _ => ⟨_, lp (nvC v - c0) c0 0 (by omega) (by rw [Nat.zero_add]; exact hq)⟩, fun z => ?_⟩
    exact absurd ((nI_eq0 (n := n + 1) (by omega)).mp z) (by omega)
