/-! Part 9x: in how many ways: the class. -/
def sumF (g : Nat → Nat) : Nat → Nat → Nat
  | 0, _ => 0
  | m + 1, c => g c + sumF g m (c + 1)
/-- in how many ways n rings from cycle c0 on cover what lacks -/
def wyN (v : NV) (r : Nat) : Nat → Nat → (Nat → Nat) → Nat
  | 0, _, f => if nedB f 1 (nvL v) = 0 then 1 else 0
  | n + 1, c0, f => sumF (fun c => if bt (nvMy v r) c = 1 then wyN v r n c (fBh v c f) else 0) (nvC v - c0) c0
theorem fBh_2 {v : NV} {c : Nat} {f : Nat → Nat} (hf : ∀ l, l < nvL v → f l ≤ 2) : ∀ l, l < nvL v → fBh v c f l ≤ 2 := fun l hl => by
  have := hf l hl
  unfold fBh
  omega
theorem n_waysFrom {v : NV} {r : Nat} (hv : NvOK v) : ∀ n d c0 f h (Q : Int32 → MH → Prop), 2 + n ≤ d → n < 100 → LX h → CvR h v r → c0 ≤ nvC v → (∀ l, l < nvL v → f l ≤ 2) → Q (nI (wyN v r n c0 f)) h → Cm MX0_waysFrom d 0 0 [.ref 199, .int (nI (bcN (nvMy v r) c0)), .int (nI n), .int (nI (nedB f 1 (nvL v))), .int (nI (nedB f 2 (nvL v)))] h (pI Q) := by
  have h4 := hv.1
  have hC := bcN_le (nvMy v r) (nvC v)
  intro n
  induction n with
  | zero =>
    intro d c0 f h Q hd hn hl p hc hf hq
    have g1 := lt_of_pow (nedB_lt f 1 (nvL v)) (by omega)
    refine gX0_waysFrom (PX0_waysFrom := fun _ _ _ _ _ _ _ => False) (d2 := 0) (by omega) (by omega) (fun _ _ _ _ _ _ _ q => q.elim) _ _ _ _ _ h Q ⟨fun z => absurd z (by decide), fun _ => ?_⟩
    unfold wyN at hq
    by_cases q : nedB f 1 (nvL v) = 0
    · rw [if_pos q] at hq
      rw [if_pos ((nI_eq0 (by omega)).mpr q)]
      exact hq
    · rw [if_neg q] at hq
      rw [if_neg (fun z => q ((nI_eq0 (by omega)).mp z))]
      exact hq
  | succ n ih =>
    intro d c0 f h Q hd hn hl p hc hf hq
    have lp : ∀ m c acc, c + m = nvC v → Q (nI (acc + sumF (fun c => if bt (nvMy v r) c = 1 then wyN v r n c (fBh v c f) else 0) m c)) h → wX0_waysFrom_20 Q (fun y0 y1 y2 y3 y4 h Q => Cm MX0_waysFrom (d - 1) 0 0 [.ref y0, .int y1, .int y2, .int y3, .int y4] h (pI Q)) (bcN (nvMy v r) (nvC v) - bcN (nvMy v r) c + 1) 199 (nI (n + 1)) (nI (nedB f 1 (nvL v))) (nI (nedB f 2 (nvL v))) (nI acc) (nI (bcN (nvMy v r) c)) h := by
      intro m
      induction m with
      | zero =>
        intro c acc hm hq
        have hm : c = nvC v := by omega
        subst hm
        rw [Nat.sub_self]
        unfold wX0_waysFrom_20
        rw [p.1]
        exact ⟨S_199 hl, fun _ => hq, fun z => absurd (nI_le (Nat.le_refl _) (by omega)) z⟩
      | succ m im =>
        intro c acc hm hq
        have g1 := im (c + 1)
        have eb : bcN (nvMy v r) (c + 1) = bcN (nvMy v r) c + bt (nvMy v r) c := rfl
        unfold sumF at hq
        rcases bt01 (nvMy v r) c with b | b
        · rw [if_neg (by omega), Nat.zero_add] at hq
          have g2 := g1 acc (by omega) hq
          rw [eb, b] at g2
          exact g2
        · rw [if_pos b, ← Nat.add_assoc] at hq
          have g2 := g1 _ (by omega) hq
          have hcc : c < nvC v := by omega
          have hlt := bcN_lt hcc b
          rw [eb, b] at g2
          rw [show bcN (nvMy v r) (nvC v) - bcN (nvMy v r) c + 1 = (bcN (nvMy v r) (nvC v) - (bcN (nvMy v r) c + 1) + 1) + 1 from by omega]
          unfold wX0_waysFrom_20
          rw [p.1, nI_subN (by omega), nI_add]
          refine ⟨S_199 hl, fun z => absurd z (nI_ge hlt (by omega)), fun _ => n_onceBehind hl hv p hcc b hf ⟨S_199 hl, n_twiceBehind hl hv p hcc b hf ⟨S_199 hl, ?_⟩⟩⟩
          refine ih (d - 1) c (fBh v c f) h _ (by omega) (by omega) hl p (by omega) (fBh_2 hf) ?_
          rw [nI_add]
          exact g2
    refine gX0_waysFrom (PX0_waysFrom := fun y0 y1 y2 y3 y4 h Q => Cm MX0_waysFrom (d - 1) 0 0 [.ref y0, .int y1, .int y2, .int y3, .int y4] h (pI Q)) (d2 := d - 1) (by omega) (by omega) (fun _ _ _ _ _ _ _ q => q) _ _ _ _ _ h Q ⟨fun _ => ⟨_, lp (nvC v - c0) c0 0 (by omega) (by rw [Nat.zero_add]; exact hq)⟩, fun z => ?_⟩
    exact absurd ((nI_le0 (k := n + 1) (by omega)).mp (Int32.not_lt.mp z)) (by omega)
