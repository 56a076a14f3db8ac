/-! ===== feed and fault: their promises, whatever else the relation holds ===== -/
def isB (x : Int32) : Prop := ∃ b : Nat, b < 256 ∧ x = nI b
def TPr (f g : Nat → Int32) (n : Nat) : Prop := ∀ k, k < n → f k = sgn8 (g k) ∧ isB (g k)
theorem mB8_isB (x s : Int32) : isB (mB8 x s) := by
  refine ⟨((x >>> (s &&& 31)).toBitVec &&& 255#32).toNat, ?_, ?_⟩
  · have h1 : ((x >>> (s &&& 31)).toBitVec &&& 255#32).toNat ≤ 255 := by
      rw [BitVec.toNat_and]
      exact Nat.and_le_right
    omega
  · apply Int32.toBitVec_inj.mp
    unfold mB8 nI
    simp
theorem TPr_up {f g : Nat → Int32} {n : Nat} {v w : Int32} (hr : TPr f g n) (e : v = sgn8 w) (hb : isB w) : TPr (up1 f n v) (up1 g n w) (n + 1) := by
  intro k hk
  unfold up1
  by_cases c : k = n
  · rw [if_pos c, if_pos c]; exact ⟨e, hb⟩
  · rw [if_neg c, if_neg c]; exact hr k (by omega)
theorem TPr_put4 {f g : Nat → Int32} {n : Nat} (x : Int32) (hr : TPr f g n) : TPr (put4 f n x) (mput4 g n x) (n + 4) :=
  TPr_up (TPr_up (TPr_up (TPr_up hr (cB_24 x) (mB8_isB _ _)) (cB_16 x) (mB8_isB _ _)) (cB_8 x) (mB8_isB _ _)) (cB_0 x) (mB8_isB _ _)
theorem TPr_put20 {f g : Nat → Int32} {n : Nat} (a b c d e : Int32) (hr : TPr f g n) : TPr (put20 f n a b c d e) (mput20 g n a b c d e) (n + 20) :=
  TPr_put4 e (TPr_put4 d (TPr_put4 c (TPr_put4 b (TPr_put4 a hr))))
/-- both tapes hold the same, and the same fault was found last -/
def TP (h : MH) : Prop := ∃ n, n ≤ 900 ∧ hI h 129 0 = nI n ∧ hI h 223 5 = nI n ∧ TPr (hI h 130) (hI h 226) n ∧ hI h 129 1 = hI h 223 13 ∧ hI h 129 2 = hI h 223 14
/-- the heaps differ at most in the tapes, in the fault and in what was thrown -/
def AgT (h h2 : MH) : Prop := hN h2 = hN h ∧ (∀ a, hS h2 a = hS h a) ∧ (∀ a k, hL h2 a k = hL h a k) ∧ (∀ a k, hR h2 a k = hR h a k) ∧ ∀ a k, a ≠ 130 → a ≠ 226 → ¬ (a = 129 ∧ k < 3) → ¬ (a = 223 ∧ (k = 0 ∨ k = 5 ∨ k = 13 ∨ k = 14)) → hI h2 a k = hI h a k
theorem AgT_thrown (h : MH) (v : Int32) : AgT h (sI h 223 0 v) := ⟨rfl, fun _ => rfl, fun _ _ => rfl, fun _ _ => rfl, fun a k _ _ _ q => by rw [hI_sI, if_neg (by omega)]⟩
theorem TP_thrown {h : MH} {v : Int32} (p : TP h) : TP (sI h 223 0 v) := by
  obtain ⟨n, p1, p2, p3, p4, p5, p6⟩ := p
  refine ⟨n, p1, ?_, ?_, ?_, ?_, ?_⟩
  · rw [hI_sI, if_neg (by omega)]; exact p2
  · rw [hI_sI, if_neg (by omega)]; exact p3
  · rw [hI_sI_row (by omega), hI_sI_row (by omega)]; exact p4
  · rw [hI_sI, hI_sI, if_neg (by omega), if_neg (by omega)]; exact p5
  · rw [hI_sI, hI_sI, if_neg (by omega), if_neg (by omega)]; exact p6
/-- the relation: the layout, the tape, and the rest -/
def RLT (RR : MH → Prop) (h : MH) : Prop := LX h ∧ TP h ∧ RR h
theorem ST_fault_of {RR : MH → Prop} (hf : ∀ h h2, AgT h h2 → RR h → RR h2) : ST_fault (RLT RR) := by
  intro x h hr P kP
  obtain ⟨hl, ht, hrr⟩ := hr
  refine u_X9_fault hl (kP _ h (S_223 hl) (fun P2 k2 => u_X10_fault hl ?_))
  have ht' := ht
  obtain ⟨n, p1, p2, p3, p4, p5, p6⟩ := ht'
  rw [← p5, ← p6]
  exact k2 _ ⟨LX_sI hl, TP_thrown ht, hf h _ (AgT_thrown h _) hrr⟩
theorem ST_feed_of {RR : MH → Prop} (hf : ∀ h h2, AgT h h2 → RR h → RR h2) : ST_feed (RLT RR) := by
  intro a b c d e h hr P kP
  obtain ⟨hl, ht, hrr⟩ := hr
  have ht' := ht
  obtain ⟨n, p1, p2, p3, p4, p5, p6⟩ := ht'
  refine u_X9_feed hl p1 p2 (fun hq => ?_) (fun hq => ?_)
  · refine kP _ _ (S_223 (LX_tpH hl)) (fun P2 k2 => ?_)
    have e1 : hI (tpH h (put20 (hI h 130) n a b c d e) (n + 20)) 223 5 = nI n := by rw [tpH_I, if_neg (by omega), if_neg (by omega)]; exact p3
    refine u_X10_feed (LX_tpH hl) p1 e1 (fun _ => k2 _ ?_) (fun q => absurd hq q)
    refine ⟨LX_mtH (LX_sI (LX_tpH hl)), ⟨n + 20, hq, ?_, ?_, ?_, ?_, ?_⟩, hf h _ ⟨rfl, fun _ => rfl, fun _ _ => rfl, fun _ _ => rfl, fun u k q1 q2 q3 q4 => ?_⟩ hrr⟩
    · rw [mtH_I, if_neg (by omega), if_neg (by omega), hI_sI, if_neg (by omega), tpH_n]
    · rw [mtH_n]
    · have r1 : hI (mtH (sI (tpH h (put20 (hI h 130) n a b c d e) (n + 20)) 223 0 (nI 0)) (mput20 (hI (tpH h (put20 (hI h 130) n a b c d e) (n + 20)) 226) n a b c d e) (n + 20)) 130 = put20 (hI h 130) n a b c d e := by
        funext k
        rw [mtH_I, if_neg (by omega), if_neg (by omega), hI_sI, if_neg (by omega), tpH_I, if_neg (by omega), if_pos rfl]
      have r2 : hI (mtH (sI (tpH h (put20 (hI h 130) n a b c d e) (n + 20)) 223 0 (nI 0)) (mput20 (hI (tpH h (put20 (hI h 130) n a b c d e) (n + 20)) 226) n a b c d e) (n + 20)) 226 = mput20 (hI h 226) n a b c d e := by
        funext k
        rw [mtH_I, if_neg (by omega), if_pos rfl]
        refine congrFun (congrArg (fun f => mput20 f n a b c d e) ?_) k
        funext j
        rw [tpH_I, if_neg (by omega), if_neg (by omega)]
      rw [r1, r2]
      exact TPr_put20 a b c d e p4
    · rw [mtH_I, mtH_I, if_neg (by omega), if_neg (by omega), if_neg (by omega), if_neg (by omega), hI_sI, hI_sI, if_neg (by omega), if_neg (by omega), tpH_I, tpH_I, if_neg (by omega), if_neg (by omega), if_neg (by omega), if_neg (by omega)]
      exact p5
    · rw [mtH_I, mtH_I, if_neg (by omega), if_neg (by omega), if_neg (by omega), if_neg (by omega), hI_sI, hI_sI, if_neg (by omega), if_neg (by omega), tpH_I, tpH_I, if_neg (by omega), if_neg (by omega), if_neg (by omega), if_neg (by omega)]
      exact p6
    · rw [mtH_I, if_neg (by omega), if_neg (by omega), hI_sI, if_neg (by omega), tpH_I, if_neg (by omega), if_neg (by omega)]
  · refine kP _ _ (S_223 hl) (fun P2 k2 => ?_)
    exact u_X10_feed hl p1 p3 (fun q => absurd q hq) (fun _ => k2 _ ⟨LX_sI hl, TP_thrown ht, hf h _ (AgT_thrown h _) hrr⟩)
theorem TP_gm1 : TP gm1 := by
  refine ⟨0, by omega, by decide +kernel, by decide +kernel, fun k hk => absurd hk (by omega), by decide +kernel, by decide +kernel⟩
