/-! ===== all copies of a state; where a unit runs in the reference ===== -/
def suN (f : Nat → Nat) : Nat → Nat
  | 0 => 0
  | n + 1 => suN f n + f n
theorem u_allCopies_loop {Q : Int32 → MH → Prop} {h : MH} {a : Nat} {f : Nat → Nat} (hl : LX h) (ha : a ∈ stL) (hf : ∀ k, k < 40 → hI h (a + 1) k = nI (f k)) (hq : Q (nI (suN f 40)) h) : ∀ n i, i + n = 40 → wX6_allCopies_4 Q (n + 1) a (nI (suN f i)) (nI i) h := by
  intro n
  induction n with
  | zero =>
    intro i hi
    have hi : i = 40 := by omega
    subst hi
    unfold wX6_allCopies_4
    exact ⟨fun _ => hq, fun c => absurd (nI_le (by omega) (by omega)) c⟩
  | succ n ih =>
    intro i hi
    have st := st_S hl ha
    unfold wX6_allCopies_4
    rw [nI_clamp (by omega)]
    refine ⟨fun c => absurd c (nI_ge (by omega) (by omega)), fun _ => ⟨st.1, _, st.2.2.2.1, 40, st.2.1, vp_in_nI (by omega) (by omega), ?_⟩⟩
    rw [hf i (by omega), nI_add, nI_add]
    exact ih (i + 1) (by omega)
theorem u_allCopies {Q : Int32 → MH → Prop} {h : MH} {a : Nat} {f : Nat → Nat} (hl : LX h) (ha : a ∈ stL) (hf : ∀ k, k < 40 → hI h (a + 1) k = nI (f k)) (hq : Q (nI (suN f 40)) h) : wX6_allCopies a h Q := ⟨41, u_allCopies_loop hl ha hf hq 40 0 (by omega)⟩
/-- the heap after unit u runs anew -/
def rnH (h : MH) (u : Nat) (r c p : Int32) : MH := sI (sI (sI h 224 (115 + 3 * u) (r + nI 1)) 224 (115 + 3 * u + 1) c) 224 (115 + 3 * u + 2) p
theorem LX_rnH {h : MH} {u : Nat} {r c p : Int32} (hl : LX h) : LX (rnH h u r c p) := LX_sI (LX_sI (LX_sI hl))
theorem rnH_I (h : MH) (u : Nat) (r c p : Int32) (b k : Nat) : hI (rnH h u r c p) b k = if b = 224 ∧ k = 115 + 3 * u + 2 then p else if b = 224 ∧ k = 115 + 3 * u + 1 then c else if b = 224 ∧ k = 115 + 3 * u then r + nI 1 else hI h b k := by
  unfold rnH
  rw [hI_sI, hI_sI, hI_sI]
theorem u_runsOn {Q : MH → Prop} {h : MH} {u : Nat} {r c p : Int32} (hl : LX h) (hu : u < 20) (hq : Q (rnH h u r c p)) : wX10_runsOn 223 (nI u) r c p h Q := by
  have e0 : nI 115 + nI 3 * nI u = nI (115 + 3 * u) := by
    rw [show nI 3 * nI u = nI (3 * u) from (Int32.ofNat_mul 3 u).symm, nI_add]
  unfold wX10_runsOn
  rw [e0, nI_add, nI_add, nI_clamp (show 115 + 3 * u < 2 ^ 31 by omega), nI_clamp (show 115 + 3 * u + 1 < 2 ^ 31 by omega), nI_clamp (show 115 + 3 * u + 2 < 2 ^ 31 by omega)]
  refine ⟨S_223 hl, 224, R_223_1 hl, 7011, S_224 hl, vp_in_nI (by omega) (by omega), fun _ e => ?_⟩
  subst e
  refine ⟨vp_in_nI (by omega) (by omega), fun _ e => ?_⟩
  subst e
  refine ⟨vp_in_nI (by omega) (by omega), fun _ e => ?_⟩
  subst e
  exact hq
/-- all units from i on run nowhere -/
def frH (h : MH) (i : Nat) : Nat → Int32 := fun k => if 115 + 3 * i ≤ k ∧ k < 175 then 0 else hI h 224 k
theorem frH_step {h : MH} {i : Nat} (hi : i < 20) : rI (rnH h i (-1) (nI 0) (nI 0)) 224 (frH (rnH h i (-1) (nI 0) (nI 0)) (i + 1)) = rI h 224 (frH h i) := by
  refine mh_ext (fun _ => rfl) (fun b k => ?_) (fun _ _ => rfl) (fun _ _ => rfl) rfl
  rw [hI_rI, hI_rI, rnH_I]
  by_cases c : b = 224
  · rw [if_pos c, if_pos c]
    unfold frH
    rw [rnH_I]
    by_cases c1 : 115 + 3 * (i + 1) ≤ k ∧ k < 175
    · rw [if_pos c1, if_pos (by omega)]
    · rw [if_neg c1]
      by_cases c2 : 115 + 3 * i ≤ k ∧ k < 175
      · rw [if_pos c2]
        have q : k = 115 + 3 * i + 2 ∨ k = 115 + 3 * i + 1 ∨ k = 115 + 3 * i := by omega
        rcases q with q | q | q
        · rw [if_pos ⟨rfl, q⟩]; exact nI_0
        · rw [if_neg (by omega), if_pos ⟨rfl, q⟩]; exact nI_0
        · rw [if_neg (by omega), if_neg (by omega), if_pos ⟨rfl, q⟩]; decide
      · rw [if_neg c2, if_neg (by omega), if_neg (by omega), if_neg (by omega)]
  · rw [if_neg c, if_neg c, if_neg (fun q => c q.1), if_neg (fun q => c q.1), if_neg (fun q => c q.1)]
theorem u_isFresh_loop {Q : MH → Prop} : ∀ (n i : Nat) (h : MH), LX h → i + n = 20 → Q (rI h 224 (frH h i)) → wX10_isFresh_10 Q (n + 1) 223 (nI i) h := by
  intro n
  induction n with
  | zero =>
    intro i h hl hi hq
    have hi : i = 20 := by omega
    subst hi
    have e : frH h 20 = hI h 224 := by
      funext k
      unfold frH
      rw [if_neg (by omega)]
    rw [e, rI_self] at hq
    unfold wX10_isFresh_10
    exact ⟨fun _ => hq, fun c => absurd (nI_le (by omega) (by omega)) c⟩
  | succ n ih =>
    intro i h hl hi hq
    unfold wX10_isFresh_10
    refine ⟨fun c => absurd c (nI_ge (by omega) (by omega)), fun _ => ⟨S_223 hl, u_runsOn hl (by omega) ?_⟩⟩
    rw [nI_add]
    refine ih (i + 1) _ (LX_rnH hl) (by omega) ?_
    rw [frH_step (by omega)]
    exact hq
theorem u_isFresh {Q : MH → Prop} {h : MH} (hl : LX h) (hq : Q (rI (sI h 224 113 (nI 0)) 224 (frH (sI h 224 113 (nI 0)) 0))) : wX10_isFresh 223 h Q := by
  unfold wX10_isFresh
  rw [show (nI 113).toNatClampNeg = 113 from by decide]
  refine ⟨S_223 hl, 224, R_223_1 hl, 7011, S_224 hl, vp_in_nI (by omega) (by omega), fun _ e => ?_⟩
  subst e
  exact ⟨21, u_isFresh_loop 20 0 _ (LX_sI hl) (by omega) hq⟩
