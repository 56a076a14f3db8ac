/-! ===== the trays: write; both promises ===== -/
/-- tray t is the same on both sides -/
def TY1 (h : MH) (t : Nat) : Prop := (hI h (207 + 2 * t) 1 = -1 ∧ hI h 241 t = -1) ∨ ∃ s m : Nat, s < 4 ∧ m ≤ 40 ∧ hI h (207 + 2 * t) 0 = nI s ∧ hI h (207 + 2 * t) 1 = nI m ∧ hI h 241 t = nI s ∧ hI h 242 t = nI m ∧ ∀ k, k < m → hL h (208 + 2 * t) k = hL h 243 (40 * t + k)
def TY (h : MH) : Prop := ∀ t, t < 4 → TY1 h t
/-- the heaps differ at most in the trays and in what was thrown -/
def AgY (h h2 : MH) : Prop := hN h2 = hN h ∧ (∀ a, hS h2 a = hS h a) ∧ (∀ a k, hR h2 a k = hR h a k) ∧ (∀ a k, (∀ t, t < 4 → a ≠ 208 + 2 * t) → a ≠ 243 → hL h2 a k = hL h a k) ∧ ∀ a k, (∀ t, t < 4 → a ≠ 207 + 2 * t) → a ≠ 241 → a ≠ 242 → ¬ (a = 223 ∧ k = 0) → hI h2 a k = hI h a k
theorem TY_AgT {h h2 : MH} (g : AgT h h2) (p : TY h) : TY h2 := by
  obtain ⟨_, _, g3, _, g5⟩ := g
  intro t ht
  have e1 : ∀ k, hI h2 (207 + 2 * t) k = hI h (207 + 2 * t) k := fun k => g5 _ _ (by omega) (by omega) (by omega) (by omega)
  have e2 : hI h2 241 t = hI h 241 t := g5 _ _ (by omega) (by omega) (by omega) (by omega)
  have e3 : hI h2 242 t = hI h 242 t := g5 _ _ (by omega) (by omega) (by omega) (by omega)
  unfold TY1
  rw [e1, e1, e2, e3]
  rcases p t ht with q | ⟨s, m, q1, q2, q3, q4, q5, q6, q7⟩
  · exact Or.inl q
  · exact Or.inr ⟨s, m, q1, q2, q3, q4, q5, q6, fun k hk => by rw [g3, g3]; exact q7 k hk⟩
theorem TP_AgY {h h2 : MH} (g : AgY h h2) (p : TP h) : TP h2 := by
  obtain ⟨_, _, _, _, g5⟩ := g
  obtain ⟨n, p1, p2, p3, p4, p5, p6⟩ := p
  have e1 : hI h2 130 = hI h 130 := funext (fun k => g5 _ _ (by omega) (by omega) (by omega) (by omega))
  have e2 : hI h2 226 = hI h 226 := funext (fun k => g5 _ _ (by omega) (by omega) (by omega) (by omega))
  have e3 : ∀ k, hI h2 129 k = hI h 129 k := fun k => g5 _ _ (by omega) (by omega) (by omega) (by omega)
  have e4 : ∀ k, k ≠ 0 → hI h2 223 k = hI h 223 k := fun k hk => g5 _ _ (by omega) (by omega) (by omega) (by omega)
  refine ⟨n, p1, ?_, ?_, ?_, ?_, ?_⟩
  · rw [e3]; exact p2
  · rw [e4 _ (by omega)]; exact p3
  · rw [e1, e2]; exact p4
  · rw [e3, e4 _ (by omega)]; exact p5
  · rw [e3, e4 _ (by omega)]; exact p6
theorem AgY_thrown (h : MH) (v : Int32) : AgY h (sI h 223 0 v) := ⟨rfl, fun _ => rfl, fun _ _ => rfl, fun _ _ _ _ => rfl, fun a k _ _ _ q => by rw [hI_sI, if_neg q]⟩
theorem TY_thrown {h : MH} {v : Int32} (p : TY h) : TY (sI h 223 0 v) := TY_AgT (AgT_thrown h v) p
def RLY (RR : MH → Prop) (h : MH) : Prop := LX h ∧ TP h ∧ TY h ∧ RR h
theorem RLY_thrown {RR : MH → Prop} (hf : ∀ h h2, AgY h h2 → RR h → RR h2) {h : MH} {v : Int32} (p : RLY RR h) : RLY RR (sI h 223 0 v) := ⟨LX_sI p.1, TP_thrown p.2.1, TY_thrown p.2.2.1, hf h _ (AgY_thrown h v) p.2.2.2⟩
theorem ST_numbers_of {RR : MH → Prop} (hf : ∀ h h2, AgY h h2 → RR h → RR h2) : ST_numbers (RLY RR) := by
  intro x s n h hr P kP
  have hr0 := hr
  obtain ⟨hl, ht, hy, hrr⟩ := hr
  refine u_X9_numbers hl (fun c => ?_) (fun c1 c2 c3 => ?_) (fun t i m ht4 hi hm e1 e2 e3 => ?_)
  · refine kP _ h (S_223 hl) (fun P2 k2 => u_X10_numbers hl (fun _ => k2 _ (RLY_thrown hf hr0)) (fun q1 q2 _ => absurd (And.intro q1 q2) ?_) (fun t i m q1 q2 q3 e1 e2 e3 => ?_))
    · rcases c with c | c
      · exact fun q => c q.1
      · exact fun q => c q.2
    · exfalso
      subst e1
      subst e2
      rw [nI_toInt (by omega), nI_toInt (by omega)] at c
      omega
  · refine kP _ h (S_223 hl) (fun P2 k2 => u_X10_numbers hl (fun q => ?_) (fun _ _ _ => k2 _ (RLY_thrown hf hr0)) (fun t i m q1 q2 q3 e1 e2 e3 => ?_))
    · exfalso
      rcases q with q | q
      · exact q c1
      · exact q c2
    · exfalso
      subst e3
      rw [nI_toInt (by omega)] at c3
      omega
  · have hl2 : LX (zL (sI (sI h (207 + 2 * t) 0 (nI i)) (207 + 2 * t) 1 (nI m)) (208 + 2 * t) 0 40) := LX_zL (LX_sI (LX_sI hl))
    refine kP _ _ (S_223 hl2) (fun P2 k2 => u_X10_numbers hl2 (fun q => ?_) (fun _ _ q => ?_) (fun t2 i2 m2 q1 q2 q3 f1 f2 f3 => k2 _ ?_))
    · exfalso
      subst e1
      subst e2
      rw [nI_toInt (by omega), nI_toInt (by omega)] at q
      omega
    · exfalso
      subst e3
      rw [nI_toInt (by omega)] at q
      omega
    · subst e1
      subst e2
      subst e3
      have f1 := (nI_eq (by omega) (by omega)).mp f1
      have f2 := (nI_eq (by omega) (by omega)).mp f2
      have f3 := (nI_eq (by omega) (by omega)).mp f3
      subst f1
      subst f2
      subst f3
      have hag : AgY h (zL (sI (sI (sI (zL (sI (sI h (207 + 2 * t) 0 (nI i)) (207 + 2 * t) 1 (nI m)) (208 + 2 * t) 0 40) 223 0 (nI 0)) 241 t (nI i)) 242 t (nI m)) 243 (40 * t) (40 * t + m)) := by
        refine ⟨rfl, fun _ => rfl, fun _ _ => rfl, fun a k w1 w2 => ?_, fun a k w1 w2 w3 w4 => ?_⟩
        · have w := w1 t ht4
          rw [zL_L, if_neg (by omega), hL_sI, hL_sI, hL_sI, zL_L, if_neg (by omega), hL_sI, hL_sI]
        · have w := w1 t ht4
          rw [zL_I, hI_sI, if_neg (by omega), hI_sI, if_neg (by omega), hI_sI, if_neg (by omega), zL_I, hI_sI, if_neg (by omega), hI_sI, if_neg (by omega)]
      refine ⟨LX_zL (LX_sI (LX_sI (LX_sI hl2))), TP_AgY hag ht, fun u hu => ?_, hf h _ hag hrr⟩
      by_cases c : u = t
      · subst c
        refine Or.inr ⟨i, m, hi, hm, ?_, ?_, ?_, ?_, fun k hk => ?_⟩
        · rw [zL_I, hI_sI, if_neg (by omega), hI_sI, if_neg (by omega), hI_sI, if_neg (by omega), zL_I, hI_sI, if_neg (by omega), hI_sI, if_pos ⟨rfl, rfl⟩]
        · rw [zL_I, hI_sI, if_neg (by omega), hI_sI, if_neg (by omega), hI_sI, if_neg (by omega), zL_I, hI_sI, if_pos ⟨rfl, rfl⟩]
        · rw [zL_I, hI_sI, if_neg (by omega), hI_sI, if_pos ⟨rfl, rfl⟩]
        · rw [zL_I, hI_sI, if_pos ⟨rfl, rfl⟩]
        · rw [zL_L, if_neg (by omega), hL_sI, hL_sI, hL_sI, zL_L, if_pos (by omega), zL_L, if_pos (by omega)]
      · have e1 : ∀ k, hI (zL (sI (sI (sI (zL (sI (sI h (207 + 2 * t) 0 (nI i)) (207 + 2 * t) 1 (nI m)) (208 + 2 * t) 0 40) 223 0 (nI 0)) 241 t (nI i)) 242 t (nI m)) 243 (40 * t) (40 * t + m)) (207 + 2 * u) k = hI h (207 + 2 * u) k := fun k => by
          rw [zL_I, hI_sI, if_neg (by omega), hI_sI, if_neg (by omega), hI_sI, if_neg (by omega), zL_I, hI_sI, if_neg (by omega), hI_sI, if_neg (by omega)]
        have e2 : hI (zL (sI (sI (sI (zL (sI (sI h (207 + 2 * t) 0 (nI i)) (207 + 2 * t) 1 (nI m)) (208 + 2 * t) 0 40) 223 0 (nI 0)) 241 t (nI i)) 242 t (nI m)) 243 (40 * t) (40 * t + m)) 241 u = hI h 241 u := by
          rw [zL_I, hI_sI, if_neg (by omega), hI_sI, if_neg (by omega), hI_sI, if_neg (by omega), zL_I, hI_sI, if_neg (by omega), hI_sI, if_neg (by omega)]
        have e3 : hI (zL (sI (sI (sI (zL (sI (sI h (207 + 2 * t) 0 (nI i)) (207 + 2 * t) 1 (nI m)) (208 + 2 * t) 0 40) 223 0 (nI 0)) 241 t (nI i)) 242 t (nI m)) 243 (40 * t) (40 * t + m)) 242 u = hI h 242 u := by
          rw [zL_I, hI_sI, if_neg (by omega), hI_sI, if_neg (by omega), hI_sI, if_neg (by omega), zL_I, hI_sI, if_neg (by omega), hI_sI, if_neg (by omega)]
        unfold TY1
        rw [e1, e1, e2, e3]
        rcases hy u hu with q | ⟨s, m3, q1, q2, q3, q4, q5, q6, q7⟩
        · exact Or.inl q
        · refine Or.inr ⟨s, m3, q1, q2, q3, q4, q5, q6, fun k hk => ?_⟩
          rw [zL_L, if_neg (by omega), hL_sI, hL_sI, hL_sI, zL_L, if_neg (by omega), hL_sI, hL_sI, zL_L, if_neg (by omega), hL_sI, hL_sI, hL_sI, zL_L, if_neg (by omega), hL_sI, hL_sI]
          exact q7 k hk
