/-! ===== the tape: feed and fault, both sides ===== -/
theorem mh_ext {g h : MH} (e1 : ∀ a, hS g a = hS h a) (e2 : ∀ a k, hI g a k = hI h a k) (e3 : ∀ a k, hL g a k = hL h a k) (e4 : ∀ a k, hR g a k = hR h a k) (e5 : hN g = hN h) : g = h := by
  obtain ⟨g1, g2, g3, g4, g5⟩ := g
  obtain ⟨k1, k2, k3, k4, k5⟩ := h
  have p1 : g1 = k1 := funext e1
  have p2 : g2 = k2 := funext (fun a => funext (e2 a))
  have p3 : g3 = k3 := funext (fun a => funext (e3 a))
  have p4 : g4 = k4 := funext (fun a => funext (e4 a))
  have p5 : g5 = k5 := e5
  subst p1 p2 p3 p4 p5
  rfl
def up1 (f : Nat → Int32) (n : Nat) (v : Int32) : Nat → Int32 := fun k => if k = n then v else f k
/-- the class's heap with another tape -/
def tpH (h : MH) (f : Nat → Int32) (n : Nat) : MH := sI (rI h 130 f) 129 0 (nI n)
theorem tpH_I (h : MH) (f : Nat → Int32) (n b j : Nat) : hI (tpH h f n) b j = if b = 129 ∧ j = 0 then nI n else if b = 130 then f j else hI h b j := by
  unfold tpH
  rw [hI_sI, hI_rI]
theorem tpH_n (h : MH) (f : Nat → Int32) (n : Nat) : hI (tpH h f n) 129 0 = nI n := by rw [tpH_I, if_pos ⟨rfl, rfl⟩]
theorem tpH_self {h : MH} {n : Nat} (e : hI h 129 0 = nI n) : tpH h (hI h 130) n = h := by
  refine mh_ext (fun _ => rfl) (fun a k => ?_) (fun _ _ => rfl) (fun _ _ => rfl) rfl
  rw [tpH_I]
  split
  · rename_i c; rw [c.1, c.2, e]
  · split
    · rename_i c; rw [c]
    · rfl
theorem tpH_step (h : MH) (f : Nat → Int32) (n : Nat) (v : Int32) : sI (sI (tpH h f n) 130 n v) 129 0 (nI (n + 1)) = tpH h (up1 f n v) (n + 1) := by
  refine mh_ext (fun _ => rfl) (fun a k => ?_) (fun _ _ => rfl) (fun _ _ => rfl) rfl
  rw [hI_sI, hI_sI, tpH_I, tpH_I]
  unfold up1
  by_cases c : a = 129 ∧ k = 0
  · rw [if_pos c, if_pos c]
  · rw [if_neg c, if_neg c, if_neg c]
    by_cases c2 : a = 130
    · rw [if_pos c2, if_pos c2]
      by_cases c3 : k = n
      · rw [if_pos ⟨c2, c3⟩, if_pos c3]
      · rw [if_neg (fun q => c3 q.2), if_neg c3]
    · rw [if_neg c2, if_neg c2, if_neg (fun q => c2 q.1)]
theorem LX_tpH {h : MH} {f : Nat → Int32} {n : Nat} (hl : LX h) : LX (tpH h f n) := LX_sI (LX_rI hl)
/-- the byte that the class puts down -/
def cB (x s : Int32) : Int32 := ((((x).toUInt32 >>> ((s).toUInt32 &&& Int32.toUInt32 31)).toInt32).toInt8.toInt32).toInt8.toInt32
theorem u_put1 {Q : MH → Prop} {h : MH} {f : Nat → Int32} {n m : Nat} {x s : Int32} (hl : LX h) (hn : n < 900) (hs : ¬ s < 0) (kk : wX5_putOnTape_3 Q m 129 x (s + (-8 : Int32)) (tpH h (up1 f n (cB x s)) (n + 1))) : wX5_putOnTape_3 Q (m + 1) 129 x s (tpH h f n) := by
  unfold wX5_putOnTape_3
  refine ⟨fun c => absurd c hs, fun _ => ⟨S_129 (LX_tpH hl), fun c => absurd c ?_, fun _ => ⟨130, R_129_3 (LX_tpH hl), 900, S_130 (LX_tpH hl), ?_, fun _ e => ?_⟩⟩⟩
  · rw [tpH_n]; exact nI_ge hn (by omega)
  · rw [tpH_n]; exact vp_in_nI hn (by omega)
  · intro _ e2
    rw [tpH_n, nI_clamp (by omega)] at e
    subst e
    rw [hI_sI, if_neg (by omega), tpH_n, show nI n + nI 1 = nI (n + 1) from nI_add n 1] at e2
    replace e2 := e2.trans (tpH_step h f n (cB x s))
    subst e2
    exact kk
def put4 (f : Nat → Int32) (n : Nat) (x : Int32) : Nat → Int32 := up1 (up1 (up1 (up1 f n (cB x (nI 24))) (n + 1) (cB x (nI 16))) (n + 2) (cB x (nI 8))) (n + 3) (cB x (nI 0))
theorem u_put {Q : MH → Prop} {h : MH} {f : Nat → Int32} {n : Nat} {x : Int32} (hl : LX h) (hn : n + 4 ≤ 900) (kk : Q (tpH h (put4 f n x) (n + 4))) : wX5_putOnTape 129 x (tpH h f n) Q := by
  refine ⟨5, u_put1 hl (by omega) (by decide) ?_⟩
  rw [show nI 24 + (-8 : Int32) = nI 16 from by decide]
  refine u_put1 hl (by omega) (by decide) ?_
  rw [show nI 16 + (-8 : Int32) = nI 8 from by decide]
  refine u_put1 hl (by omega) (by decide) ?_
  rw [show nI 8 + (-8 : Int32) = nI 0 from by decide]
  refine u_put1 hl (by omega) (by decide) ?_
  unfold wX5_putOnTape_3
  exact ⟨fun _ => kk, fun c => absurd (show nI 0 + (-8 : Int32) < 0 from by decide) c⟩
def put20 (f : Nat → Int32) (n : Nat) (a b c d e : Int32) : Nat → Int32 := put4 (put4 (put4 (put4 (put4 f n a) (n + 4) b) (n + 8) c) (n + 12) d) (n + 16) e
/-- feed, the class's side -/
theorem u_X9_feed {Q : Int32 → MH → Prop} {h : MH} {n : Nat} {a b c d e : Int32} (hl : LX h) (hn : n ≤ 900) (h0 : hI h 129 0 = nI n) (k1 : n + 20 ≤ 900 → Q (nI (n + 20)) (tpH h (put20 (hI h 130) n a b c d e) (n + 20))) (k2 : ¬ n + 20 ≤ 900 → Q (-5) h) : wX9_feed 128 a b c d e h Q := by
  unfold wX9_feed
  refine ⟨S_128 hl, 129, R_128_0 hl, S_129 hl, fun q => ?_, fun q => ?_⟩
  · rw [h0, show nI n + nI 20 = nI (n + 20) from nI_add n 20, nI_leI (by omega) (by omega)] at q
    have hh := tpH_self h0
    rw [← hh]
    refine u_put hl (by omega) ⟨S_128 (LX_tpH hl), 129, R_128_0 (LX_tpH hl), S_129 (LX_tpH hl), ?_⟩
    refine u_put hl (by omega) ⟨S_128 (LX_tpH hl), 129, R_128_0 (LX_tpH hl), S_129 (LX_tpH hl), ?_⟩
    refine u_put hl (by omega) ⟨S_128 (LX_tpH hl), 129, R_128_0 (LX_tpH hl), S_129 (LX_tpH hl), ?_⟩
    refine u_put hl (by omega) ⟨S_128 (LX_tpH hl), 129, R_128_0 (LX_tpH hl), S_129 (LX_tpH hl), ?_⟩
    refine u_put hl (by omega) ⟨S_128 (LX_tpH hl), 129, R_128_0 (LX_tpH hl), S_129 (LX_tpH hl), ?_⟩
    rw [tpH_n]
    exact k1 q
  · rw [h0, show nI n + nI 20 = nI (n + 20) from nI_add n 20, nI_leI (by omega) (by omega)] at q
    exact k2 q
/-- fault, the class's side -/
theorem u_X9_fault {Q : Int32 → MH → Prop} {h : MH} {x : Int32} (hl : LX h) (k : Q (if x = nI 0 then hI h 129 1 else if x = nI 1 then hI h 129 2 else -1) h) : wX9_fault 128 x h Q := by
  unfold wX9_fault
  refine ⟨fun c1 c2 => ?_, fun c => ⟨S_128 hl, 129, R_128_0 hl, S_129 hl, ?_⟩, fun c => ⟨S_128 hl, 129, R_128_0 hl, S_129 hl, ?_⟩⟩
  · rw [if_neg c1, if_neg c2] at k; exact k
  · rw [if_pos c] at k; exact k
  · rw [if_neg (by rw [c]; decide), if_pos c] at k; exact k
/-- fault, the reference's side -/
theorem u_X10_fault {Q : Int32 → MH → Prop} {h : MH} {x : Int32} (hl : LX h) (k : Q (if x = nI 0 then hI h 223 13 else if x = nI 1 then hI h 223 14 else -1) (sI h 223 0 (nI 0))) : wX10_fault 223 x h Q := by
  unfold wX10_fault
  refine ⟨S_223 hl, fun _ e => ?_⟩
  subst e
  rw [hI_sI, hI_sI, if_neg (by omega), if_neg (by omega)]
  rw [nI_0] at k ⊢
  refine ⟨fun c => ⟨fun c2 => ?_, fun c2 => ?_⟩, fun c => ?_⟩
  · rw [if_neg c, if_neg c2] at k; exact k
  · rw [if_neg c, if_pos c2] at k; exact k
  · rw [if_pos c] at k; exact k
