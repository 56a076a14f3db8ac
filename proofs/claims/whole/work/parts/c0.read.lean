/-! Part c0: the class reads a net. -/
theorem mk4_I (h : MH) (a b j : Nat) : hI (mk4 h a) b j = hI (sI (sI (sI (sI (sI h a 0 (nI 1)) a 1 (nI 0)) a 2 (nI 0)) a 3 (nI 0)) a 10 (nI 0)) b j := rfl
theorem mk4_L (h : MH) (a b j : Nat) : hL (mk4 h a) b j = hL h b j := rfl
theorem mk4_S (h : MH) (a b : Nat) : hS (mk4 h a) b = if b = hN h + 9 then (2, 0) else if b = hN h + 8 then (2, 0) else if b = hN h + 7 then (2, 0) else if b = hN h + 6 then (2, 0) else if b = hN h + 5 then (3, 10) else if b = hN h + 4 then (2, 100) else if b = hN h + 3 then (2, 10) else if b = hN h + 2 then (2, 10) else if b = hN h + 1 then (2, 10) else if b = hN h then (2, 10) else hS h b := rfl
theorem mk4_R (h : MH) (a b j : Nat) : hR (mk4 h a) b j = if b = a ∧ j = 14 then some (hN h + 9) else if b = a ∧ j = 13 then some (hN h + 8) else if b = a ∧ j = 12 then some (hN h + 7) else if b = a ∧ j = 11 then some (hN h + 6) else if b = a ∧ j = 9 then some (hN h + 5) else if b = a ∧ j = 8 then some (hN h + 4) else if b = a ∧ j = 7 then some (hN h + 3) else if b = a ∧ j = 6 then some (hN h + 2) else if b = a ∧ j = 5 then some (hN h + 1) else if b = a ∧ j = 4 then some (hN h) else hR h b j := rfl
set_option maxRecDepth 100000 in
theorem tabR_129_5 : ∀ p ∈ tabR, ¬ (p.1 = 129 ∧ p.2.1 = 5) := by decide +kernel
theorem LX_keep {h g : MH} (hl : LX h) (n : hN h ≤ hN g) (eS : ∀ b, b < 244 → hS g b = hS h b) (eR : ∀ b k, b < 244 → ¬ (b = 129 ∧ k = 5) → hR g b k = hR h b k) : LX g := by
  refine ⟨by have := hl.1; omega, fun p hp => by rw [eS _ (tabS_lt p hp)]; exact hl.2.1 p hp, fun p hp => ?_⟩
  rw [eR _ _ (tabR_lt p hp) (tabR_129_5 p hp)]
  exact hl.2.2 p hp
/-- what reading leaves as it was -/
def FH (h g : MH) : Prop := hN h ≤ hN g ∧ (∀ b, b < hN h → hS g b = hS h b) ∧ (∀ b, b < hN h → (b < 129 ∨ 134 < b ∨ b = 130) → hI g b = hI h b ∧ hL g b = hL h b ∧ hR g b = hR h b) ∧ LX g ∧ hI g 129 0 = 0
section RDN
variable {hb g : MH} {a : Nat} {T : Nat → Nat} {n m : Nat} {t : TK} {cs : CD} {v : TN}
theorem n_settle {Q : MH → Prop} (p : CT hb g a T n m t cs v) (ok : TnOK v cs) (h900 : cs.1 ≤ 900) (hN1 : tnN v ≤ 1000) (zh : Zh g) (z6 : ∀ r, hL g (a + 6) r = 0) (hq : ∀ h1, LX h1 → hN g ≤ hN h1 → (∀ b, b < hN g → hS h1 b = hS g b) → (∀ b, b < hN g → b ≠ 133 → b ≠ 134 → (b < a ∨ a + 11 ≤ b) → hI h1 b = hI g b ∧ hL h1 b = hL g b ∧ hR h1 b = hR g b) → NetV h1 a (nvOf v cs) → hI h1 a 1 = nI (tnR v) → Q h1) : wX4_settle 5 960 a 131 g Q := by
  obtain ⟨⟨p1, p2, p3, p4⟩, p5⟩ := p
  obtain ⟨n1, n2, n3, n4, n5, n6, n7, n8, n9, n10, n11⟩ := p3
  have lk := ok.2.1
  have ng : NGr g a (tnK v) (tnL v) (tnF v) (tnT v) := ⟨n4, p4.1.1, p4.1.2.2.2.1, n5.1, n6, n5.2.1, n7, fun l hl => ⟨(p4.2 l hl).1, (p4.2 l hl).2.1⟩⟩
  refine ⟨n4, by omega, by omega, n_find lk ok.2.2.1 (fun l hl => ok.1.2.2.2 l hl) ok.1.2.1 ng p4.1.2.2.2.2 n3 zh (fun h5 fz nz zr => ?_)⟩
  obtain ⟨f1, f2, f3, f4, f5, f6⟩ := fz
  have i5 : ∀ b, b < a → hI h5 b = hI g b := fun b hb => (f4 b (by omega) (by omega)).1
  have sb : SB h5 a (hN g) v cs := by
    refine ⟨LX_keep p1.2.1.1 (by omega) (fun b hb => f3 b (by omega)) (fun b k hb _ => by rw [(f4 b (by omega) (by omega)).2]), ?_, ?_, nz, zr, ?_, ?_, fun l hl => ?_, n2⟩
    · unfold CdC
      rw [i5 131 (by omega), i5 132 (by omega)]
      exact p1.2.2.2.2
    · unfold LwC
      rw [i5 131 (by omega)]
      exact p5
    · rw [f6 6 (by omega), f6 7 (by omega), f6 8 (by omega), f6 9 (by omega)]
      exact n5.2.2
    · rw [f3 _ (by omega), f3 _ (by omega), f3 _ (by omega), f3 _ (by omega)]
      exact ⟨n8, n9, n10, n11⟩
    · rw [(f4 (a + 3) (by omega) (by omega)).1, (f4 (a + 4) (by omega) (by omega)).1]
      exact (p4.2 l hl).2.2
  refine n_settles ok h900 sb (fun r => by rw [f2]; exact z6 r) (fun h1 fs e5 e6 => ?_) _ _
  have s1 := SB_keep sb fs
  obtain ⟨fs1, fs2, fs3, fs4, fs5⟩ := fs
  have ia : ∀ k, k ≠ 10 → hI h1 a k = hI g a k := fun k hk => by rw [fs4 a (by omega) (by omega) (by omega), f5 k hk]
  refine hq h1 s1.1 (by omega) (fun b hb => by rw [fs2, f3 b hb]) (fun b hb b1 b2 b3 => ⟨by rw [fs4 b b1 b2 (by omega), (f4 b hb (by omega)).1], by rw [fs5 b (by omega), f2], by rw [fs3, (f4 b hb (by omega)).2]⟩) ?_ (by rw [ia 1 (by omega)]; exact p4.1.2.1)
  obtain ⟨s2, s3, s4, ⟨sg, y2, y3, y4, y5, y6, y7, y8, y9, y10, y11⟩, s6, s7, s8, s9, s10⟩ := s1
  have na : ∀ b, a ≤ b → b < hN g + 5 → NA h1 b := fun b b1 b2 => Or.inr ⟨by omega, by omega⟩
  refine ⟨nv_ok ok hN1, sg.1, na a (by omega) (by omega), sg.2.1, by rw [ia 2 (by omega)]; exact p4.1.2.2.1, sg.2.2.1, y2, fun k => if k ≤ 9 then a + k - 3 else hN g + k - 10, fun k k1 k2 k3 => ?_, ?_, fun l hl => ?_, fun r l hr hl => e5 r l hr hl, fun r hr => e6 r hr, fun c hc => ?_, fun c l s hc hl hs => (s6 c hc).2.2.2 l s hl hs⟩
  · rcases (show k = 4 ∨ k = 5 ∨ k = 6 ∨ k = 7 ∨ k = 8 ∨ k = 9 ∨ k = 11 ∨ k = 12 ∨ k = 13 ∨ k = 14 by omega) with q | q | q | q | q | q | q | q | q | q <;> subst q
    · exact ⟨sg.2.2.2.1, na (a + 1) (by omega) (by omega)⟩
    · exact ⟨sg.2.2.2.2.2.1, na (a + 2) (by omega) (by omega)⟩
    · exact ⟨s7.1, na (a + 3) (by omega) (by omega)⟩
    · exact ⟨s7.2.1, na (a + 4) (by omega) (by omega)⟩
    · exact ⟨s7.2.2.1, na (a + 5) (by omega) (by omega)⟩
    · exact ⟨s7.2.2.2, na (a + 6) (by omega) (by omega)⟩
    · exact ⟨y3, na (_ + 1) (by omega) (by omega)⟩
    · exact ⟨y4, na (_ + 2) (by omega) (by omega)⟩
    · exact ⟨y5, na (_ + 3) (by omega) (by omega)⟩
    · exact ⟨y6, na (_ + 4) (by omega) (by omega)⟩
  · exact ⟨sg.2.2.2.2.1, sg.2.2.2.2.2.2.1, s8.1, s8.2.1, s8.2.2.1, s8.2.2.2, y7, y8, y9, y10⟩
  · exact ⟨(sg.2.2.2.2.2.2.2 l hl).1, (sg.2.2.2.2.2.2.2 l hl).2, (s9 l hl).1, (s9 l hl).2⟩
  · exact ⟨(s6 c hc).1, (s6 c hc).2.1, (s6 c hc).2.2.1⟩
end RDN
