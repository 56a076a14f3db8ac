/-! ===== which cycle a ring is: the class's cycleOf ===== -/
theorem ush63 : ∀ c, c < 64 → ((nI c).toInt64.toUInt64 &&& Int64.toUInt64 63) = UInt64.ofNat c := by decide
theorem lu_bit {m c : Nat} (hm : m < 2 ^ 63) (hc : c < 64) : (((lN m).toUInt64 >>> ((nI c).toInt64.toUInt64 &&& Int64.toUInt64 63)).toInt64 &&& (1 : Int64)) = lN (bt m c) := by
  rw [ush63 c hc]
  apply Int64.toBitVec_inj.mp
  apply BitVec.eq_of_toNat_eq
  unfold lN bt
  have h1 : c % 64 = c := Nat.mod_eq_of_lt hc
  have h2 : m / 2 ^ c % 2 < 2 := Nat.mod_lt _ (by omega)
  have h3 : m % 18446744073709551616 = m := Nat.mod_eq_of_lt (by omega)
  have h4 : c % 18446744073709551616 = c := Nat.mod_eq_of_lt (by omega)
  have h5 : m / 2 ^ c % 2 % 18446744073709551616 = m / 2 ^ c % 2 := Nat.mod_eq_of_lt (by omega)
  simp [h1, h3, h4, h5, Nat.shiftRight_eq_div_pow]
theorem u_cycleOf_loop {Q : Int32 → MH → Prop} {h : MH} {a w n m t : Nat} {x : Int32} (hs : hS h a = (1, 4)) (hn : n ≤ 40) (e : hI h a 10 = nI n) (hw : hR h a 9 = some w) (hw2 : hS h w = (3, 10)) (ht : t < 10) (hm : hL h w t = lN m) (hm2 : m < 2 ^ 63) (k1 : ∀ c, c < n → bt m c = 1 → x = nI (bcN m c) → Q (nI c) h) (k2 : (∀ c, c < n → bt m c = 1 → x ≠ nI (bcN m c)) → Q (-1) h) : ∀ j i, i + j = n → (∀ c, c < i → bt m c = 1 → x ≠ nI (bcN m c)) → wX4_cycleOf_5 Q (j + 1) a (nI t) x (nI (bcN m i)) (nI i) h := by
  intro j
  induction j with
  | zero =>
    intro i hi hno
    have hi : i = n := by omega
    subst hi
    unfold wX4_cycleOf_5
    rw [e]
    exact ⟨hs, fun _ => k2 hno, fun c => absurd (nI_le (by omega) (by omega)) c⟩
  | succ j ih =>
    intro i hi hno
    have hb := bcN_le m i
    unfold wX4_cycleOf_5
    rw [e, nI_clamp (by omega)]
    refine ⟨hs, fun c => absurd c (nI_ge (by omega) (by omega)), fun _ => ⟨w, hw, 10, hw2, vp_in_nI (by omega) (by omega), ?_⟩⟩
    rw [hm, lu_bit hm2 (by omega)]
    have eb : bcN m (i + 1) = bcN m i + bt m i := rfl
    have q : bt m i = 0 ∨ bt m i = 1 := by have := bt_lt m i; omega
    rcases q with q | q
    · rw [q]
      refine ⟨fun _ => ?_, fun c => absurd (by decide) c⟩
      rw [show nI i + nI 1 = nI (i + 1) from nI_add i 1]
      have g := ih (i + 1) (by omega) (fun c hc b => by
        by_cases d : c = i
        · subst d; omega
        · exact hno c (by omega) b)
      rw [eb, q] at g
      exact g
    · rw [q]
      refine ⟨fun c => absurd c (by decide), fun _ => ⟨fun c => ?_, fun c => k1 i (by omega) q c.symm⟩⟩
      rw [show nI i + nI 1 = nI (i + 1) from nI_add i 1, show nI (bcN m i) + nI 1 = nI (bcN m i + 1) from nI_add _ 1]
      have g := ih (i + 1) (by omega) (fun c2 hc b => by
        by_cases d : c2 = i
        · subst d; exact fun z => c z.symm
        · exact hno c2 (by omega) b)
      rw [eb, q] at g
      exact g
theorem u_cycleOf {Q : Int32 → MH → Prop} {h : MH} {a w n m t : Nat} {x : Int32} (hs : hS h a = (1, 4)) (hn : n ≤ 40) (e : hI h a 10 = nI n) (hw : hR h a 9 = some w) (hw2 : hS h w = (3, 10)) (ht : t < 10) (hm : hL h w t = lN m) (hm2 : m < 2 ^ 63) (k1 : ∀ c, c < n → bt m c = 1 → x = nI (bcN m c) → Q (nI c) h) (k2 : (∀ c, c < n → bt m c = 1 → x ≠ nI (bcN m c)) → Q (-1) h) : wX4_cycleOf a (nI t) x h Q :=
  ⟨n + 1, u_cycleOf_loop hs hn e hw hw2 ht hm hm2 k1 k2 n 0 (by omega) (fun c hc => absurd hc (by omega))⟩
