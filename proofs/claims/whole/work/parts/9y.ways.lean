/-! Part 9y: the working units as sets; ways, both sides. -/
theorem n_working {Q : Int32 → MH → Prop} {h : MH} {v : NV} {a u : Nat} (p : NetV h a v) (hu : u ≤ 2) (hq : Q (nI (nedB (nvW v) u (nvL v))) h) : wX4_working a (nI u) h Q := by
  have h4 := p.1.1
  obtain ⟨w, np⟩ := id p.2.2.2.2.2.2.2
  have lp : ∀ n l, l + n = nvL v → wX4_working_4 Q (n + 1) a (nI u) (nI (nedB (nvW v) u l)) (nI l) h := by
    intro n
    induction n with
    | zero =>
      intro l hn
      have hn : l = nvL v := by omega
      subst hn
      unfold wX4_working_4
      rw [p.2.2.2.2.2.1]
      exact ⟨p.2.1, fun _ => hq, fun z => absurd (nI_le (Nat.le_refl _) (by omega)) z⟩
    | succ n ih =>
      intro l hn
      have g := ih (l + 1) (by omega)
      have hlL : l < nvL v := by omega
      have hw := (p.1.2.1 l hlL).2.2.2.2
      have b1 := lt_of_pow (nedB_lt (nvW v) u l) (by omega)
      have b2 : (2 : Nat) ^ l < 2 ^ 10 := Nat.pow_lt_pow_right (by omega) (by omega)
      unfold wX4_working_4
      rw [p.2.2.2.2.2.1, nI_add]
      refine ⟨p.2.1, fun z => absurd z (nI_ge hlL (by omega)), fun _ => ⟨w 7, (np.1 7 (by omega) (by omega) (by omega)).1, 10, np.2.1.2.2.2.1, vp_in_nI (by omega) (by omega), fun v8 e8 => ?_⟩⟩
      rw [nI_clamp (by omega), (np.2.2.1 l hlL).2.2.2, nI_shl _ (by omega)] at e8
      unfold nedB at g
      by_cases q : u ≤ nvW v l
      · rw [if_pos q] at g
        rw [if_neg (Int32.not_lt.mpr (nI_le q (by omega))), nI_or (by omega) (by omega)] at e8
        rw [e8]
        exact g
      · rw [if_neg q] at g
        rw [if_pos (Int32.not_le.mp (nI_ge (by omega) (by omega))), nI_or (by omega) (by omega), Nat.or_zero] at e8
        rw [e8]
        exact g
  exact ⟨_, lp (nvL v) 0 (by omega)⟩
