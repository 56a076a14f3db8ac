/-! ===== the four proved promises over one relation ===== -/
theorem TY_gm1 : TY gm1 := by
  intro t ht
  have q : t = 0 ∨ t = 1 ∨ t = 2 ∨ t = 3 := by omega
  rcases q with q | q | q | q <;> subst q <;> exact Or.inl ⟨by decide +kernel, by decide +kernel⟩
theorem RLY_RLT (RR : MH → Prop) : RLY RR = RLT (fun h => TY h ∧ RR h) := rfl
theorem ST_feed_Y {RR : MH → Prop} (hf : ∀ h h2, AgT h h2 → RR h → RR h2) : ST_feed (RLY RR) := by
  rw [RLY_RLT]
  exact ST_feed_of (fun h h2 g p => ⟨TY_AgT g p.1, hf h h2 g p.2⟩)
theorem ST_fault_Y {RR : MH → Prop} (hf : ∀ h h2, AgT h h2 → RR h → RR h2) : ST_fault (RLY RR) := by
  rw [RLY_RLT]
  exact ST_fault_of (fun h h2 g p => ⟨TY_AgT g p.1, hf h h2 g p.2⟩)
theorem RLY_gm1 {RR : MH → Prop} (h0 : RR gm1) : RLY RR gm1 := ⟨LX_gm1, TP_gm1, TY_gm1, h0⟩
