/-! Part 9v: the bound's step. -/
def ST2_bound (R R2 : MH → Prop) : Prop := ∀ (y1 : Int32) (h : MH), R h → ∀ P : Int64 → MH → Prop, (∀ (r : Int64) (h1 : MH), hS h1 223 = (1, 10) → (∀ P2 : Int64 → MH → Prop, (∀ h2 : MH, R2 h2 → P2 r h2) → wX10_bound 223 y1 h1 P2) → P r h1) → wX9_bound 128 y1 h P
theorem JB_end {lp : NV → Nat → Nat → Nat} {B : Nat} {d : DV} {g : MH} (ok : DOK d) (j : JB lp B d g) : RLY (RRc (CVA lp B)) (sI g 223 0 (nI 0)) :=
  st_close2 (CVA_keep lp B) j.1 j.2.1 j.2.2.1 (FrM_thrown _ _) (MP_thrown j.2.2.2) ok
theorem JB_thr {lp : NV → Nat → Nat → Nat} {B : Nat} {d : DV} {g : MH} (j : JB lp B d g) : LX (sI g 223 0 (nI 0)) ∧ MP (sI g 223 0 (nI 0)) d :=
  ⟨LX_Fr (FrM_thrown _ _).1 j.1, MP_thrown j.2.2.2⟩
theorem ST2_bound_c {lp : NV → Nat → Nat → Nat} {A : Nat} (hA : A + 10 < 2 ^ 40) : ST2_bound (RLY (RRc (CVA lp A))) (RLY (RRc (CVA lp (A + 10)))) := by
  intro y1 h hr P kP
  obtain ⟨hl, t1, t2, d, ok, c, m⟩ := hr
  obtain ⟨⟨a, ca, cn⟩, cs, _, _, _, cv⟩ := id c
  have h4 := cn.1.1
  have j : JB lp A d h := ⟨hl, ⟨t1, t2⟩, c, m⟩
  have r10 : asR (dS d) < 10 := ok.1.1
  have bad : ¬ (0 ≤ y1.toInt ∧ y1.toInt ≤ 1) → P (-2 : Int64) h := fun z =>
    kP _ _ (S_223 hl) (fun P2 k2 => ⟨S_223 hl, fun g2 e2 => u_within (fun z1 z2 => absurd ⟨z1, z2⟩ z) (fun _ => ⟨fun z => absurd nI_0 z, fun _ => k2 _ (by rw [e2]; exact JB_end ok (JB_le (by omega) j))⟩)⟩)
  rcases nI_cases y1 1 (by omega) with ⟨w, hw, ew⟩ | z
  · subst ew
    refine ⟨fun z => absurd z (nI_nn (by omega)), fun _ => ⟨fun _ => ?_, fun z => absurd (nI_le hw (by omega)) z⟩⟩
    refine ⟨S_128 hl, 199, R_128_7 hl, a, ca, 146, R_128_2 hl, S_146 hl, 205, R_128_8 hl, S_199 hl, S_205 hl, ?_⟩
    rw [show hI h 146 0 = nI (asR (dS d)) from cs.1]
    have b0 : BdOK 0 0 1 := ⟨by omega, by omega, by omega⟩
    have inn : ∀ (g : MH) (r : Int64), JB lp (A + 10) d g → (∀ P2 : Int64 → MH → Prop, P2 r (sI g 223 0 (nI 0)) → ∃ mm, wX10_bound_27 P2 mm 223 (nI w) (lN 0) (lN 1) (nI 0) (sI g 223 0 (nI 0))) → P r g := fun g r jg k =>
      kP _ _ (S_223 jg.1) (fun P2 k2 => ⟨S_223 jg.1, fun g2 e2 => u_within (fun _ _ => ⟨fun _ => by rw [e2]; exact k P2 (k2 _ (JB_end ok jg)), fun z => absurd z (by decide)⟩) (fun z => absurd (show 0 ≤ (nI w).toInt ∧ (nI w).toInt ≤ 1 from by
        rcases (show w = 0 ∨ w = 1 from by omega) with e | e <;> rw [e] <;> decide) z)⟩)
    refine n_begin1 (k := 1) (a := 0) (b := 1) hl (by omega) (by omega) (by omega) (by omega) (by omega) ⟨nvL (dN d) + 1, ?_⟩
    refine n_bdLoop (lp := lp) (A2 := A + 10) r10 (by omega) (nvL (dN d)) 0 0 1 _ A (by omega) (JB_205 (JB_205 j)) ca (by omega) ?_ ?_ b0 (fun e g jg => ?_) (fun p e g jg ex ey => ?_)
    · rw [hL_sL, if_neg (by omega), hL_sL, if_pos ⟨rfl, rfl⟩]
      rfl
    · rw [hL_sL, if_pos ⟨rfl, rfl⟩]
      rfl
    · refine ⟨fun z => absurd nI_0 z, fun _ => inn g _ jg (fun P2 k2 => ⟨_, m_bdLoop (JB_thr jg).1 cn.1 r10 (JB_thr jg).2 (nvL (dN d)) 0 0 1 (by omega) b0 (fun _ => k2) (fun p e2 => ?_)⟩)⟩
      rw [e] at e2
      cases e2
    · refine ⟨fun _ => ⟨S_128 jg.1, 205, R_128_8 jg.1, S_205 jg.1, ?_⟩, fun z => absurd z (by decide)⟩
      have fin : P (if nI w = 0 then lN p.1 else lN p.2) g := inn g _ jg (fun P2 k2 => ⟨_, m_bdLoop (JB_thr jg).1 cn.1 r10 (JB_thr jg).2 (nvL (dN d)) 0 0 1 (by omega) b0 (fun e2 => by rw [e] at e2; cases e2) (fun p2 e2 => by rw [e] at e2; cases e2; exact k2)⟩)
      unfold wX1_part
      rw [ex, ey]
      refine ⟨fun z => ⟨S_205 jg.1, ?_⟩, fun z => ⟨S_205 jg.1, ?_⟩⟩
      · rw [if_neg z] at fin
        exact fin
      · rw [if_pos z] at fin
        exact fin
  · refine ⟨fun _ => bad z, fun z1 => ⟨fun z2 => ?_, fun _ => bad z⟩⟩
    refine absurd ⟨?_, ?_⟩ z
    · exact Int32.le_iff_toInt_le.mp (Int32.not_lt.mp z1)
    · exact Int32.le_iff_toInt_le.mp z2
