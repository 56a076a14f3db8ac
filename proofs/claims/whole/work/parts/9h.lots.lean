/-! ===== lots: the reference's sums ===== -/
/-- all as in h but for the two sums and what is laid aside on the levels below n -/
def LotI (n : Nat) (h g : MH) : Prop := hN g = hN h ∧ hS g = hS h ∧ hR g = hR h ∧ (∀ b k, ¬ (b = 223 ∧ (k = 32 ∨ k = 33)) → hL g b k = hL h b k) ∧ (∀ b, b ≠ 240 → hI g b = hI h b) ∧ ∀ k, 126 * n ≤ k → hI g 240 k = hI h 240 k
theorem LX_Lot {n : Nat} {h g : MH} (p : LotI n h g) (hl : LX h) : LX g := by
  unfold LX
  rw [p.1, p.2.1, p.2.2.1]
  exact hl
theorem Lot_trans {n : Nat} {h g g2 : MH} (p : LotI n h g) (q : LotI n g g2) : LotI n h g2 := ⟨q.1.trans p.1, q.2.1.trans p.2.1, q.2.2.1.trans p.2.2.1, fun b k z => (q.2.2.2.1 b k z).trans (p.2.2.2.1 b k z), fun b z => (q.2.2.2.2.1 b z).trans (p.2.2.2.2.1 b z), fun k z => (q.2.2.2.2.2 k z).trans (p.2.2.2.2.2 k z)⟩
theorem Lot_rfl (n : Nat) (h : MH) : LotI n h h := ⟨rfl, rfl, rfl, fun _ _ _ => rfl, fun _ _ => rfl, fun _ _ => rfl⟩
theorem Lot_up {n : Nat} {h g : MH} (p : LotI n h g) : LotI (n + 1) h g := ⟨p.1, p.2.1, p.2.2.1, p.2.2.2.1, p.2.2.2.2.1, fun k z => p.2.2.2.2.2 k (by omega)⟩
def lSum (h : MH) (k : Nat) : Int64 := hL h 223 k
theorem m_goesLots {v : NV} (hv : NvOK v) : ∀ n d s h (Q : MH → Prop), 7 + n ≤ d → n ≤ 3 → LX h → MNet (hI h 224) v → RgV h v (asR s) → AsOK v s → StM v s (fun k => hI h 224 (49 + k)) → (∀ g, LotI n h g → hL g 223 32 = hL h 223 32 + lN (lotV v (valC v 0) n s) → hL g 223 33 = hL h 223 33 + lN (lotV v (valC v 1) n s) → Q g) → Cm MX10_goesLots d 0 0 [.ref 223, .int (nI n)] h (pV Q) := by
  have h4 := hv.1
  intro n
  induction n with
  | zero =>
    intro d s h Q hd hn hl pn pr ok ps hq
    have le := lost_le hv s
    refine gX10_goesLots (PX10_goesLots := fun _ _ _ _ => False) (d2 := 0) (by omega) (by omega) (fun _ _ _ _ q => q.elim) _ _ h Q ⟨fun z => absurd nI_0 z, fun _ => ⟨S_223 hl, m_lostNow hl hv pn ok ps ⟨S_223 hl, S_223 hl, fun g1 e1 => ⟨by rw [e1]; exact S_223 hl, fun g2 e2 => ?_⟩⟩⟩⟩
    have e3 : hL g1 223 33 = hL h 223 33 := by rw [e1, hL_sL, if_neg (by omega)]
    rw [e3] at e2
    refine hq g2 ⟨by rw [e2, e1]; rfl, by rw [e2, e1]; rfl, by rw [e2, e1]; rfl, fun b k z => ?_, fun b _ => by rw [e2, e1]; rfl, fun k _ => by rw [e2, e1]; rfl⟩ ?_ ?_
    · rw [e2, hL_sL, if_neg (by omega), e1, hL_sL, if_neg (by omega)]
    · rw [e2, hL_sL, if_neg (by omega), e1, hL_sL, if_pos ⟨rfl, rfl⟩]
      congr 1
      show _ = lN (valC v 0 s)
      unfold valC
      rw [if_pos rfl]
      by_cases q : lostA v s = 0
      · rw [if_pos ((nI_eq0 (by omega)).mpr q), if_pos q]; rfl
      · rw [if_neg (fun y => q ((nI_eq0 (by omega)).mp y)), if_neg q]; rfl
    · rw [e2, hL_sL, if_pos ⟨rfl, rfl⟩]
      congr 1
      show _ = lN (valC v 1 s)
      unfold valC
      rw [if_neg (by omega)]
      apply Int64.toInt_inj.mp
      rw [Int32.toInt_toInt64, nI_toInt (by omega), lN_toInt (by omega)]
  | succ n ih =>
    intro d s h Q hd hn hl pn pr ok ps hq
    have sub : nI (n + 1) - nI 1 = nI n := by rw [nI_subN (by omega), Nat.add_sub_cancel]
    refine gX10_goesLots (PX10_goesLots := fun y0 y1 h Q => Cm MX10_goesLots (d - 1) 0 0 [.ref y0, .int y1] h (pV Q)) (d2 := d - 1) (by omega) (by omega) (fun _ _ _ _ q => q) _ _ h Q ⟨fun _ => ⟨127, ?_⟩, fun z => absurd ((nI_eq0 (by omega)).mp z) (by omega)⟩
    rw [sub, nI_mul]
    -- the lots, from a heap h0 with the state laid aside
    have lots : ∀ h0, LotI (n + 1) h h0 → (∀ k, hL h0 223 k = hL h 223 k) → (∀ k, k < 126 → hI h0 240 (126 * n + k) = hI h 224 (49 + k)) → ∀ m i g, i + m = 10 → LotI (n + 1) h g → (∀ k, k < 126 → hI g 240 (126 * n + k) = hI h 224 (49 + k)) → hL g 223 32 = hL h 223 32 + lN (sumC (fun l => lotV v (valC v 0) n (lotS v s l)) i) → hL g 223 33 = hL h 223 33 + lN (sumC (fun l => lotV v (valC v 1) n (lotS v s l)) i) → wX10_goesLots_79 Q (fun y0 y1 h Q => Cm MX10_goesLots (d - 1) 0 0 [.ref y0, .int y1] h (pV Q)) (m + 1) 223 (nI (n + 1)) (nI (126 * n)) (nI i) g := by
      intro h0 _ _ _ m
      induction m with
      | zero =>
        intro i g hi p0 pa s1 s2
        have hi : i = 10 := by omega
        subst hi
        unfold wX10_goesLots_79
        exact ⟨fun _ => hq g p0 s1 s2, fun z => absurd (nI_le (by omega) (by omega)) z⟩
      | succ m im =>
        intro i g hi p0 pa s1 s2
        have hlg := LX_Lot p0 hl
        have e224 : hI g 224 = hI h 224 := p0.2.2.2.2.1 224 (by omega)
        have png : MNet (hI g 224) v := by rw [e224]; exact pn
        have prg : RgV g v (asR s) := RgV_row (by rw [p0.2.2.2.2.1 223 (by omega)]) (p0.2.2.2.2.1 _ (by omega)) (p0.2.2.2.2.1 _ (by omega)) (p0.2.2.2.2.1 _ (by omega)) (p0.2.2.2.2.1 _ (by omega)) pr
        have psg : StM v s (fun k => hI g 224 (49 + k)) := by rw [e224]; exact ps
        -- behind the lot, from a heap g1 whose state is the lot's
        have beh : ∀ g1, Fr (fun b => b = 224) g g1 → (∀ k, (k < 49 ∨ 175 ≤ k) → hI g1 224 k = hI g 224 k) → StM v (lotS v s i) (fun k => hI g1 224 (49 + k)) → asR (lotS v s i) = asR s → wX10_goesLots_99 Q (fun y0 y1 h Q => Cm MX10_goesLots (d - 1) 0 0 [.ref y0, .int y1] h (pV Q)) (wX10_goesLots_79 Q (fun y0 y1 h Q => Cm MX10_goesLots (d - 1) 0 0 [.ref y0, .int y1] h (pV Q)) (m + 1)) 223 (nI (n + 1)) (nI (126 * n)) (nI i) g1 := by
          intro g1 f1 r1 ps1 rr
          have hl1 := LX_Fr f1 hlg
          refine ⟨S_223 hl1, ?_⟩
          rw [sub]
          refine ih (d - 1) (lotS v s i) g1 _ (by omega) (by omega) hl1 (MNet_cong (fun k hk => r1 k (by omega)) (by omega) png) (by rw [rr]; exact RgV_row (Fr_I f1 (by omega) _) (f1.2.2.2.2 _ (by omega)) (f1.2.2.2.2 _ (by omega)) (f1.2.2.2.2 _ (by omega)) (f1.2.2.2.2 _ (by omega)) prg) (AsOK_lotS hv ok i) ps1 (fun g2 p2 a1 a2 => ⟨127, ?_⟩)
          have hl2 := LX_Lot p2 hl1
          have pa2 : ∀ k, k < 126 → hI g2 240 (126 * n + k) = hI h 224 (49 + k) := fun k hk => by rw [p2.2.2.2.2.2 _ (by omega), Fr_I f1 (by omega), pa k hk]
          have rs : ∀ j x g3, x + j = 126 → Fr (fun b => b = 224) g2 g3 → (∀ k, (k < 49 ∨ 175 ≤ k) → hI g3 224 k = hI h 224 k) → (∀ k, k < x → hI g3 224 (49 + k) = hI h 224 (49 + k)) → wX10_goesLots_109 Q (fun y0 y1 h Q => Cm MX10_goesLots (d - 1) 0 0 [.ref y0, .int y1] h (pV Q)) (wX10_goesLots_79 Q (fun y0 y1 h Q => Cm MX10_goesLots (d - 1) 0 0 [.ref y0, .int y1] h (pV Q)) (m + 1)) (j + 1) 223 (nI (n + 1)) (nI (126 * n)) (nI i) (nI x) g3 := by
            intro j
            induction j with
            | zero =>
              intro x g3 hx f3 q1 q2
              have hx : x = 126 := by omega
              subst hx
              unfold wX10_goesLots_109
              rw [nI_add]
              refine ⟨fun _ => im (i + 1) g3 (by omega) ?_ (fun k hk => ?_) ?_ ?_, fun z => absurd (nI_le (by omega) (by omega)) z⟩
              · refine ⟨by rw [f3.1, p2.1, f1.1]; exact p0.1, by rw [f3.2.1, p2.2.1, f1.2.1]; exact p0.2.1, by rw [f3.2.2.2.1, p2.2.2.1, f1.2.2.2.1]; exact p0.2.2.1, fun b k z => ?_, fun b z => ?_, fun k z => ?_⟩
                · rw [f3.2.2.1, p2.2.2.2.1 b k z, f1.2.2.1]
                  exact p0.2.2.2.1 b k z
                · by_cases e : b = 224
                  · rw [e]
                    funext k
                    by_cases y : k < 49 ∨ 175 ≤ k
                    · exact q1 k y
                    · have := q2 (k - 49) (by omega)
                      rw [show 49 + (k - 49) = k from by omega] at this
                      exact this
                  · rw [f3.2.2.2.2 b e, p2.2.2.2.2.1 b z, f1.2.2.2.2 b e]
                    exact p0.2.2.2.2.1 b z
                · rw [Fr_I f3 (by omega), p2.2.2.2.2.2 k (by omega), Fr_I f1 (by omega)]
                  exact p0.2.2.2.2.2 k z
              · rw [Fr_I f3 (by omega)]
                exact pa2 k hk
              · rw [f3.2.2.1, a1, f1.2.2.1, s1, Int64.add_assoc, lN_add]
                rfl
              · rw [f3.2.2.1, a2, f1.2.2.1, s2, Int64.add_assoc, lN_add]
                rfl
            | succ j ij =>
              intro x g3 hx f3 q1 q2
              have hl3 := LX_Fr f3 hl2
              unfold wX10_goesLots_109
              simp only [nI_add]
              refine ⟨fun z => absurd z (nI_ge (by omega) (by omega)), fun _ => ⟨S_223 hl3, 224, R_223_1 hl3, 240, R_223_31 hl3, 378, S_240 hl3, vp_in_nI (by omega) (by omega), 7011, S_224 hl3, vp_in_nI (by omega) (by omega), fun _ e => ?_⟩⟩
              rw [nI_clamp (show 49 + x < 2 ^ 31 by omega), nI_clamp (show 126 * n + x < 2 ^ 31 by omega), Fr_I f3 (by omega), pa2 x (by omega)] at e
              subst e
              refine ij (x + 1) _ (by omega) (Fr_trans f3 (Fr_sI rfl)) (fun k hk => ?_) (fun k hk => ?_)
              · rw [hI_sI, if_neg (by omega)]
                exact q1 k hk
              · rw [hI_sI]
                by_cases y : k = x
                · rw [if_pos ⟨rfl, by omega⟩, y]
                · rw [if_neg (by omega)]
                  exact q2 k (by omega)
          refine rs 126 0 g2 (by omega) (Fr_rfl _ _) (fun k hk => ?_) (fun k hk => absurd hk (by omega))
          rw [p2.2.2.2.2.1 224 (by omega), r1 k hk, e224]
        unfold wX10_goesLots_79
        refine ⟨fun z => absurd z (nI_ge (by omega) (by omega)), fun _ => ⟨S_223 hlg, why_fail1 hlg hv ok png psg (fun q => ⟨fun _ => ?_, fun z => absurd z (by decide)⟩) (fun l hk q => ⟨fun _ => ?_, fun z => absurd z (by decide)⟩) (fun l hk q => ⟨fun z => absurd nI_0 z, fun _ => ⟨S_223 hlg, ?_⟩⟩)⟩⟩
        · have nu : ¬ unF v s i := fun y => q ⟨i, y.1, rfl⟩
          exact beh g (Fr_rfl _ _) (fun _ _ => rfl) (by rw [lotS_n nu]; exact psg) (by rw [lotS_n nu])
        · have hk1 := hk.1
          have el : i = l := (nI_eq (by omega) (by omega)).mp hk.2
          have nu : ¬ unF v s i := fun y => by have := y.2; rw [el] at this; omega
          exact beh g (Fr_rfl _ _) (fun _ _ => rfl) (by rw [lotS_n nu]; exact psg) (by rw [lotS_n nu])
        · have hk1 := hk.1
          have el : i = l := (nI_eq (by omega) (by omega)).mp hk.2
          have yu : unF v s i := ⟨by omega, by rw [el]; exact q⟩
          exact m_goesFail hlg hv png prg ok psg yu.1 (fun g1 t1 => beh g1 t1.1 t1.2.1 (by rw [lotS_y yu]; exact t1.2.2) (by rw [lotS_y yu]; exact dR v _))
    have sv : ∀ j x g, x + j = 126 → Fr (fun b => b = 240) h g → (∀ k, 126 * (n + 1) ≤ k → hI g 240 k = hI h 240 k) → (∀ k, k < x → hI g 240 (126 * n + k) = hI h 224 (49 + k)) → wX10_goesLots_48 Q (fun y0 y1 h Q => Cm MX10_goesLots (d - 1) 0 0 [.ref y0, .int y1] h (pV Q)) (j + 1) 223 (nI (n + 1)) (nI (126 * n)) (nI x) g := by
      intro j
      induction j with
      | zero =>
        intro x g hx f q0 q1
        have hx : x = 126 := by omega
        subst hx
        have p0 : LotI (n + 1) h g := ⟨f.1, f.2.1, f.2.2.2.1, fun b k _ => by rw [f.2.2.1], fun b z => f.2.2.2.2 b z, q0⟩
        unfold wX10_goesLots_48
        refine ⟨fun _ => ⟨11, lots g p0 (fun k => by rw [f.2.2.1]) q1 10 0 g (by omega) p0 q1 ?_ ?_⟩, fun z => absurd (nI_le (by omega) (by omega)) z⟩
        · rw [f.2.2.1]
          exact (Int64.add_zero _).symm
        · rw [f.2.2.1]
          exact (Int64.add_zero _).symm
      | succ j ij =>
        intro x g hx f q0 q1
        have hlg := LX_Fr f hl
        unfold wX10_goesLots_48
        simp only [nI_add]
        refine ⟨fun z => absurd z (nI_ge (by omega) (by omega)), fun _ => ⟨S_223 hlg, 240, R_223_31 hlg, 224, R_223_1 hlg, 7011, S_224 hlg, vp_in_nI (by omega) (by omega), 378, S_240 hlg, vp_in_nI (by omega) (by omega), fun _ e => ?_⟩⟩
        rw [nI_clamp (show 49 + x < 2 ^ 31 by omega), nI_clamp (show 126 * n + x < 2 ^ 31 by omega), Fr_I f (by omega)] at e
        subst e
        refine ij (x + 1) _ (by omega) (Fr_trans f (Fr_sI rfl)) (fun k hk => ?_) (fun k hk => ?_)
        · rw [hI_sI, if_neg (by omega)]
          exact q0 k hk
        · rw [hI_sI]
          by_cases y : k = x
          · rw [if_pos ⟨rfl, by omega⟩, y]
          · rw [if_neg (by omega)]
            exact q1 k (by omega)
    exact sv 126 0 h (by omega) (Fr_rfl _ _) (fun _ _ => rfl) (fun k hk => absurd hk (by omega))
