/-! ===== the law's loop, over relations that every call keeps ===== -/
def ST3_net (R R2 : MH → Prop) : Prop := ∀ (y1 : Int32) (h : MH), R h → Zh h → ∀ P : Int32 → MH → Prop, (∀ (r : Int32) (h1 : MH), hS h1 223 = (1, 10) → (∀ P2 : Int32 → MH → Prop, (∀ h2 : MH, R2 h2 → P2 r h2) → wX10_net 223 y1 h1 P2) → P r h1) → wX9_net 16 1125 128 y1 h P
set_option maxHeartbeats 4000000 in
set_option maxRecDepth 100000 in
theorem u_loop {R : Nat → MH → Prop} {L : Nat} {xs : Nat → Int32} {Q : Int32 → MH → Prop} (hL : L ≤ 3072) (hQ : ∀ h, Q (nI 1) h) (up : ∀ k h, R k h → R (k + 1) h) (r9 : ∀ k h, R k h → hS h 128 = (1, 9)) (k0 : ∀ k, ST_feed (R k)) (k1 : ∀ k, k < 512 → ST3_net (R k) (R (k + 1))) (k2 : ∀ k, ST_fault (R k)) (k3 : ∀ k, ST_link (R k)) (k4 : ∀ k, ST_ring (R k)) (k5 : ∀ k, ST_ringOf (R k)) (k6 : ∀ k, ST_use (R k)) (k7 : ∀ k, ST_path (R k)) (k8 : ∀ k, ST_lay (R k)) (k9 : ∀ k, ST_take (R k)) (k10 : ∀ k, ST_fail (R k)) (k11 : ∀ k, ST_mend (R k)) (k12 : ∀ k, ST_rate (R k)) (k13 : ∀ k, ST_undo (R k)) (k14 : ∀ k, ST_judge (R k)) (k15 : ∀ k, ST_perform (R k)) (k16 : ∀ k, ST_year (R k)) (k17 : ∀ k, ST_isCover (R k)) (k18 : ∀ k, ST_cost (R k)) (k19 : ∀ k, k < 512 → ST3_yet (R k) (R (k + 1))) (k20 : ∀ k, k < 512 → ST3_among (R k) (R (k + 1))) (k21 : ∀ k, k < 512 → ST2_bound (R k) (R (k + 1))) (k22 : ∀ k, k < 512 → ST2_covers (R k) (R (k + 1))) (k23 : ∀ k, k < 512 → ST2_best (R k) (R (k + 1))) (k24 : ∀ k, ST_spare (R k)) (k25 : ∀ k, ST_runs (R k)) (k26 : ∀ k, ST_lost (R k)) (k27 : ∀ k, ST_ifFails (R k)) (k28 : ∀ k, ST_worst (R k)) (k29 : ∀ k, ST_two (R k)) (k30 : ∀ k, ST_twos (R k)) (k31 : ∀ k, ST_stands (R k)) (k32 : ∀ k, ST_rings (R k)) (k33 : ∀ k, k < 512 → ST2_bare (R k) (R (k + 1))) (k34 : ∀ k, ST_bridges (R k)) (k35 : ∀ k, ST_cut (R k)) (k36 : ∀ k, ST_rates (R k)) (k37 : ∀ k, ST_ask (R k)) (k38 : ∀ k, ST_chance (R k)) (k39 : ∀ k, ST_mean (R k)) (k40 : ∀ k, ST_numbers (R k)) (k41 : ∀ k, ST_write (R k)) (k42 : ∀ k, k < 512 → ST3_lists (R k) (R (k + 1))) (k43 : ∀ k, ST_image (R k)) (k44 : ∀ k, ST_restore (R k)) (k45 : ∀ k, ST_count (R k)) : ∀ (n i k b t : Nat) (h : MH), R k h → k + n ≤ 512 → i ≤ 3077 → L < i + 6 * (n + 1) → 16 * n ≤ b → 2048 * n ≤ t → wL_law_18 Q L xs (n + 1) b t 128 223 (nI i) h := by
  intro n
  induction n with
  | zero =>
    intro i k b t h hr hk hi hn hb ht
    unfold wL_law_18
    intro hz
    exact ⟨fun _ => hQ h, fun c => absurd ((nI_sub6 hL (by omega)).mpr (by omega)) c⟩
  | succ n ih =>
    intro i k b t h hr hk hi hn hb ht
    unfold wL_law_18
    intro hz
    refine ⟨fun _ => hQ h, fun c => ?_⟩
    replace c : ¬ L < i + 6 := fun q => c ((nI_sub6 hL (by omega)).mpr q)
    have ih' : ∀ (b t : Nat) (h : MH), R (k + 1) h → 16 * n ≤ b → 2048 * n ≤ t → wL_law_18 Q L xs (n + 1) b t 128 223 (nI i + nI 6) h := by
      intro b t h hr hb ht
      rw [nI_add]
      exact ih (i + 6) (k + 1) b t h hr (by omega) (by omega) (by omega) hb ht
    have v1 : vp_in (nI i + nI 1) L := by rw [nI_add]; exact vp_in_nI (by omega) (by omega)
    have v2 : vp_in (nI i + nI 2) L := by rw [nI_add]; exact vp_in_nI (by omega) (by omega)
    have v3 : vp_in (nI i + nI 3) L := by rw [nI_add]; exact vp_in_nI (by omega) (by omega)
    have v4 : vp_in (nI i + nI 4) L := by rw [nI_add]; exact vp_in_nI (by omega) (by omega)
    have v5 : vp_in (nI i + nI 5) L := by rw [nI_add]; exact vp_in_nI (by omega) (by omega)
    refine ⟨vp_in_nI (by omega) (by omega), fun _ => ih' b t h (up k h hr) (by omega) (by omega), ?_, ?_, ?_, ?_, ?_, ?_, ?_, ?_, ?_, ?_, ?_, ?_, ?_, ?_, ?_, ?_, ?_, ?_, ?_, ?_, ?_, ?_, ?_, ?_, ?_, ?_, ?_, ?_, ?_, ?_, ?_, ?_, ?_, ?_, ?_, ?_, ?_, ?_, ?_, ?_, ?_, ?_, ?_, ?_, ?_, ?_⟩
    · exact fun _ => ⟨v1, v2, v3, v4, v5, r9 k h hr, k0 k _ _ _ _ _ h hr _ (fun r h1 s w => ⟨v1, v2, v3, v4, v5, s, w _ (fun h2 hr2 => ⟨fun _ => ih' _ _ h2 (up k h2 hr2) (by omega) (by omega), (fun c => absurd rfl c)⟩)⟩)⟩
    · exact fun _ => ⟨v1, r9 k h hr, (by omega), (by omega), k1 k (by omega) _ h hr hz _ (fun r h1 s w => ⟨v1, s, w _ (fun h2 hr2 => ⟨fun _ => ih' _ _ h2 (hr2) (by omega) (by omega), (fun c => absurd rfl c)⟩)⟩)⟩
    · exact fun _ => ⟨v1, r9 k h hr, k2 k _ h hr _ (fun r h1 s w => ⟨v1, s, w _ (fun h2 hr2 => ⟨fun _ => ih' _ _ h2 (up k h2 hr2) (by omega) (by omega), (fun c => absurd rfl c)⟩)⟩)⟩
    · exact fun _ => ⟨v1, v2, r9 k h hr, k3 k _ _ h hr _ (fun r h1 s w => ⟨v1, v2, s, w _ (fun h2 hr2 => ⟨fun _ => ih' _ _ h2 (up k h2 hr2) (by omega) (by omega), (fun c => absurd rfl c)⟩)⟩)⟩
    · exact fun _ => ⟨v1, v2, r9 k h hr, k4 k _ _ h hr _ (fun r h1 s w => ⟨v1, v2, s, w _ (fun h2 hr2 => ⟨fun _ => ih' _ _ h2 (up k h2 hr2) (by omega) (by omega), (fun c => absurd rfl c)⟩)⟩)⟩
    · exact fun _ => ⟨v1, r9 k h hr, k5 k _ h hr _ (fun r h1 s w => ⟨v1, s, w _ (fun h2 hr2 => ⟨fun _ => ih' _ _ h2 (up k h2 hr2) (by omega) (by omega), (fun c => absurd rfl c)⟩)⟩)⟩
    · exact fun _ => ⟨v1, v2, r9 k h hr, k6 k _ _ h hr _ (fun r h1 s w => ⟨v1, v2, s, w _ (fun h2 hr2 => ⟨fun _ => ih' _ _ h2 (up k h2 hr2) (by omega) (by omega), (fun c => absurd rfl c)⟩)⟩)⟩
    · exact fun _ => ⟨v1, v2, v3, r9 k h hr, k7 k _ _ _ h hr _ (fun r h1 s w => ⟨v1, v2, v3, s, w _ (fun h2 hr2 => ⟨fun _ => ih' _ _ h2 (up k h2 hr2) (by omega) (by omega), (fun c => absurd rfl c)⟩)⟩)⟩
    · exact fun _ => ⟨v1, r9 k h hr, k8 k _ h hr _ (fun r h1 s w => ⟨v1, s, w _ (fun h2 hr2 => ⟨fun _ => ih' _ _ h2 (up k h2 hr2) (by omega) (by omega), (fun c => absurd rfl c)⟩)⟩)⟩
    · exact fun _ => ⟨v1, r9 k h hr, k9 k _ h hr _ (fun r h1 s w => ⟨v1, s, w _ (fun h2 hr2 => ⟨fun _ => ih' _ _ h2 (up k h2 hr2) (by omega) (by omega), (fun c => absurd rfl c)⟩)⟩)⟩
    · exact fun _ => ⟨v1, r9 k h hr, k10 k _ h hr _ (fun r h1 s w => ⟨v1, s, w _ (fun h2 hr2 => ⟨fun _ => ih' _ _ h2 (up k h2 hr2) (by omega) (by omega), (fun c => absurd rfl c)⟩)⟩)⟩
    · exact fun _ => ⟨v1, r9 k h hr, k11 k _ h hr _ (fun r h1 s w => ⟨v1, s, w _ (fun h2 hr2 => ⟨fun _ => ih' _ _ h2 (up k h2 hr2) (by omega) (by omega), (fun c => absurd rfl c)⟩)⟩)⟩
    · exact fun _ => ⟨v1, r9 k h hr, k12 k _ h hr _ (fun r h1 s w => ⟨v1, s, w _ (fun h2 hr2 => ⟨fun _ => ih' _ _ h2 (up k h2 hr2) (by omega) (by omega), (fun c => absurd rfl c)⟩)⟩)⟩
    · exact fun _ => ⟨v1, r9 k h hr, k13 k _ h hr _ (fun r h1 s w => ⟨v1, s, w _ (fun h2 hr2 => ⟨fun _ => ih' _ _ h2 (up k h2 hr2) (by omega) (by omega), (fun c => absurd rfl c)⟩)⟩)⟩
    · exact fun _ => ⟨v1, v2, r9 k h hr, k14 k _ _ h hr _ (fun r h1 s w => ⟨v1, v2, s, w _ (fun h2 hr2 => ⟨fun _ => ih' _ _ h2 (up k h2 hr2) (by omega) (by omega), (fun c => absurd rfl c)⟩)⟩)⟩
    · exact fun _ => ⟨v1, r9 k h hr, k15 k _ h hr _ (fun r h1 s w => ⟨v1, s, w _ (fun h2 hr2 => ⟨fun _ => ih' _ _ h2 (up k h2 hr2) (by omega) (by omega), (fun c => absurd rfl c)⟩)⟩)⟩
    · exact fun _ => ⟨v1, v2, r9 k h hr, k16 k _ _ h hr _ (fun r h1 s w => ⟨v1, v2, s, w _ (fun h2 hr2 => ⟨fun _ => ih' _ _ h2 (up k h2 hr2) (by omega) (by omega), (fun c => absurd rfl c)⟩)⟩)⟩
    · exact fun _ => ⟨r9 k h hr, k17 k h hr _ (fun r h1 s w => ⟨s, w _ (fun h2 hr2 => ⟨fun _ => ih' _ _ h2 (up k h2 hr2) (by omega) (by omega), (fun c => absurd rfl c)⟩)⟩)⟩
    · exact fun _ => ⟨r9 k h hr, k18 k h hr _ (fun r h1 s w => ⟨s, w _ (fun h2 hr2 => ⟨fun _ => ih' _ _ h2 (up k h2 hr2) (by omega) (by omega), (fun c => absurd rfl c)⟩)⟩)⟩
    · exact fun _ => ⟨v1, v2, r9 k h hr, (by omega), (by omega), k19 k (by omega) _ _ h hr hz _ (fun r h1 s w => ⟨v1, v2, s, w _ (fun h2 hr2 => ⟨fun _ => ih' _ _ h2 (hr2) (by omega) (by omega), (fun c => absurd rfl c)⟩)⟩)⟩
    · exact fun _ => ⟨v1, v2, r9 k h hr, (by omega), (by omega), k20 k (by omega) _ _ h hr hz _ (fun r h1 s w => ⟨v1, v2, s, w _ (fun h2 hr2 => ⟨fun _ => ih' _ _ h2 (hr2) (by omega) (by omega), (fun c => absurd rfl c)⟩)⟩)⟩
    · exact fun _ => ⟨v1, r9 k h hr, k21 k (by omega) _ h hr _ (fun r h1 s w => ⟨v1, s, w _ (fun h2 hr2 => ⟨fun _ => ih' _ _ h2 (hr2) (by omega) (by omega), (fun c => absurd (lg_cmp_self _) c)⟩)⟩)⟩
    · exact fun _ => ⟨v1, r9 k h hr, k22 k (by omega) _ h hr _ (fun r h1 s w => ⟨v1, s, w _ (fun h2 hr2 => ⟨fun _ => ih' _ _ h2 (hr2) (by omega) (by omega), (fun c => absurd rfl c)⟩)⟩)⟩
    · exact fun _ => ⟨r9 k h hr, k23 k (by omega) h hr _ (fun r h1 s w => ⟨s, w _ (fun h2 hr2 => ⟨fun _ => ih' _ _ h2 (hr2) (by omega) (by omega), (fun c => absurd rfl c)⟩)⟩)⟩
    · exact fun _ => ⟨r9 k h hr, k24 k h hr _ (fun r h1 s w => ⟨s, w _ (fun h2 hr2 => ⟨fun _ => ih' _ _ h2 (up k h2 hr2) (by omega) (by omega), (fun c => absurd rfl c)⟩)⟩)⟩
    · exact fun _ => ⟨v1, v2, v3, r9 k h hr, k25 k _ _ _ h hr _ (fun r h1 s w => ⟨v1, v2, v3, s, w _ (fun h2 hr2 => ⟨fun _ => ih' _ _ h2 (up k h2 hr2) (by omega) (by omega), (fun c => absurd rfl c)⟩)⟩)⟩
    · exact fun _ => ⟨r9 k h hr, k26 k h hr _ (fun r h1 s w => ⟨s, w _ (fun h2 hr2 => ⟨fun _ => ih' _ _ h2 (up k h2 hr2) (by omega) (by omega), (fun c => absurd rfl c)⟩)⟩)⟩
    · exact fun _ => ⟨v1, r9 k h hr, k27 k _ h hr _ (fun r h1 s w => ⟨v1, s, w _ (fun h2 hr2 => ⟨fun _ => ih' _ _ h2 (up k h2 hr2) (by omega) (by omega), (fun c => absurd rfl c)⟩)⟩)⟩
    · exact fun _ => ⟨r9 k h hr, k28 k h hr _ (fun r h1 s w => ⟨s, w _ (fun h2 hr2 => ⟨fun _ => ih' _ _ h2 (up k h2 hr2) (by omega) (by omega), (fun c => absurd rfl c)⟩)⟩)⟩
    · exact fun _ => ⟨v1, v2, r9 k h hr, k29 k _ _ h hr _ (fun r h1 s w => ⟨v1, v2, s, w _ (fun h2 hr2 => ⟨fun _ => ih' _ _ h2 (up k h2 hr2) (by omega) (by omega), (fun c => absurd rfl c)⟩)⟩)⟩
    · exact fun _ => ⟨v1, r9 k h hr, k30 k _ h hr _ (fun r h1 s w => ⟨v1, s, w _ (fun h2 hr2 => ⟨fun _ => ih' _ _ h2 (up k h2 hr2) (by omega) (by omega), (fun c => absurd rfl c)⟩)⟩)⟩
    · exact fun _ => ⟨r9 k h hr, k31 k h hr _ (fun r h1 s w => ⟨s, w _ (fun h2 hr2 => ⟨fun _ => ih' _ _ h2 (up k h2 hr2) (by omega) (by omega), (fun c => absurd rfl c)⟩)⟩)⟩
    · exact fun _ => ⟨r9 k h hr, k32 k h hr _ (fun r h1 s w => ⟨s, w _ (fun h2 hr2 => ⟨fun _ => ih' _ _ h2 (up k h2 hr2) (by omega) (by omega), (fun c => absurd rfl c)⟩)⟩)⟩
    · exact fun _ => ⟨r9 k h hr, k33 k (by omega) h hr _ (fun r h1 s w => ⟨s, w _ (fun h2 hr2 => ⟨fun _ => ih' _ _ h2 (hr2) (by omega) (by omega), (fun c => absurd rfl c)⟩)⟩)⟩
    · exact fun _ => ⟨r9 k h hr, k34 k h hr _ (fun r h1 s w => ⟨s, w _ (fun h2 hr2 => ⟨fun _ => ih' _ _ h2 (up k h2 hr2) (by omega) (by omega), (fun c => absurd rfl c)⟩)⟩)⟩
    · exact fun _ => ⟨v1, v2, v3, r9 k h hr, k35 k _ _ _ h hr _ (fun r h1 s w => ⟨v1, v2, v3, s, w _ (fun h2 hr2 => ⟨fun _ => ih' _ _ h2 (up k h2 hr2) (by omega) (by omega), (fun c => absurd rfl c)⟩)⟩)⟩
    · exact fun _ => ⟨v1, r9 k h hr, k36 k _ h hr _ (fun r h1 s w => ⟨v1, s, w _ (fun h2 hr2 => ⟨fun _ => ih' _ _ h2 (up k h2 hr2) (by omega) (by omega), (fun c => absurd rfl c)⟩)⟩)⟩
    · exact fun _ => ⟨v1, r9 k h hr, k37 k _ h hr _ (fun r h1 s w => ⟨v1, s, w _ (fun h2 hr2 => ⟨fun _ => ih' _ _ h2 (up k h2 hr2) (by omega) (by omega), (fun c => absurd rfl c)⟩)⟩)⟩
    · exact fun _ => ⟨v1, v2, r9 k h hr, k38 k _ _ h hr _ (fun r h1 s w => ⟨v1, v2, s, w _ (fun h2 hr2 => ⟨fun _ => ih' _ _ h2 (up k h2 hr2) (by omega) (by omega), (fun c => absurd rfl c)⟩)⟩)⟩
    · exact fun _ => ⟨v1, v2, r9 k h hr, k39 k _ _ h hr _ (fun r h1 s w => ⟨v1, v2, s, w _ (fun h2 hr2 => ⟨fun _ => ih' _ _ h2 (up k h2 hr2) (by omega) (by omega), (fun c => absurd rfl c)⟩)⟩)⟩
    · exact fun _ => ⟨v1, v2, v3, r9 k h hr, k40 k _ _ _ h hr _ (fun r h1 s w => ⟨v1, v2, v3, s, w _ (fun h2 hr2 => ⟨fun _ => ih' _ _ h2 (up k h2 hr2) (by omega) (by omega), (fun c => absurd rfl c)⟩)⟩)⟩
    · exact fun _ => ⟨v1, v2, v3, v4, r9 k h hr, k41 k _ _ _ h hr _ (fun r h1 s w => ⟨v1, v2, v3, v4, s, w _ (fun h2 hr2 => ⟨fun _ => ih' _ _ h2 (up k h2 hr2) (by omega) (by omega), (fun c => absurd (lg_cmp_self _) c)⟩)⟩)⟩
    · exact fun _ => ⟨v1, v2, r9 k h hr, (by omega), (by omega), k42 k (by omega) _ _ h hr hz _ (fun r h1 s w => ⟨v1, v2, s, w _ (fun h2 hr2 => ⟨fun _ => ih' _ _ h2 (hr2) (by omega) (by omega), (fun c => absurd rfl c)⟩)⟩)⟩
    · exact fun _ => ⟨v1, r9 k h hr, k43 k _ h hr _ (fun r h1 s w => ⟨v1, s, w _ (fun h2 hr2 => ⟨fun _ => ih' _ _ h2 (up k h2 hr2) (by omega) (by omega), (fun c => absurd rfl c)⟩)⟩)⟩
    · exact fun _ => ⟨v1, r9 k h hr, k44 k _ h hr _ (fun r h1 s w => ⟨v1, s, w _ (fun h2 hr2 => ⟨fun _ => ih' _ _ h2 (up k h2 hr2) (by omega) (by omega), (fun c => absurd rfl c)⟩)⟩)⟩
    · exact fun _ => ⟨v1, r9 k h hr, k45 k _ h hr _ (fun r h1 s w => ⟨v1, s, w _ (fun h2 hr2 => ⟨fun _ => ih' _ _ h2 (up k h2 hr2) (by omega) (by omega), (fun c => absurd rfl c)⟩)⟩)⟩
/-- the law out of relations that the first heap has and the calls keep, one behind another -/
theorem u_law {R : Nat → MH → Prop} {L : Nat} {xs : Nat → Int32} {Q : Int32 → MH → Prop} (hL : L ≤ 3072) (hQ : ∀ h, Q (nI 1) h) (r0 : R 0 gm1) (up : ∀ k h, R k h → R (k + 1) h) (r9 : ∀ k h, R k h → hS h 128 = (1, 9)) (k0 : ∀ k, ST_feed (R k)) (k1 : ∀ k, k < 512 → ST3_net (R k) (R (k + 1))) (k2 : ∀ k, ST_fault (R k)) (k3 : ∀ k, ST_link (R k)) (k4 : ∀ k, ST_ring (R k)) (k5 : ∀ k, ST_ringOf (R k)) (k6 : ∀ k, ST_use (R k)) (k7 : ∀ k, ST_path (R k)) (k8 : ∀ k, ST_lay (R k)) (k9 : ∀ k, ST_take (R k)) (k10 : ∀ k, ST_fail (R k)) (k11 : ∀ k, ST_mend (R k)) (k12 : ∀ k, ST_rate (R k)) (k13 : ∀ k, ST_undo (R k)) (k14 : ∀ k, ST_judge (R k)) (k15 : ∀ k, ST_perform (R k)) (k16 : ∀ k, ST_year (R k)) (k17 : ∀ k, ST_isCover (R k)) (k18 : ∀ k, ST_cost (R k)) (k19 : ∀ k, k < 512 → ST3_yet (R k) (R (k + 1))) (k20 : ∀ k, k < 512 → ST3_among (R k) (R (k + 1))) (k21 : ∀ k, k < 512 → ST2_bound (R k) (R (k + 1))) (k22 : ∀ k, k < 512 → ST2_covers (R k) (R (k + 1))) (k23 : ∀ k, k < 512 → ST2_best (R k) (R (k + 1))) (k24 : ∀ k, ST_spare (R k)) (k25 : ∀ k, ST_runs (R k)) (k26 : ∀ k, ST_lost (R k)) (k27 : ∀ k, ST_ifFails (R k)) (k28 : ∀ k, ST_worst (R k)) (k29 : ∀ k, ST_two (R k)) (k30 : ∀ k, ST_twos (R k)) (k31 : ∀ k, ST_stands (R k)) (k32 : ∀ k, ST_rings (R k)) (k33 : ∀ k, k < 512 → ST2_bare (R k) (R (k + 1))) (k34 : ∀ k, ST_bridges (R k)) (k35 : ∀ k, ST_cut (R k)) (k36 : ∀ k, ST_rates (R k)) (k37 : ∀ k, ST_ask (R k)) (k38 : ∀ k, ST_chance (R k)) (k39 : ∀ k, ST_mean (R k)) (k40 : ∀ k, ST_numbers (R k)) (k41 : ∀ k, ST_write (R k)) (k42 : ∀ k, k < 512 → ST3_lists (R k) (R (k + 1))) (k43 : ∀ k, ST_image (R k)) (k44 : ∀ k, ST_restore (R k)) (k45 : ∀ k, ST_count (R k)) : wL_law L xs 600000 7302250 h00 Q :=
  u_law0 ⟨513, u_loop hL hQ up r9 k0 k1 k2 k3 k4 k5 k6 k7 k8 k9 k10 k11 k12 k13 k14 k15 k16 k17 k18 k19 k20 k21 k22 k23 k24 k25 k26 k27 k28 k29 k30 k31 k32 k33 k34 k35 k36 k37 k38 k39 k40 k41 k42 k43 k44 k45 512 0 0 _ _ gm1 r0 (by omega) (by omega) (by omega) (by omega) (by omega)⟩
