/-! ===== lots: the class's sums ===== -/
def unF (v : NV) (s : AS) (l : Nat) : Prop := l < nvL v ∧ bt (asF s) l = 0
noncomputable def lotS (v : NV) (s : AS) (l : Nat) : AS := @ite _ (unF v s l) (Classical.propDecidable _) (dFail v s l) s
noncomputable def lotV (v : NV) (val : AS → Nat) : Nat → AS → Nat
  | 0, s => val s
  | n + 1, s => sumC (fun l => lotV v val n (lotS v s l)) 10
theorem lotS_y {v : NV} {s : AS} {l : Nat} (h : unF v s l) : lotS v s l = dFail v s l := @if_pos _ (Classical.propDecidable _) h _ _ _
theorem lotS_n {v : NV} {s : AS} {l : Nat} (h : ¬ unF v s l) : lotS v s l = s := @if_neg _ (Classical.propDecidable _) h _ _ _
theorem AsOK_lotS {v : NV} {s : AS} (hv : NvOK v) (ok : AsOK v s) (l : Nat) : AsOK v (lotS v s l) := by
  by_cases h : unF v s l
  · rw [lotS_y h]; exact AsOK_tryS hv (AsOK_clF hv ok h.1)
  · rw [lotS_n h]; exact ok
/-- sum and count over the links that have not failed, among the first n -/
noncomputable def suU (v : NV) (val : AS → Nat) (n : Nat) (s : AS) : Nat → Nat := sumC (fun l => @ite _ (unF v s l) (Classical.propDecidable _) (lotV v val n (dFail v s l)) 0)
noncomputable def cnU (v : NV) (s : AS) : Nat → Nat := sumC (fun l => @ite _ (unF v s l) (Classical.propDecidable _) 1 0)
theorem suU_y {v : NV} {val : AS → Nat} {n : Nat} {s : AS} {l : Nat} (h : unF v s l) : suU v val n s (l + 1) = suU v val n s l + lotV v val n (dFail v s l) ∧ cnU v s (l + 1) = cnU v s l + 1 :=
  ⟨congrArg (suU v val n s l + ·) (@if_pos _ (Classical.propDecidable _) h _ _ _), congrArg (cnU v s l + ·) (@if_pos _ (Classical.propDecidable _) h _ _ _)⟩
theorem suU_n {v : NV} {val : AS → Nat} {n : Nat} {s : AS} {l : Nat} (h : ¬ unF v s l) : suU v val n s (l + 1) = suU v val n s l ∧ cnU v s (l + 1) = cnU v s l :=
  ⟨congrArg (suU v val n s l + ·) (@if_neg _ (Classical.propDecidable _) h _ _ _), congrArg (cnU v s l + ·) (@if_neg _ (Classical.propDecidable _) h _ _ _)⟩
theorem lot_split {v : NV} {val : AS → Nat} {n : Nat} {s : AS} : ∀ k, cnU v s k ≤ k ∧ sumC (fun l => lotV v val n (lotS v s l)) k = suU v val n s k + (k - cnU v s k) * lotV v val n s
  | 0 => ⟨Nat.le_refl _, (by show 0 = 0 + (0 - 0) * lotV v val n s; rw [Nat.zero_mul])⟩
  | k + 1 => by
    obtain ⟨i1, i2⟩ := lot_split (v := v) (val := val) (n := n) (s := s) k
    have e : sumC (fun l => lotV v val n (lotS v s l)) (k + 1) = sumC (fun l => lotV v val n (lotS v s l)) k + lotV v val n (lotS v s k) := rfl
    by_cases h : unF v s k
    · obtain ⟨a, b⟩ := suU_y (val := val) (n := n) h
      rw [e, i2, a, b, lotS_y h, show k + 1 - (cnU v s k + 1) = k - cnU v s k from by omega]
      exact ⟨by omega, by omega⟩
    · obtain ⟨a, b⟩ := suU_n (val := val) (n := n) h
      rw [e, i2, a, b, lotS_n h, show k + 1 - cnU v s k = (k - cnU v s k) + 1 from by omega, Nat.succ_mul]
      exact ⟨by omega, by omega⟩
theorem un_hi {v : NV} {val : AS → Nat} {n : Nat} {s : AS} : ∀ k, suU v val n s (nvL v + k) = suU v val n s (nvL v) ∧ cnU v s (nvL v + k) = cnU v s (nvL v)
  | 0 => ⟨rfl, rfl⟩
  | k + 1 => by
    have ih := un_hi (v := v) (val := val) (n := n) (s := s) k
    have q := suU_n (v := v) (val := val) (n := n) (s := s) (l := nvL v + k) (fun h => by have := h.1; omega)
    exact ⟨q.1.trans ih.1, q.2.trans ih.2⟩
theorem lot_all {v : NV} {val : AS → Nat} {n : Nat} {s : AS} (hv : nvL v ≤ 10) : lotV v val (n + 1) s = suU v val n s (nvL v) + (10 - cnU v s (nvL v)) * lotV v val n s := by
  have h1 := (lot_split (v := v) (val := val) (n := n) (s := s) 10).2
  have h2 := un_hi (v := v) (val := val) (n := n) (s := s) (10 - nvL v)
  rw [show nvL v + (10 - nvL v) = 10 from by omega] at h2
  rw [h2.1, h2.2] at h1
  exact h1
noncomputable def valC (v : NV) (u : Nat) (s : AS) : Nat := if u = 0 then (if lostA v s = 0 then 1 else 0) else lostA v s
theorem tri_R {h : MH} {k : Nat} (hl : LX h) (hk : k < 4) : hR h 152 k = some (153 + 3 * k) ∧ 153 + 3 * k ∈ stL := by
  have t1 : ∀ k, k < 4 → (152, k, 153 + 3 * k) ∈ tabR ∧ 153 + 3 * k ∈ stL := by decide +kernel
  exact ⟨hl.2.2 _ (t1 k hk).1, (t1 k hk).2⟩
def SL (n x : Nat) : Prop := (156 ≤ x ∧ x < 156 + 3 * n) ∨ x = 198
theorem NetV_SL {h g : MH} {a n : Nat} {v : NV} (hn : n ≤ 3) (f : Fr (SL n) h g) (p : NetV h a v) : NetV g a v := NetV_keep (NetEq_Fr (fun x q => by unfold SL at q; omega) f) p
theorem n_sumLots {v : NV} {a u : Nat} (hu : u < 2) : ∀ n d b s h (Q : Int32 → MH → Prop), 4 + n ≤ d → n ≤ 3 → LX h → hR h 128 1 = some a → NetV h a v → AsOK v s → b ∈ stL → StV h b (encS s) → (∀ k, k < 360 → hI h 198 k = 0) → (b + 2 < 156 ∨ 156 + 3 * n ≤ b) → b < 165 → (∀ g, Fr (SL n) h g → (∀ k, k < 360 → hI g 198 k = 0) → Q (nI (lotV v (valC v u) n s)) g) → Cm MX9_sumOverLots d 0 0 [.ref 128, .ref b, .int (nI n), .int (nI u)] h (pI Q) := by
  intro n
  induction n with
  | zero =>
    intro d b s h Q hd hn hl ca p ok hb ps hz hb2 hb3 hq
    have le := lost_le p.1 s
    refine gX9_sumOverLots (PX9_sumOverLots := fun _ _ _ _ _ _ => False) (d2 := 0) (by omega) (by omega) (fun _ _ _ _ _ _ q => q.elim) _ _ _ _ h Q ⟨fun _ => ⟨S_128 hl, 197, R_128_6 hl, a, ca, S_197 hl, n_lostUnits hl p ok hb ps ?_⟩, fun z => absurd (by decide) z⟩
    have e : (if nI u = 0 then (if nI (lostA v s) = 0 then nI 1 else nI 0) else nI (lostA v s)) = nI (lotV v (valC v u) 0 s) := by
      show _ = nI (valC v u s)
      unfold valC
      by_cases q : u = 0
      · rw [if_pos q, q, if_pos nI_0]
        by_cases q2 : lostA v s = 0
        · rw [if_pos q2, if_pos ((nI_eq0 (by omega)).mpr q2)]
        · rw [if_neg q2, if_neg (fun y => q2 ((nI_eq0 (by omega)).mp y))]
      · rw [if_neg q, if_neg (fun y => q ((nI_eq0 (by omega)).mp y))]
    rw [e]
    exact hq h (Fr_rfl _ _) hz
  | succ n ih =>
    intro d b s h Q hd hn hl ca p ok hb ps hz hb2 hb3 hq
    have h4 := p.1.1
    refine gX9_sumOverLots (PX9_sumOverLots := fun y0 y1 y2 y3 h Q => Cm MX9_sumOverLots (d - 1) 0 0 [.ref y0, .ref y1, .int y2, .int y3] h (pI Q)) (d2 := d - 1) (by omega) (by omega) (fun _ _ _ _ _ _ q => q) _ _ _ _ h Q ⟨fun z => absurd ((nI_le0 (by omega)).mp z) (by omega), fun _ => ⟨S_128 hl, 152, R_128_4 hl, 4, S_152 hl, fun _ => ⟨nvL v + 1, ?_⟩, fun z => absurd (nI_lt (by omega) (by omega)) z⟩⟩
    have sub : nI (n + 1) - nI 1 = nI n := by rw [nI_subN (by omega), Nat.add_sub_cancel]
    have keep : ∀ g, Fr (SL (n + 1)) h g → StV g b (encS s) := fun g f => StV_row (f.2.2.2.2 _ (by unfold SL; omega)) (f.2.2.2.2 _ (by unfold SL; have := stL_198 b hb; omega)) (f.2.2.2.2 _ (by unfold SL; have := stL_198 b hb; omega)) ps
    have up : ∀ {g g2 : MH}, Fr (SL n) g g2 → Fr (SL (n + 1)) g g2 := fun f => Fr_mono (fun x q => by unfold SL at q ⊢; omega) f
    have lp : ∀ m l g, l + m = nvL v → Fr (SL (n + 1)) h g → (∀ k, k < 360 → hI g 198 k = 0) → wX9_sumOverLots_57 Q (fun y0 y1 y2 y3 h Q => Cm MX9_sumOverLots (d - 1) 0 0 [.ref y0, .ref y1, .int y2, .int y3] h (pI Q)) (m + 1) 128 b (nI (n + 1)) (nI u) (nI (10 - cnU v s l)) (nI (suU v (valC v u) n s l)) (nI l) g := by
      intro m
      induction m with
      | zero =>
        intro l g hm f hzg
        have hm : l = nvL v := by omega
        subst hm
        have hlg := LX_Fr f hl
        have pg := NetV_SL hn f p
        have cag : hR g 128 1 = some a := by rw [f.2.2.2.1]; exact ca
        have cl := (lot_split (v := v) (val := valC v u) (n := n) (s := s) (nvL v)).1
        unfold wX9_sumOverLots_57
        rw [sub]
        refine ⟨S_128 hlg, a, cag, pg.2.1, ?_⟩
        rw [pg.2.2.2.2.2.1]
        refine ⟨fun _ => ?_, fun z => absurd (nI_le (Nat.le_refl _) (by omega)) z⟩
        rw [nI_eq0 (by omega)]
        have tot := lot_all (v := v) (val := valC v u) (n := n) (s := s) (by omega)
        refine ⟨fun z => ih (d - 1) b s g _ (by omega) (by omega) hlg cag pg ok hb (keep g f) hzg (by omega) hb3 (fun g2 f2 hz2 => ?_), fun z => ?_⟩
        · rw [nI_mul, nI_add, ← tot]
          exact hq g2 (Fr_trans f (up f2)) hz2
        · rw [z, Nat.zero_mul] at tot
          have tot2 := tot.trans (Nat.add_zero _)
          rw [← tot2]
          exact hq g f hzg
      | succ m im =>
        intro l g hm f hzg
        have hlg := LX_Fr f hl
        have pg := NetV_SL hn f p
        have cag : hR g 128 1 = some a := by rw [f.2.2.2.1]; exact ca
        have psg := keep g f
        have bl := bt_lt (asF s) l
        have cl := (lot_split (v := v) (val := valC v u) (n := n) (s := s) l).1
        unfold wX9_sumOverLots_57
        rw [sub]
        refine ⟨S_128 hlg, a, cag, pg.2.1, ?_⟩
        rw [pg.2.2.2.2.2.1, nI_add]
        refine ⟨fun z => absurd z (nI_ge (by omega) (by omega)), fun _ => ⟨(st_S hlg hb).1, n_failed hlg ok (by omega) hb psg (by omega) ?_⟩⟩
        rw [nI_eq0 (by omega)]
        refine ⟨fun z => ?_, fun z => ?_⟩
        · obtain ⟨a1, a2⟩ := suU_n (v := v) (val := valC v u) (n := n) (s := s) (l := l) (fun y => z y.2)
          have g1 := im (l + 1) g (by omega) f hzg
          rw [a1, a2] at g1
          exact g1
        · have hun : unF v s l := ⟨by omega, z⟩
          obtain ⟨a1, a2⟩ := suU_y (v := v) (val := valC v u) (n := n) (s := s) (l := l) hun
          have tr := tri_R (k := n + 1) hlg (by omega)
          have te : 153 + 3 * (n + 1) = 156 + 3 * n := by omega
          rw [te] at tr
          have fc : Fr (SL (n + 1)) g (cpS g (156 + 3 * n) b) := Fr_mono (fun x q => by unfold SL; omega) Fr_cpS
          have hl1 := LX_Fr fc hlg
          have tr1 := tri_R (k := n + 1) hl1 (by omega)
          rw [te] at tr1
          have vp : vp_in (nI (n + 1)) 4 := vp_in_nI (by omega) (by omega)
          rw [nI_clamp (by omega)]
          refine ⟨S_128 hlg, 152, R_128_4 hlg, 4, S_152 hlg, vp, 156 + 3 * n, tr.1, (st_S hlg tr.2).1, u_copyFrom hlg tr.2 hb (by omega) ⟨S_128 hl1, 197, R_128_6 hl1, a, by rw [fc.2.2.2.1]; exact cag, 152, R_128_4 hl1, 4, S_152 hl1, vp, 156 + 3 * n, tr1.1, S_197 hl1, ?_⟩⟩
          have pg1 := NetV_SL hn fc pg
          refine n_failLink hl1 pg1 ok tr.2 (cpS_new psg) (fun k hk => by rw [cpS_row (by omega)]; exact hzg k hk) (fun q => absurd ⟨l, hun.1, rfl⟩ q) (fun l2 h2 e2 => ?_) (fun l2 h2 e2 g2 f2 ps2 hz2 => ?_)
          · have := h2.1
            rw [← (nI_eq (by omega) (by omega)).mp h2.2] at e2
            omega
          · have h21 := h2.1
            rw [← (nI_eq (by omega) (by omega)).mp h2.2] at ps2
            have fd : Fr (SL (n + 1)) (cpS g (156 + 3 * n) b) g2 := Fr_mono (fun x q => by unfold SD at q; unfold SL; omega) f2
            have fa := Fr_trans f (Fr_trans fc fd)
            have hl2 := LX_Fr fa hl
            have tr2 := tri_R (k := n + 1) hl2 (by omega)
            rw [te] at tr2
            refine ⟨S_128 hl2, 152, R_128_4 hl2, 4, S_152 hl2, vp, 156 + 3 * n, tr2.1, ih (d - 1) (156 + 3 * n) (dFail v s l) g2 _ (by omega) (by omega) hl2 (by rw [fa.2.2.2.1]; exact ca) (NetV_SL hn fa p) (AsOK_tryS p.1 (AsOK_clF p.1 ok hun.1)) tr.2 ps2 hz2 (by omega) (by omega) (fun g3 f3 hz3 => ?_)⟩
            have g1 := im (l + 1) g3 (by omega) (Fr_trans fa (up f3)) hz3
            rw [a1, a2] at g1
            rw [nI_add, show nI (10 - cnU v s l) = nI ((10 - (cnU v s l + 1)) + 1) from by rw [show 10 - (cnU v s l + 1) + 1 = 10 - cnU v s l from by omega], pk_m1]
            exact g1
    have g0 := lp (nvL v) 0 h (by omega) (Fr_rfl _ _) hz
    exact g0
