/-! ===== spare ===== -/
def lessC (cp : Nat → Nat) (c : Nat) : Nat → Nat := fun x => if x = c then cp c - 1 else cp x
/-- the rings that could do with a copy less, among the first c cycles -/
def spB (v : NV) (r : Nat) (cp : Nat → Nat) : Nat → Nat
  | 0 => 0
  | c + 1 => if bt (nvMy v r) c = 1 ∧ bcN (nvMy v r) c ≤ 30 ∧ cp c ≠ 0 ∧ lacB v (lessC cp c) 1 (nvL v) = 0 then spB v r cp c ||| 2 ^ bcN (nvMy v r) c else spB v r cp c
theorem pow_lt31 {k : Nat} (h : k ≤ 30) : 2 ^ k < 2 ^ 31 := Nat.pow_lt_pow_right (by omega) (by omega)
theorem spB_lt (v : NV) (r : Nat) (cp : Nat → Nat) : ∀ c, spB v r cp c < 2 ^ 31
  | 0 => (by decide : 0 < 2 ^ 31)
  | c + 1 => by
    have ih := spB_lt v r cp c
    unfold spB
    by_cases q : bt (nvMy v r) c = 1 ∧ bcN (nvMy v r) c ≤ 30 ∧ cp c ≠ 0 ∧ lacB v (lessC cp c) 1 (nvL v) = 0
    · rw [if_pos q]; exact Nat.or_lt_two_pow ih (pow_lt31 q.2.1)
    · rw [if_neg q]; exact ih
theorem spB_hi {v : NV} {r : Nat} {cp : Nat → Nat} {c : Nat} (h : 31 ≤ bcN (nvMy v r) c) : ∀ k, spB v r cp (c + k) = spB v r cp c
  | 0 => rfl
  | k + 1 => by
    have m := bcN_mono (nvMy v r) (show c ≤ c + k by omega)
    show (if bt (nvMy v r) (c + k) = 1 ∧ bcN (nvMy v r) (c + k) ≤ 30 ∧ cp (c + k) ≠ 0 ∧ lacB v (lessC cp (c + k)) 1 (nvL v) = 0 then spB v r cp (c + k) ||| 2 ^ bcN (nvMy v r) (c + k) else spB v r cp (c + k)) = _
    rw [if_neg (fun q => by omega)]
    exact spB_hi h k
theorem lessC_le {cp : Nat → Nat} {c x : Nat} (h : cp x ≤ 9) : lessC cp c x ≤ 9 := by
  unfold lessC
  by_cases q : x = c
  · rw [if_pos q, ← q]; omega
  · rw [if_neg q]; exact h
theorem spare_n {Q : Int32 → MH → Prop} {h : MH} {v : NV} {s : AS} {a : Nat} (hl : LX h) (ca : hR h 128 1 = some a) (p : NetV h a v) (ok : AsOK v s) (ps : StV h 146 (encS s)) (hq : ∀ g, Fr ST3 h g → hI g 198 = hI h 198 → Q (nI (spB v (asR s) (asC s) (nvC v))) g) : ∀ n c g, c + n = nvC v → Fr ST3 h g → hI g 198 = hI h 198 → StV g 153 (encS s) → bcN (asM v s) c ≤ 31 → wX9_spare_57 Q (min (bcN (asM v s) (nvC v)) 31 - bcN (asM v s) c + 1) 128 153 (nI (spB v (asR s) (asC s) c)) (nI (min (bcN (asM v s) (nvC v)) 31)) (nI (bcN (asM v s) c)) g := by
  have h4 := p.1.1
  have hC := bcN_le (asM v s) (nvC v)
  intro n
  induction n with
  | zero =>
    intro c g hn f hz psg hc31
    have hn : c = nvC v := by omega
    subst hn
    rw [show min (bcN (asM v s) (nvC v)) 31 = bcN (asM v s) (nvC v) from Nat.min_eq_left hc31, Nat.sub_self]
    unfold wX9_spare_57
    exact ⟨fun _ => hq g f hz, fun z => absurd (nI_le (Nat.le_refl _) (by omega)) z⟩
  | succ n ih =>
    intro c g hn f hz psg hc31
    have e1 : bcN (asM v s) (c + 1) = bcN (asM v s) c + bt (asM v s) c := rfl
    have e2 : spB v (asR s) (asC s) (c + 1) = if bt (asM v s) c = 1 ∧ bcN (asM v s) c ≤ 30 ∧ asC s c ≠ 0 ∧ lacB v (lessC (asC s) c) 1 (nvL v) = 0 then spB v (asR s) (asC s) c ||| 2 ^ bcN (asM v s) c else spB v (asR s) (asC s) c := rfl
    rcases bt01 (asM v s) c with b | b
    · have g1 := ih (c + 1) g (by omega) f hz psg (by omega)
      rw [e1, b, e2, if_neg (fun q => by omega)] at g1
      exact g1
    · have hlt := bcN_lt (show c < nvC v by omega) b
      by_cases q31 : bcN (asM v s) c = 31
      · have e3 := spB_hi (v := v) (r := asR s) (cp := asC s) (c := c) (show 31 ≤ bcN (nvMy v (asR s)) c from Nat.le_of_eq q31.symm) (nvC v - c)
        rw [show c + (nvC v - c) = nvC v from by omega] at e3
        rw [← e3, q31]
        rw [show min (bcN (asM v s) (nvC v)) 31 = 31 from by omega, Nat.sub_self]
        unfold wX9_spare_57
        exact ⟨fun _ => hq g f hz, fun z => absurd (nI_le (Nat.le_refl _) (by omega)) z⟩
      · have hlg := LX_Fr f hl
        have pg : NetV g a v := NetV_keep (NetEq_Fr (fun x q => by unfold ST3 at q; omega) f) p
        have cag : hR g 128 1 = some a := by rw [f.2.2.2.1]; exact ca
        have ps146 : StV g 146 (encS s) := StV_row (f.2.2.2.2 _ (by unfold ST3; omega)) (f.2.2.2.2 _ (by unfold ST3; omega)) (f.2.2.2.2 _ (by unfold ST3; omega)) ps
        have e0 : hI g 146 0 = nI (asR s) := ps146.1
        have hmin : bcN (asM v s) c < min (bcN (asM v s) (nvC v)) 31 := by omega
        have hc9 := (ok.2.2.1 c (by omega)).1
        have ec : hI g 154 c = nI (asC s c) := psg.2.2.1 c (by omega)
        have vp : vp_in (nI c) 40 := vp_in_nI (by omega) (by omega)
        have sl := spB_lt v (asR s) (asC s) c
        rw [show min (bcN (asM v s) (nvC v)) 31 - bcN (asM v s) c + 1 = (min (bcN (asM v s) (nvC v)) 31 - (bcN (asM v s) c + 1) + 1) + 1 from by omega]
        unfold wX9_spare_57
        rw [nI_add]
        refine ⟨fun z => absurd z (nI_ge hmin (by omega)), fun _ => ⟨S_128 hlg, a, cag, 146, R_128_2 hlg, S_146 hlg, pg.2.1, ?_⟩⟩
        rw [e0]
        refine n_cycleOf1 (c := c) pg ok.1 ⟨by omega, b, rfl⟩ ⟨fun z => absurd z (nI_pos (by omega)), fun _ => ⟨S_153 hlg, 154, R_153_2 hlg, 40, S_154 hlg, vp, ?_⟩⟩
        rw [nI_clamp (by omega), ec, nI_le0 (by omega)]
        refine ⟨fun z => ?_, fun z => ⟨vp, vp, fun g2 eg2 => ?_⟩⟩
        · have g1 := ih (c + 1) g (by omega) f hz psg (by omega)
          rw [e1, b, e2, if_neg (fun q => q.2.2.1 z)] at g1
          exact g1
        · rw [nI_subN (by omega)] at eg2
          have f2 : Fr ST3 g g2 := by rw [eg2]; exact Fr_sI (Or.inl (by omega))
          have hl2 := LX_Fr f2 hlg
          have ps2 : StV g2 153 (encS (asR s, asF s, lessC (asC s) c, asW s)) := by rw [eg2]; exact StV_copies psg (fun u _ => rfl)
          have pg2 : NetV g2 a v := NetV_keep (NetEq_Fr (fun x q => by unfold ST3 at q; omega) f2) pg
          refine ⟨S_128 hl2, a, by rw [f2.2.2.2.1]; exact cag, pg2.2.1, n_lacking hl2 pg2 (by decide) ps2 (fun x hx => lessC_le (cp9 p.1 ok x hx)) (by omega) (by omega) ?_⟩
          refine ⟨S_153 hl2, 154, R_153_2 hl2, 40, S_154 hl2, vp, vp, fun g3 eg3 => ?_⟩
          have ll := lt_of_pow (lacB_lt v (lessC (asC s) c) 1 (nvL v)) (by omega)
          have ec2 : hI g2 154 c = nI (asC s c - 1) := by rw [eg2, hI_sI, if_pos ⟨rfl, rfl⟩]
          rw [nI_clamp (by omega), ec2, nI_add, show asC s c - 1 + 1 = asC s c from by omega] at eg3
          have f3 : Fr ST3 g2 g3 := by rw [eg3]; exact Fr_sI (Or.inl (by omega))
          have ps3 : StV g3 153 (encS s) := by
            have q1 := StV_copies (c := c) (n := asC s c) (W := asW s) ps2 (fun u _ => rfl)
            have e4 : (fun x => if x = c then asC s c else lessC (asC s) c x) = asC s := by
              funext x
              by_cases q : x = c
              · rw [if_pos q, q]
              · rw [if_neg q]; exact if_neg q
            have e5 : ((asR s, asF s, (fun x => if x = c then asC s c else lessC (asC s) c x), asW s) : AS) = s := by rw [e4]; rfl
            rw [eg3]
            rw [show ((asR (asR s, asF s, lessC (asC s) c, asW s), asF (asR s, asF s, lessC (asC s) c, asW s), (fun x => if x = c then asC s c else asC (asR s, asF s, lessC (asC s) c, asW s) x), asW s) : AS) = s from e5] at q1
            exact q1
          have z3 : hI g3 198 = hI h 198 := by rw [eg3, hI_sI_row (by omega), eg2, hI_sI_row (by omega)]; exact hz
          have g1 := ih (c + 1) g3 (by omega) (Fr_trans f (Fr_trans f2 f3)) z3 ps3 (by omega)
          rw [e1, b, e2] at g1
          have b30 : bcN (asM v s) c ≤ 30 := by omega
          rw [nI_add, show asC (asR s, asF s, lessC (asC s) c, asW s) = lessC (asC s) c from rfl]
          by_cases q : lacB v (lessC (asC s) c) 1 (nvL v) = 0
          · rw [if_pos ⟨b, b30, z, q⟩] at g1
            rw [if_pos ((nI_eq0 (by omega)).mpr q), nI_shl _ (by omega), nI_or sl (pow_lt31 b30)]
            exact g1
          · rw [if_neg (fun y => q y.2.2.2)] at g1
            rw [if_neg (fun y => q ((nI_eq0 (by omega)).mp y)), nI_or sl (by omega), Nat.or_zero]
            exact g1
theorem spare_m {Q : Int32 → MH → Prop} {h : MH} {d : DV} (hl : LX h) (hv : NvOK (dN d)) (ok : AsOK (dN d) (dS d)) (hq : ∀ g, FrM h g → MP g d → Q (nI (spB (dN d) (asR (dS d)) (asC (dS d)) (nvC (dN d)))) g) : ∀ n c g, c + n = nvC (dN d) → FrM h g → MP g d → bcN (asM (dN d) (dS d)) c ≤ 31 → wX10_spare_18 Q (bcN (asM (dN d) (dS d)) (nvC (dN d)) - bcN (asM (dN d) (dS d)) c + 1) 223 (nI (spB (dN d) (asR (dS d)) (asC (dS d)) c)) (nI (bcN (asM (dN d) (dS d)) c)) g := by
  have h4 := hv.1
  have hC := bcN_le (asM (dN d) (dS d)) (nvC (dN d))
  intro n
  induction n with
  | zero =>
    intro c g hn f m hc31
    have hn : c = nvC (dN d) := by omega
    subst hn
    have hlg := LX_Fr f.1 hl
    have p1 : hI g 223 23 = nI (bcN (asM (dN d) (dS d)) (nvC (dN d))) := m.2.2.1.1
    rw [Nat.sub_self]
    unfold wX10_spare_18
    rw [p1]
    exact ⟨S_223 hlg, fun _ => hq g f m, fun z => absurd (nI_le (Nat.le_refl _) (by omega)) z⟩
  | succ n ih =>
    intro c g hn f m hc31
    have hlg := LX_Fr f.1 hl
    have p1 : hI g 223 23 = nI (bcN (asM (dN d) (dS d)) (nvC (dN d))) := m.2.2.1.1
    have e1 : bcN (asM (dN d) (dS d)) (c + 1) = bcN (asM (dN d) (dS d)) c + bt (asM (dN d) (dS d)) c := rfl
    have e2 : spB (dN d) (asR (dS d)) (asC (dS d)) (c + 1) = if bt (asM (dN d) (dS d)) c = 1 ∧ bcN (asM (dN d) (dS d)) c ≤ 30 ∧ asC (dS d) c ≠ 0 ∧ lacB (dN d) (lessC (asC (dS d)) c) 1 (nvL (dN d)) = 0 then spB (dN d) (asR (dS d)) (asC (dS d)) c ||| 2 ^ bcN (asM (dN d) (dS d)) c else spB (dN d) (asR (dS d)) (asC (dS d)) c := rfl
    rcases bt01 (asM (dN d) (dS d)) c with b | b
    · have g1 := ih (c + 1) g (by omega) f m (by omega)
      rw [e1, b, e2, if_neg (fun q => by omega)] at g1
      exact g1
    · have hlt := bcN_lt (show c < nvC (dN d) by omega) b
      have hlt2 := bcN_le (asM (dN d) (dS d)) c
      have hc9 := (ok.2.2.1 c (by omega)).1
      have sl := spB_lt (dN d) (asR (dS d)) (asC (dS d)) c
      have es : hI g 224 (49 + bcN (asM (dN d) (dS d)) c) = nI (asC (dS d) c) := m.2.2.2.1.1 c (by omega) b
      rw [show bcN (asM (dN d) (dS d)) (nvC (dN d)) - bcN (asM (dN d) (dS d)) c + 1 = (bcN (asM (dN d) (dS d)) (nvC (dN d)) - (bcN (asM (dN d) (dS d)) c + 1) + 1) + 1 from by omega]
      unfold wX10_spare_18
      rw [p1]
      refine ⟨S_223 hlg, fun z => absurd z (nI_ge hlt (by omega)), fun _ => ⟨fun z => ?_, fun z => ⟨224, R_223_1 hlg, 7011, S_224 hlg, ?_⟩⟩⟩
      · have q31 : 31 ≤ bcN (asM (dN d) (dS d)) c := by
          rw [Int32.lt_iff_toInt_lt, nI_toInt (by omega), nI_toInt (by omega)] at z
          omega
        have e3 := spB_hi (v := dN d) (r := asR (dS d)) (cp := asC (dS d)) (c := c) q31 (nvC (dN d) - c)
        rw [show c + (nvC (dN d) - c) = nvC (dN d) from by omega] at e3
        rw [← e3]
        exact hq g f m
      · have b30 : bcN (asM (dN d) (dS d)) c ≤ 30 := by
          apply Classical.byContradiction
          intro q
          exact z (nI_lt (by omega) (by omega))
        have vp : vp_in (nI (49 + bcN (asM (dN d) (dS d)) c)) 7011 := vp_in_nI (by omega) (by omega)
        rw [nI_add 49, nI_clamp (by omega), es, nI_eq0 (by omega), nI_add (bcN (asM (dN d) (dS d)) c) 1]
        refine ⟨vp, fun z2 => ⟨vp, vp, fun g2 eg2 => ?_⟩, fun z2 => ?_⟩
        · rw [nI_subN (by omega)] at eg2
          have f2 : Fr (fun x => x = 224) g g2 := by rw [eg2]; exact Fr_sI rfl
          have hl2 := LX_Fr f2 hlg
          have rg2 : RgV g2 (dN d) (asR (dS d)) := RgV_row (Fr_I f2 (by omega) _) (f2.2.2.2.2 _ (by omega)) (f2.2.2.2.2 _ (by omega)) (f2.2.2.2.2 _ (by omega)) (f2.2.2.2.2 _ (by omega)) m.2.2.1
          have r2 : ∀ k, k ≠ 49 + bcN (asM (dN d) (dS d)) c → hI g2 224 k = hI g 224 k := fun k hk => by rw [eg2, hI_sI, if_neg (fun q => hk q.2)]
          have pn2 : MNet (hI g2 224) (dN d) := MNet_cong (fun k hk => r2 k (by omega)) m.1 m.2.1
          have cm2 : CpM g2 (dN d) (asR (dS d)) (lessC (asC (dS d)) c) := by
            refine ⟨fun x hx hbx => ?_, fun x hx hbx => ?_⟩
            · by_cases q : x = c
              · rw [q, eg2, hI_sI, if_pos ⟨rfl, rfl⟩]
                unfold lessC
                rw [if_pos rfl]
              · rw [r2 _ (fun y => q (ring_inj (m := asM (dN d) (dS d)) hbx b (by have : 49 + bcN (asM (dN d) (dS d)) x = 49 + bcN (asM (dN d) (dS d)) c := y; omega)))]
                unfold lessC
                rw [if_neg q]
                exact m.2.2.2.1.1 x hx hbx
            · have z0 := (ok.2.2.1 x (by omega)).2 hbx
              unfold lessC
              by_cases q : x = c
              · rw [if_pos q, ← q, z0]
              · rw [if_neg q, z0]
          refine m_lackNow hl2 hv pn2 rg2 cm2 (fun x hx => lessC_le (cp9 hv ok x hx)) (fun g3 f3 _ => ?_)
          have hl3 := LX_Fr f3 hl2
          have lk := lakN_lt (v := dN d) (f := lkC (dN d) (lessC (asC (dS d)) c)) (fun l hl => by have := hv.2.1 l hl; unfold lkC; omega) 10
          refine ⟨S_223 hl3, 224, R_223_1 hl3, 7011, S_224 hl3, ?_⟩
          have ec3 : hI g3 224 (49 + bcN (asM (dN d) (dS d)) c) = nI (asC (dS d) c - 1) := by rw [Fr_I f3 (by omega), eg2, hI_sI, if_pos ⟨rfl, rfl⟩]
          rw [nI_add 49, nI_clamp (by omega), ec3, nI_add, show asC (dS d) c - 1 + 1 = asC (dS d) c from by omega]
          refine ⟨vp, vp, fun g4 eg4 => ?_⟩
          have f4 : FrM g g4 := FrM_trans (FrM_Fr (fun b q => ⟨by unfold SM; omega, by omega⟩) f2) (FrM_trans (FrM_238 f3) (by rw [eg4]; exact FrM_sI (Or.inr (Or.inl rfl)) (fun q => absurd q (by omega))))
          have oth : ∀ x, x ≠ 224 → x ≠ 238 → hI g4 x = hI g x := fun x q1 q2 => by rw [eg4, hI_sI_row q1, f3.2.2.2.2 x q2, f2.2.2.2.2 x q1]
          have e224 : hI g4 224 = hI g 224 := by
            funext k
            rw [eg4, hI_sI]
            by_cases q : k = 49 + bcN (asM (dN d) (dS d)) c
            · rw [if_pos ⟨rfl, q⟩, q, es]
            · rw [if_neg (fun y => q y.2), Fr_I f3 (by omega), r2 k q]
          have m4 : MP g4 d := MP_cong (by rw [oth 223 (by omega) (by omega)]) e224 (oth 225 (by omega) (by omega)) (fun x x1 x2 => oth x (by omega) (by omega)) m
          have g1 := ih (c + 1) g4 (by omega) (FrM_trans f f4) m4 (by omega)
          rw [e1, b, e2] at g1
          rw [nI_add]
          have lz : (lakN (dN d) (lkC (dN d) (lessC (asC (dS d)) c)) 10 = 0) ↔ lacB (dN d) (lessC (asC (dS d)) c) 1 (nvL (dN d)) = 0 := (lakN_zero 10 (by omega)).trans lacB_zero.symm
          by_cases q : lacB (dN d) (lessC (asC (dS d)) c) 1 (nvL (dN d)) = 0
          · rw [if_pos ⟨b, b30, z2, q⟩] at g1
            rw [if_pos ((nI_eq0 (by omega)).mpr (lz.mpr q)), nI_shl _ (by omega), nI_or sl (pow_lt31 b30)]
            exact g1
          · rw [if_neg (fun y => q y.2.2.2)] at g1
            rw [if_neg (fun y => q (lz.mp ((nI_eq0 (by omega)).mp y))), nI_or sl (by omega), Nat.or_zero]
            exact g1
        · have g1 := ih (c + 1) g (by omega) f m (by omega)
          rw [e1, b, e2, if_neg (fun q => q.2.2.1 z2)] at g1
          exact g1
theorem ST_spare_c {CV : MH → Prop} (ck : ∀ h h1, CvEq h h1 → CV h → CV h1) : ST_spare (RLY (RRc CV)) := by
  intro h hr P kP
  obtain ⟨hl, t1, t2, d, ok, c, m⟩ := hr
  obtain ⟨⟨a, ca, cn⟩, cs, _, _, cb, _⟩ := id c
  have h4 := cn.1.1
  have ll := lt_of_pow (lacB_lt (dN d) (asC (dS d)) 1 (nvL (dN d))) (by omega)
  have lk := lakN_lt (v := dN d) (f := lkC (dN d) (asC (dS d))) (fun l hl => by have := cn.1.2.1 l hl; unfold lkC; omega) 10
  have lz : (lakN (dN d) (lkC (dN d) (asC (dS d))) 10 = 0) ↔ lacB (dN d) (asC (dS d)) 1 (nvL (dN d)) = 0 := (lakN_zero 10 (by omega)).trans lacB_zero.symm
  refine ⟨S_128 hl, a, ca, 146, R_128_2 hl, cn.2.1, n_lacking hl cn (by decide) cs (cp9 cn.1 ok.1) (by omega) (by omega) ?_⟩
  rw [nI_eq0 (by omega)]
  refine ⟨fun z => ?_, fun z => kP _ _ (S_223 hl) (fun P2 k2 => ⟨S_223 hl, fun _ e => ?_⟩)⟩
  · have f1 : Fr ST3 h (cpS h 153 146) := Fr_mono (fun x q => by unfold ST3; omega) Fr_cpS
    have hl1 := LX_Fr f1 hl
    have bR := bcN_le (nvMy (dN d) (asR (dS d))) (nvC (dN d))
    have cn1 : NetV (cpS h 153 146) a (dN d) := NetV_keep (NetEq_Fr (fun x q => by unfold ST3 at q; omega) f1) cn
    refine ⟨S_128 hl, 152, R_128_4 hl, 4, S_152 hl, vp_in_nI (by omega) (by omega), 153, R_152_0 hl, 146, R_128_2 hl, S_153 hl, u_copyFrom hl (by decide) (by decide) (by omega) ⟨S_128 hl1, a, by rw [f1.2.2.2.1]; exact ca, 146, R_128_2 hl1, S_146 hl1, cn1.2.1, ?_⟩⟩
    rw [show hI (cpS h 153 146) 146 0 = nI (asR (dS d)) from by rw [cpS_row (by omega)]; exact cs.1]
    refine n_ringCount cn1 ok.1.1 ⟨min (bcN (asM (dN d) (dS d)) (nvC (dN d))) 31 - bcN (asM (dN d) (dS d)) 0 + 1, ?_⟩
    have emin : (if nI 31 < nI (bcN (nvMy (dN d) (asR (dS d))) (nvC (dN d))) then nI 31 else nI (bcN (nvMy (dN d) (asR (dS d))) (nvC (dN d)))) = nI (min (bcN (asM (dN d) (dS d)) (nvC (dN d))) 31) := by
      by_cases q : 31 < bcN (nvMy (dN d) (asR (dS d))) (nvC (dN d))
      · rw [if_pos (nI_lt q (by omega)), show min (bcN (asM (dN d) (dS d)) (nvC (dN d))) 31 = 31 from Nat.min_eq_right (Nat.le_of_lt q)]
      · rw [if_neg (nI_nlt (by omega) (by omega)), show min (bcN (asM (dN d) (dS d)) (nvC (dN d))) 31 = bcN (nvMy (dN d) (asR (dS d))) (nvC (dN d)) from Nat.min_eq_left (by show bcN (nvMy (dN d) (asR (dS d))) (nvC (dN d)) ≤ 31; omega)]
    rw [emin]
    refine spare_n hl ca cn ok.1 cs (fun g f hz => kP _ _ (S_223 (LX_Fr f hl)) (fun P2 k2 => ⟨S_223 (LX_Fr f hl), fun _ e => ?_⟩)) (nvC (dN d)) 0 _ (by omega) f1 (cpS_row (by omega)) (cpS_new cs) (Nat.zero_le _)
    subst e
    have mg := MP_thrown (x := nI 0) (MP_SC (SC_ST3 f) m)
    have hlg : LX (sI g 223 0 (nI 0)) := LX_sI (LX_Fr f hl)
    refine m_lackNow hlg cn.1 mg.2.1 mg.2.2.1 (CpM_of (by omega) ok.1 mg.2.2.2.1) (cp9 cn.1 ok.1) (fun g2 f2 _ => ?_)
    rw [nI_le0 (by omega)]
    refine ⟨fun _ => ⟨_, spare_m (LX_Fr f2 hlg) cn.1 ok.1 (fun g3 f3 m3 => k2 _ (st_close ck hl ⟨t1, t2⟩ (SC_ST3 f) (CP_trial ck f (fun k hk => by rw [hz]; exact cb k hk) c) (FrM_trans (FrM_thrown g (nI 0)) (FrM_trans (FrM_238 f2) f3)) m3 ok)) (nvC (dN d)) 0 _ (by omega) (FrM_rfl _) (MP_238 f2 mg) (Nat.zero_le _)⟩, fun y => absurd (lz.mpr z) y⟩
  · subst e
    have m2 := MP_thrown (x := nI 0) m
    have hl2 : LX (sI h 223 0 (nI 0)) := LX_sI hl
    refine m_lackNow hl2 cn.1 m2.2.1 m2.2.2.1 (CpM_of (by omega) ok.1 m2.2.2.2.1) (cp9 cn.1 ok.1) (fun g f pw => ?_)
    rw [nI_le0 (by omega)]
    exact ⟨fun y => absurd (lz.mp y) z, fun _ => k2 _ (st_close ck hl ⟨t1, t2⟩ (Fr_rfl _ _) c (FrM_trans (FrM_thrown h (nI 0)) (FrM_238 f)) (MP_238 f m2) ok)⟩
