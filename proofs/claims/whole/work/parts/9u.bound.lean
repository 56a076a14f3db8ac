/-! Part 9u: the bound. -/
theorem CVA_le {lp : NV → Nat → Nat → Nat} {A B : Nat} {h : MH} (q : A ≤ B) (p : CVA lp A h) : CVA lp B h := by
  obtain ⟨k, rfl⟩ := Nat.le.dest q
  clear q
  induction k with
  | zero => exact p
  | succ k ih => exact CVA_up ih
theorem JB_le {lp : NV → Nat → Nat → Nat} {A B : Nat} {d : DV} {h : MH} (q : A ≤ B) (p : JB lp A d h) : JB lp B d h :=
  ⟨p.1, p.2.1, ⟨p.2.2.1.1, p.2.2.1.2.1, p.2.2.1.2.2.1, p.2.2.1.2.2.2.1, p.2.2.1.2.2.2.2.1, CVA_le q p.2.2.1.2.2.2.2.2⟩, p.2.2.2⟩
theorem JB_net {lp : NV → Nat → Nat → Nat} {B a : Nat} {d : DV} {g : MH} (j : JB lp B d g) (ca : hR g 128 1 = some a) : NetV g a (dN d) := by
  obtain ⟨a1, c1, cn⟩ := j.2.2.1.1
  rw [ca] at c1
  cases c1
  exact cn
theorem n_bdLoop {lp : NV → Nat → Nat → Nat} {Q : Int32 → MH → Prop} {d : DV} {a A2 : Nat} (hr : asR (dS d) < 10) (hA : A2 < 2 ^ 40) : ∀ n l x y g B, l + n = nvL (dN d) → JB lp B d g → hR g 128 1 = some a → B + n ≤ A2 → hL g 205 0 = lN x → hL g 205 1 = lN y → BdOK l x y → (bdF (dN d) (asR (dS d)) n l x y = none → ∀ g1, JB lp A2 d g1 → Q (nI 0) g1) → (∀ p, bdF (dN d) (asR (dS d)) n l x y = some p → ∀ g1, JB lp A2 d g1 → hL g1 205 0 = lN p.1 → hL g1 205 1 = lN p.2 → Q (nI 1) g1) → wX0_tellBound_9 Q (n + 1) 199 a (nI (asR (dS d))) 205 (nI l) g := by
  intro n
  induction n with
  | zero =>
    intro l x y g B hn j ca hB ex ey ok q0 q1
    have cn := JB_net j ca
    have h4 := cn.1.1
    unfold wX0_tellBound_9
    rw [cn.2.2.2.2.2.1]
    exact ⟨cn.2.1, fun _ => q1 (x, y) rfl g (JB_le hB j) ex ey, fun z => absurd (nI_le (by omega) (by omega)) z⟩
  | succ n ih =>
    intro l x y g B hn j ca hB ex ey ok q0 q1
    have cn := JB_net j ca
    have h4 := cn.1.1
    have hlL : l < nvL (dN d) := by omega
    obtain ⟨p, np⟩ := cn.2.2.2.2.2.2.2
    have hw := (cn.1.2.1 l hlL).2.2.2.2
    unfold wX0_tellBound_9
    rw [cn.2.2.2.2.2.1, nI_add]
    refine ⟨cn.2.1, fun z => absurd z (nI_ge hlL (by omega)), fun _ => ⟨p 7, (np.1 7 (by omega) (by omega) (by omega)).1, 10, np.2.1.2.2.2.1, vp_in_nI (by omega) (by omega), ?_⟩⟩
    rw [nI_clamp (by omega), (np.2.2.1 l hlL).2.2.2]
    unfold bdF at q0 q1
    by_cases w : nvW (dN d) l = 0
    · rw [if_pos w] at q0 q1
      exact ⟨fun _ => ih (l + 1) x y g B (by omega) j ca (by omega) ex ey (bd_up ok) q0 q1, fun z => absurd ((nI_le0 (by omega)).mpr w) z⟩
    · rw [if_neg w] at q0 q1
      refine ⟨fun z => absurd ((nI_le0 (by omega)).mp z) w, fun _ => ⟨S_199 j.1, ?_⟩⟩
      refine n_bestFor (lo := some l) j.1 j.2.2.1.2.2.2.2.2 (A := B) (by omega) cn hr (fun l2 z => by cases z; exact hlL) (fun g1 f cg ag ig cr => ?_)
      have j1 : JB lp (B + 1) d g1 := lk_at j.1 j.2.1.1 j.2.1.2 j.2.2.1 j.2.2.2 f cg
      have ca1 : hR g1 128 1 = some a := by rw [f.2.2.1 _ _ (by omega)]; exact ca
      have cn1 := JB_net j1 ca1
      cases o : bsN (dN d) (asR (dS d)) (some l) (nvC (dN d)) with
      | none =>
        rw [o] at q0
        exact ⟨fun z => absurd z (show ¬ (0 : Int32) ≤ (-1 : Int32) from by decide), fun _ => q0 rfl g1 (JB_le (by omega) j1)⟩
      | some b =>
        rw [o] at q0 q1
        dsimp only at q0 q1
        obtain ⟨hb, bb, hu⟩ := bsN_ok _ _ o
        have b1 := bcN_lt hb bb
        have b2 := bcN_le (nvMy (dN d) (asR (dS d))) (nvC (dN d))
        have pre := bd_pre cn.1 hr hlL hb hu ok
        have sm := bd_small (by omega) pre.2.1 pre.2.2
        have hp := pc_lt cn.1 (q := asR (dS d)) (c := b) hr
        have u2 := allU_20 cn.1 hb
        obtain ⟨p1, np1⟩ := cn1.2.2.2.2.2.2.2
        dsimp only [bsI]
        refine ⟨fun _ => ⟨cn1.2.1, p1 7, (np1.1 7 (by omega) (by omega) (by omega)).1, 10, np1.2.1.2.2.2.1, vp_in_nI (by omega) (by omega), S_199 j1.1, 202, R_199_5 j1.1, 40, S_202 j1.1, vp_in_nI (by omega) (by omega), ?_⟩, fun z => absurd (Int32.not_lt.mp (nI_nn (by omega))) z⟩
        refine n_cvUses j1.1 cn.1 cr hb bb ⟨S_205 j1.1, S_205 j1.1, ?_⟩
        rw [nI_clamp (by omega), (np1.2.2.1 l hlL).2.2.2, (cr.2.2 b hb bb).2.2, f.2.2.2.1 _ _ (by omega), f.2.2.2.1 _ _ (by omega), ex, ey, nI_lN (by omega), nI_lN (by omega), nI_lN (by omega), lN_mul, lN_mul, lN_mul, lN_mul, lN_add]
        refine n_begin1 (k := 60) (a := bdA (dN d) (asR (dS d)) l x y b) (b := bdE (dN d) y b) j1.1 sm.2 (by omega) pre.1 sm.1 (by omega) ?_
        refine ih (l + 1) _ _ _ (B + 1) (by omega) (JB_205 (JB_205 j1)) ca1 (by omega) ?_ ?_ (bd_red pre.1 pre.2.1 pre.2.2) q0 q1
        · rw [hL_sL, if_neg (by omega), hL_sL, if_pos ⟨rfl, rfl⟩]
        · rw [hL_sL, if_pos ⟨rfl, rfl⟩]
theorem m_bdLoop {Q : Int64 → MH → Prop} {d : DV} {g : MH} {x1 : Int32} (hl : LX g) (hv : NvOK (dN d)) (hr : asR (dS d) < 10) (m : MP g d) : ∀ n l x y, l + n = nvL (dN d) → BdOK l x y → (bdF (dN d) (asR (dS d)) n l x y = none → Q (-1 : Int64) g) → (∀ p, bdF (dN d) (asR (dS d)) n l x y = some p → Q (if x1 = 0 then lN p.1 else lN p.2) g) → wX10_bound_27 Q (n + 1) 223 x1 (lN x) (lN y) (nI l) g := by
  have h4 := hv.1
  intro n
  induction n with
  | zero =>
    intro l x y hn ok q0 q1
    unfold wX10_bound_27
    refine ⟨S_223 hl, 224, R_223_1 hl, 7011, S_224 hl, vp_in_nI (by omega) (by omega), ?_⟩
    rw [nI_clamp (by omega), m.2.1.2.2.1]
    exact ⟨fun _ => q1 (x, y) rfl, fun z => absurd (nI_le (by omega) (by omega)) z⟩
  | succ n ih =>
    intro l x y hn ok q0 q1
    have hlL : l < nvL (dN d) := by omega
    have hw := (hv.2.1 l hlL).2.2.2.2
    have ew := (m.2.1.2.2.2.1 l hlL).2.2.2
    unfold wX10_bound_27
    refine ⟨S_223 hl, 224, R_223_1 hl, 7011, S_224 hl, vp_in_nI (by omega) (by omega), ?_⟩
    rw [nI_clamp (by omega), m.2.1.2.2.1, nI_add, nI_add, nI_clamp (by omega), ew]
    refine ⟨fun z => absurd z (nI_ge hlL (by omega)), fun _ => ⟨vp_in_nI (by omega) (by omega), ?_⟩⟩
    unfold bdF at q0 q1
    by_cases w : nvW (dN d) l = 0
    · rw [if_pos w] at q0 q1
      exact ⟨fun z => absurd ((nI_eq0 (by omega)).mpr w) z, fun _ => ih (l + 1) x y (by omega) (bd_up ok) q0 q1⟩
    · rw [if_neg w] at q0 q1
      refine ⟨fun _ => ?_, fun z => absurd ((nI_eq0 (by omega)).mp z) w⟩
      refine m_cheapestFor (lo := some l) hl hv hr m.2.2.1 (fun l2 z => by cases z; exact hlL) ?_
      cases o : bsN (dN d) (asR (dS d)) (some l) (nvC (dN d)) with
      | none =>
        rw [o] at q0
        exact ⟨fun z => absurd rfl z, fun _ => q0 rfl⟩
      | some b =>
        rw [o] at q0 q1
        dsimp only at q0 q1
        obtain ⟨hb, bb, hu⟩ := bsN_ok _ _ o
        have b1 := bcN_lt hb bb
        have b2 := bcN_le (nvMy (dN d) (asR (dS d))) (nvC (dN d))
        have pre := bd_pre hv hr hlL hb hu ok
        have sm := bd_small (by omega) pre.2.1 pre.2.2
        have hp := pc_lt hv (q := asR (dS d)) (c := b) hr
        have u2 := allU_20 hv hb
        have g0 : 0 < Nat.gcd (bdA (dN d) (asR (dS d)) l x y b) (bdE (dN d) y b) := Nat.gcd_pos_of_pos_right _ pre.1
        have gl : Nat.gcd (bdA (dN d) (asR (dS d)) l x y b) (bdE (dN d) y b) ≤ bdE (dN d) y b := Nat.gcd_le_right _ pre.1
        dsimp only [bsI]
        refine ⟨fun _ => ⟨S_223 hl, m_usesOf hl hv m.2.2.1 hb bb ⟨S_223 hl, 224, R_223_1 hl, 7011, S_224 hl, vp_in_nI (by omega) (by omega), 233, R_223_21 hl, 64, S_233 hl, vp_in_nI (by omega) (by omega), fun v30 e30 => ?_⟩⟩, fun z => absurd z (nI_nm (by omega))⟩
        refine m_usesOf hl hv m.2.2.1 hb bb ?_
        rw [show bcN (nvOn (dN d) b) 10 + 2 * bcN (nvCh (dN d) b) 10 = allU (dN d) b from rfl] at e30 ⊢
        rw [nI_clamp (by omega), ew, (m.2.2.1.2 b hb bb).2.2.2, nI_lN (by omega), nI_lN (by omega), nI_lN (by omega), lN_mul, lN_mul, lN_mul, lN_add, show x * allU (dN d) b + y * nvW (dN d) l * nvPc (dN d) (asR (dS d)) b = bdA (dN d) (asR (dS d)) l x y b from by unfold bdA; rw [Nat.mul_assoc y, Nat.mul_comm y]] at e30
        rw [nI_lN (by omega), lN_mul, show y * allU (dN d) b = bdE (dN d) y b from rfl, e30]
        refine m_common (2 * 60 + 1) 300 _ _ (by omega) sm.2 (by omega) (eu_steps 60 _ _ sm.1) ⟨lN_ne0 (by omega) (by omega), lN_ne0 (by omega) (by omega), ?_⟩
        rw [lN_divN sm.2 (by omega) g0, lN_divN (by omega) (by omega) g0]
        exact ih (l + 1) _ _ (by omega) (bd_red pre.1 pre.2.1 pre.2.2) q0 q1
