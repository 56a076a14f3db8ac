/-! ===== twos ===== -/
/-- sum, how often some is lost, the worst two, how many by them -/
abbrev Q4 : Type := Int32 × Int32 × Int32 × Int32
noncomputable def twV (v : NV) (s : AS) (f g : Nat) : Nat := lostA v (dFail v (dFail v (frS s) f) g)
noncomputable def twP (v : NV) (s : AS) (f g : Nat) (x : Q4) : Q4 := (x.1 + nI (twV v s f g), x.2.1 + (if nI (twV v s f g) ≤ 0 then nI 0 else nI 1), (if x.2.2.2 < nI (twV v s f g) then nI 10 * nI f + nI g else x.2.2.1), if x.2.2.2 < nI (twV v s f g) then nI (twV v s f g) else x.2.2.2)
noncomputable def twG (v : NV) (s : AS) (f : Nat) (x : Q4) : Nat → Q4
  | 0 => x
  | g + 1 => if g = f then twG v s f x g else twP v s f g (twG v s f x g)
noncomputable def twF (v : NV) (s : AS) : Nat → Q4
  | 0 => (nI 0, nI 0, -1, -1)
  | f + 1 => twG v s f (twF v s f) (nvL v)
def twA (x1 : Int32) (x : Q4) : Int32 := if x1 = 0 then x.1 else if x1 = nI 1 then x.2.1 else x.2.2.1
theorem i32_le_not {a b : Int32} : a ≤ b ↔ ¬ (b < a) := by
  rw [Int32.le_iff_toInt_le, Int32.lt_iff_toInt_lt]
  omega
theorem tw72 {Q : Int32 → MH → Prop} {K : Nat → Int32 → Int32 → Int32 → Int32 → Int32 → Int32 → MH → Prop} {h : MH} {v : NV} {s : AS} {a f : Nat} {x1 : Int32} {x : Q4} (hl : LX h) (ca : hR h 128 1 = some a) (p : NetV h a v) (ok : AsOK v s) (hf : f < nvL v) (hq : ∀ g, Fr ST3 h g → StV g 153 (encS (frS s)) → (∀ k, k < 360 → hI g 198 k = 0) → K 128 x1 (twG v s f x (nvL v)).1 (twG v s f x (nvL v)).2.1 (twG v s f x (nvL v)).2.2.2 (twG v s f x (nvL v)).2.2.1 (nI (f + 1)) g) : ∀ n l g, l + n = nvL v → Fr ST3 h g → StV g 153 (encS (frS s)) → StV g 156 (encS (dFail v (frS s) f)) → (∀ k, k < 360 → hI g 198 k = 0) → wX9_twos_72 Q K (n + 1) 128 x1 (twG v s f x l).1 (twG v s f x l).2.1 (twG v s f x l).2.2.2 (twG v s f x l).2.2.1 (nI f) (nI l) g := by
  have h4 := p.1.1
  have okf : AsOK v (dFail v (frS s) f) := AsOK_tryS p.1 (AsOK_clF p.1 (AsOK_frS ok) hf)
  intro n
  induction n with
  | zero =>
    intro l g hn fr ps ps2 hz
    have hn : l = nvL v := by omega
    subst hn
    have hlg := LX_Fr fr hl
    have pg : NetV g a v := NetV_keep (NetEq_Fr (fun x q => by unfold ST3 at q; omega) fr) p
    unfold wX9_twos_72
    refine ⟨S_128 hlg, a, by rw [fr.2.2.2.1]; exact ca, pg.2.1, ?_⟩
    rw [pg.2.2.2.2.2.1, nI_add f 1]
    exact ⟨fun _ => hq g fr ps hz, fun z => absurd (nI_le (Nat.le_refl _) (by omega)) z⟩
  | succ n ih =>
    intro l g hn fr ps ps2 hz
    have hlg := LX_Fr fr hl
    have pg : NetV g a v := NetV_keep (NetEq_Fr (fun x q => by unfold ST3 at q; omega) fr) p
    have cag : hR g 128 1 = some a := by rw [fr.2.2.2.1]; exact ca
    have e1 : twG v s f x (l + 1) = if l = f then twG v s f x l else twP v s f l (twG v s f x l) := rfl
    unfold wX9_twos_72
    refine ⟨S_128 hlg, a, cag, pg.2.1, ?_⟩
    rw [pg.2.2.2.2.2.1, nI_add l 1, nI_eq (by omega) (by omega)]
    refine ⟨fun z => absurd z (nI_ge (by omega) (by omega)), fun _ => ⟨fun z => ?_, fun z => ⟨152, R_128_4 hlg, 4, S_152 hlg, vp_in_nI (by omega) (by omega), 156, R_152_1 hlg, vp_in_nI (by omega) (by omega), 159, R_152_2 hlg, n_lostBehind hlg cag pg okf (by decide) (by decide) (by omega) ps2 hz (by omega) ?_ (fun g2 f2 psx hz2 => ?_)⟩⟩⟩
    · have g1 := ih (l + 1) g (by omega) fr ps ps2 hz
      rw [e1, if_pos z] at g1
      exact g1
    · rw [dFail_F, bt_or, if_neg z]
      exact frF0 _ _
    · have g1 := ih (l + 1) g2 (by omega) (Fr_trans fr (SD_ST3 (by omega) f2)) (StV_row (f2.2.2.2.2 _ (by unfold SD; omega)) (f2.2.2.2.2 _ (by unfold SD; omega)) (f2.2.2.2.2 _ (by unfold SD; omega)) ps) (StV_row (f2.2.2.2.2 _ (by unfold SD; omega)) (f2.2.2.2.2 _ (by unfold SD; omega)) (f2.2.2.2.2 _ (by unfold SD; omega)) ps2) hz2
      rw [e1, if_neg z] at g1
      unfold wX9_twos_127 wX9_twos_149
      rw [nI_add l 1]
      have e2 : (if nI (lostA v (dFail v (dFail v (frS s) f) l)) ≤ (twG v s f x l).2.2.2 then (twG v s f x l).2.2.1 else nI 10 * nI f + nI l) = if (twG v s f x l).2.2.2 < nI (lostA v (dFail v (dFail v (frS s) f) l)) then nI 10 * nI f + nI l else (twG v s f x l).2.2.1 := by
        by_cases q : (twG v s f x l).2.2.2 < nI (lostA v (dFail v (dFail v (frS s) f) l))
        · rw [if_pos q, if_neg (fun y => (i32_le_not.mp y) q)]
        · rw [if_neg q, if_pos (i32_le_not.mpr q)]
      rw [e2]
      exact g1
theorem tw38 {Q : Int32 → MH → Prop} {h : MH} {v : NV} {s : AS} {a : Nat} {x1 : Int32} (hl : LX h) (ca : hR h 128 1 = some a) (p : NetV h a v) (ok : AsOK v s) (hq : ∀ g, Fr ST3 h g → (∀ k, k < 360 → hI g 198 k = 0) → Q (twA x1 (twF v s (nvL v))) g) : ∀ n f g, f + n = nvL v → Fr ST3 h g → StV g 153 (encS (frS s)) → (∀ k, k < 360 → hI g 198 k = 0) → wX9_twos_38 Q (n + 1) 128 x1 (twF v s f).1 (twF v s f).2.1 (twF v s f).2.2.2 (twF v s f).2.2.1 (nI f) g := by
  have h4 := p.1.1
  intro n
  induction n with
  | zero =>
    intro f g hn fr ps hz
    have hn : f = nvL v := by omega
    subst hn
    have hlg := LX_Fr fr hl
    have pg : NetV g a v := NetV_keep (NetEq_Fr (fun x q => by unfold ST3 at q; omega) fr) p
    unfold wX9_twos_38
    refine ⟨S_128 hlg, a, by rw [fr.2.2.2.1]; exact ca, pg.2.1, ?_⟩
    rw [pg.2.2.2.2.2.1]
    exact ⟨fun _ => hq g fr hz, fun z => absurd (nI_le (Nat.le_refl _) (by omega)) z⟩
  | succ n ih =>
    intro f g hn fr ps hz
    have hlg := LX_Fr fr hl
    have pg : NetV g a v := NetV_keep (NetEq_Fr (fun x q => by unfold ST3 at q; omega) fr) p
    have cag : hR g 128 1 = some a := by rw [fr.2.2.2.1]; exact ca
    unfold wX9_twos_38
    refine ⟨S_128 hlg, a, cag, pg.2.1, ?_⟩
    rw [pg.2.2.2.2.2.1]
    refine ⟨fun z => absurd z (nI_ge (by omega) (by omega)), fun _ => ⟨152, R_128_4 hlg, 4, S_152 hlg, vp_in_nI (by omega) (by omega), 153, R_152_0 hlg, vp_in_nI (by omega) (by omega), 156, R_152_1 hlg, n_lostBehind hlg cag pg (AsOK_frS ok) (by decide) (by decide) (by omega) ps hz (by omega) (frF0 _ _) (fun g2 f2 psx hz2 => ?_)⟩⟩
    exact ⟨_, tw72 (x := twF v s f) hl ca p ok (by omega) (fun g3 f3 ps3 hz3 => ih (f + 1) g3 (by omega) f3 ps3 hz3) (nvL v) 0 g2 (by omega) (Fr_trans fr (SD_ST3 (by omega) f2)) (StV_row (f2.2.2.2.2 _ (by unfold SD; omega)) (f2.2.2.2.2 _ (by unfold SD; omega)) (f2.2.2.2.2 _ (by unfold SD; omega)) ps) psx hz2⟩
theorem tw47 {Q : Int32 → MH → Prop} {K : Nat → Int32 → Int32 → Int32 → Int32 → Int32 → Int32 → MH → Prop} {h : MH} {d : DV} {f : Nat} {x1 : Int32} {x : Q4} (hl : LX h) (hv : NvOK (dN d)) (ok : AsOK (dN d) (dS d)) (hf : f < nvL (dN d)) (hq : ∀ g, FrM h g → MP g d → K 223 x1 (twG (dN d) (dS d) f x (nvL (dN d))).1 (twG (dN d) (dS d) f x (nvL (dN d))).2.1 (twG (dN d) (dS d) f x (nvL (dN d))).2.2.1 (twG (dN d) (dS d) f x (nvL (dN d))).2.2.2 (nI (f + 1)) g) : ∀ n l g, l + n = nvL (dN d) → FrM h g → MP g d → wX10_twos_47 Q K (n + 1) 223 x1 (twG (dN d) (dS d) f x l).1 (twG (dN d) (dS d) f x l).2.1 (twG (dN d) (dS d) f x l).2.2.1 (twG (dN d) (dS d) f x l).2.2.2 (nI f) (nI l) g := by
  have h4 := hv.1
  intro n
  induction n with
  | zero =>
    intro l g hn fr m
    have hn : l = nvL (dN d) := by omega
    subst hn
    have hlg := LX_Fr fr.1 hl
    unfold wX10_twos_47
    rw [show (nI 2).toNatClampNeg = 2 from by decide]
    refine ⟨S_223 hlg, 224, R_223_1 hlg, 7011, S_224 hlg, vp_in_nI (by omega) (by omega), ?_⟩
    rw [m.2.1.2.2.1, nI_add f 1]
    exact ⟨fun _ => hq g fr m, fun z => absurd (nI_le (Nat.le_refl _) (by omega)) z⟩
  | succ n ih =>
    intro l g hn fr m
    have hlg := LX_Fr fr.1 hl
    have e1 : twG (dN d) (dS d) f x (l + 1) = if l = f then twG (dN d) (dS d) f x l else twP (dN d) (dS d) f l (twG (dN d) (dS d) f x l) := rfl
    unfold wX10_twos_47
    rw [show (nI 2).toNatClampNeg = 2 from by decide]
    refine ⟨S_223 hlg, 224, R_223_1 hlg, 7011, S_224 hlg, vp_in_nI (by omega) (by omega), ?_⟩
    rw [m.2.1.2.2.1, nI_add l 1, nI_eq (by omega) (by omega)]
    refine ⟨fun z => absurd z (nI_ge (by omega) (by omega)), fun _ => ⟨fun z => m_lostBy hlg hv ok m hf (by omega) (fun g2 f2 m2 => ?_), fun z => ?_⟩⟩
    · have g1 := ih (l + 1) g2 (by omega) (FrM_trans fr f2) m2
      rw [e1, if_neg (fun y => z y.symm)] at g1
      unfold wX10_twos_94
      rw [nI_add l 1]
      unfold twP at g1
      refine ⟨fun y => ?_, fun y => ?_⟩
      · rw [show twV (dN d) (dS d) f l = lostA (dN d) (dFail (dN d) (dFail (dN d) (frS (dS d)) f) l) from rfl, if_pos y, if_pos y] at g1
        exact g1
      · rw [show twV (dN d) (dS d) f l = lostA (dN d) (dFail (dN d) (dFail (dN d) (frS (dS d)) f) l) from rfl, if_neg y, if_neg y] at g1
        exact g1
    · have g1 := ih (l + 1) g (by omega) fr m
      rw [e1, if_pos z.symm] at g1
      exact g1
theorem tw33 {Q : Int32 → MH → Prop} {h : MH} {d : DV} {x1 : Int32} (hl : LX h) (hv : NvOK (dN d)) (ok : AsOK (dN d) (dS d)) (hq : ∀ g, FrM h g → MP g d → Q (twA x1 (twF (dN d) (dS d) (nvL (dN d)))) g) : ∀ n f g, f + n = nvL (dN d) → FrM h g → MP g d → wX10_twos_33 Q (n + 1) 223 x1 (twF (dN d) (dS d) f).1 (twF (dN d) (dS d) f).2.1 (twF (dN d) (dS d) f).2.2.1 (twF (dN d) (dS d) f).2.2.2 (nI f) g := by
  have h4 := hv.1
  intro n
  induction n with
  | zero =>
    intro f g hn fr m
    have hn : f = nvL (dN d) := by omega
    subst hn
    have hlg := LX_Fr fr.1 hl
    unfold wX10_twos_33
    rw [show (nI 2).toNatClampNeg = 2 from by decide]
    refine ⟨S_223 hlg, 224, R_223_1 hlg, 7011, S_224 hlg, vp_in_nI (by omega) (by omega), ?_⟩
    rw [m.2.1.2.2.1]
    exact ⟨fun _ => hq g fr m, fun z => absurd (nI_le (Nat.le_refl _) (by omega)) z⟩
  | succ n ih =>
    intro f g hn fr m
    have hlg := LX_Fr fr.1 hl
    unfold wX10_twos_33
    rw [show (nI 2).toNatClampNeg = 2 from by decide]
    refine ⟨S_223 hlg, 224, R_223_1 hlg, 7011, S_224 hlg, vp_in_nI (by omega) (by omega), ?_⟩
    rw [m.2.1.2.2.1]
    exact ⟨fun z => absurd z (nI_ge (by omega) (by omega)), fun _ => ⟨_, tw47 (x := twF (dN d) (dS d) f) hl hv ok (by omega) (fun g3 f3 m3 => ih (f + 1) g3 (by omega) f3 m3) (nvL (dN d)) 0 g (by omega) fr m⟩⟩
theorem ST_twos_c {CV : MH → Prop} (ck : ∀ h h1, CvEq h h1 → CV h → CV h1) : ST_twos (RLY (RRc CV)) := by
  intro y1 h hr P kP
  obtain ⟨hl, t1, t2, d, ok, c, m⟩ := hr
  have cl := rd_close (x := nI 0) ck hl t1 t2 ok c m
  obtain ⟨⟨a, ca, cn⟩, cs, _, _, cb, _⟩ := id c
  have hl2 : LX (sI h 223 0 (nI 0)) := LX_sI hl
  have l0 : (0 : Int64).toInt = 0 := by decide
  have l2 : (2 : Int64).toInt = 2 := by decide
  have bad : ¬ (0 ≤ y1.toInt ∧ y1.toInt ≤ 2) → P (-2) h := fun q => by
    refine kP _ _ (S_223 hl) (fun P2 k2 => ⟨S_223 hl, fun _ e => ?_⟩)
    subst e
    exact u_within (fun p1 p2 => absurd ⟨by omega, by omega⟩ q) (fun _ => ⟨fun z => absurd nI_0 z, fun _ => k2 _ cl⟩)
  unfold wX9_twos
  refine ⟨fun z => bad ?_, fun z => ⟨fun z2 => ⟨S_128 hl, 152, R_128_4 hl, 4, S_152 hl, vp_in_nI (by omega) (by omega), 153, R_152_0 hl, 146, R_128_2 hl, S_153 hl, n_freshFrom hl (by decide) (by decide) (by omega) cs cb (fun g fg psg hzg => ⟨_, tw38 hl ca cn ok.1 (fun g2 f2 hz2 => kP _ _ (S_223 (LX_Fr f2 hl)) (fun P2 k2 => ⟨S_223 (LX_Fr f2 hl), fun _ e => ?_⟩)) (nvL (dN d)) 0 g (by omega) (SD_ST3 (by omega) fg) psg hzg⟩)⟩, fun z2 => bad ?_⟩⟩
  · rw [Int32.lt_iff_toInt_lt, i0_toInt] at z
    omega
  · subst e
    rw [Int32.lt_iff_toInt_lt, i0_toInt] at z
    rw [Int32.le_iff_toInt_le, nI_toInt (by omega)] at z2
    have mg := MP_thrown (x := nI 0) (MP_SC (SC_ST3 f2) m)
    refine u_within (fun p1 p2 => ⟨fun _ => ⟨_, tw33 (LX_sI (LX_Fr f2 hl)) cn.1 ok.1 (fun g3 f3 m3 => k2 _ (st_close ck hl ⟨t1, t2⟩ (SC_ST3 f2) (CP_trial ck f2 hz2 c) (FrM_trans (FrM_thrown g2 (nI 0)) f3) m3 ok)) (nvL (dN d)) 0 _ (by omega) (FrM_rfl _) mg⟩, fun y => absurd y (by decide)⟩) (fun k => absurd (by omega) k)
  · rw [Int32.le_iff_toInt_le, nI_toInt (by omega)] at z2
    omega
