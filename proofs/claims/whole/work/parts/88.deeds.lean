/-! ===== the class's deeds: take, mend, lay, rate ===== -/
theorem stL_198b : ∀ b ∈ stL, 198 < b ∨ b + 2 < 198 := by decide
theorem encW_slot {v : NV} {s : AS} {u x y : Nat} (ok : AsOK v s) (hv : nvC v ≤ 40) (hu : u < 20) (hx : x < 40) (hy : y < 9) : (encW (asW s u) >>> (nI 10 &&& 31) = nI (x * 9 + y)) ↔ ∃ p, asW s u = some (x, y, p) := by
  cases e : asW s u with
  | none =>
    refine ⟨fun z => ?_, fun ⟨p, z⟩ => absurd z (by simp)⟩
    have z1 : (encW none >>> (nI 10 &&& 31)).toInt = (nI (x * 9 + y)).toInt := congrArg Int32.toInt z
    rw [nI_toInt (by omega), show (encW none >>> (nI 10 &&& 31)).toInt = -1 from by decide] at z1
    omega
  | some t =>
    obtain ⟨c, k, p⟩ := t
    have aw := ok.2.2.2 u hu c k p e
    have aw2 := (ok.2.2.1 c (by omega)).1
    rw [show encW (some (c, k, p)) = nI ((9 * c + k) * 1024 + p) from rfl, wh_slot (by omega) (by omega) (by omega), nI_eq (by omega) (by omega)]
    constructor
    · intro z
      have z1 : c = x := by omega
      have z2 : k = y := by omega
      exact ⟨p, by rw [z1, z2]⟩
    · intro ⟨q, z⟩
      injection z with z
      injection z with z1 z2
      injection z2 with z2 z3
      omega
theorem take59 {Q : Int32 → MH → Prop} {h : MH} {v : NV} {s : AS} {a b c : Nat} (hl : LX h) (ok : AsOK v s) (hv : NvOK v) (hb : b ∈ stL) (hc : c < nvC v) (hc0 : 0 < asC s c) (hq : ∀ g, Fr (fun x => x = b + 2) h g → StV g b (encS (clT s c 20)) → wX7_tryLost 197 a b g (fun h11 => Q (nI 0) h11)) : ∀ n i g, i + n = 20 → Fr (fun x => x = b + 2) h g → StV g b (encS (clT s c i)) → wX7_takeCopy_59 Q (n + 1) 197 a b (nI (c * 9 + (asC s c - 1))) (nI i) g := by
  have h4 := hv.1
  have hc9 := (ok.2.2.1 c (by omega)).1
  intro n
  induction n with
  | zero =>
    intro i g hi f ps
    have hi : i = 20 := by omega
    subst hi
    unfold wX7_takeCopy_59
    exact ⟨fun _ => ⟨S_197 (LX_Fr f hl), hq g f ps⟩, fun z => absurd (nI_le (by omega) (by omega)) z⟩
  | succ n ih =>
    intro i g hi f ps
    have hlg := LX_Fr f hl
    have st := st_S hlg hb
    have ew : hI g (b + 2) i = encW (asW s i) := (ps.2.2.2 i (by omega)).trans (congrArg encW (upW_ge (Nat.le_refl _)))
    unfold wX7_takeCopy_59
    simp only [nI_add]
    rw [nI_clamp (by omega)]
    refine ⟨fun z => absurd z (nI_ge (by omega) (by omega)), fun _ => ⟨st.1, b + 2, st.2.2.2.2, 20, st.2.2.1, vp_in_nI (by omega) (by omega), ?_⟩⟩
    rw [ew, encW_slot ok (by omega) (by omega) (by omega) (by omega)]
    refine ⟨fun z => ih (i + 1) g (by omega) f ?_, fun z => ⟨vp_in_nI (by omega) (by omega), fun _ e2 => ?_⟩⟩
    · have e2 : clT s c (i + 1) = clT s c i := by
        unfold clT
        rw [upW_same ?_]
        cases e : asW s i with
        | none => rfl
        | some t =>
          obtain ⟨d, j, p⟩ := t
          refine if_neg (fun q => z ⟨p, ?_⟩)
          rw [e, q.1, q.2]
      rw [e2]
      exact ps
    · subst e2
      obtain ⟨p, e⟩ := z
      refine ih (i + 1) _ (by omega) (Fr_trans f (Fr_sI rfl)) ?_
      have e3 : clT s c (i + 1) = setW (clT s c i) i none := by
        have := upW_step (asW s) (fTake c (asC s c - 1)) i
        rw [e, show fTake c (asC s c - 1) (some (c, asC s c - 1, p)) = none from if_pos ⟨rfl, rfl⟩] at this
        unfold clT
        rw [← this]
        rfl
      rw [e3]
      exact StV_where (o := none) ps
theorem StV_copies {h : MH} {b c n : Nat} {s : AS} (ps : StV h b (encS s)) {W : Nat → Option (Nat × Nat × Nat)} (hw : ∀ u, u < 20 → W u = asW s u) : StV (sI h (b + 1) c (nI n)) b (encS (asR s, asF s, (fun x => if x = c then n else asC s x), W)) := by
  refine ⟨?_, ?_, fun k hk => ?_, fun k hk => ?_⟩
  · rw [hI_sI, if_neg (by omega)]; exact ps.1
  · rw [hI_sI, if_neg (by omega)]; exact ps.2.1
  · rw [hI_sI]
    show (if b + 1 = b + 1 ∧ k = c then nI n else hI h (b + 1) k) = nI (if k = c then n else asC s k)
    by_cases q : k = c
    · rw [if_pos ⟨rfl, q⟩, if_pos q]
    · rw [if_neg (fun z => q z.2), if_neg q]; exact ps.2.2.1 k hk
  · rw [hI_sI, if_neg (by omega)]
    exact (ps.2.2.2 k hk).trans (congrArg encW (hw k hk).symm)
theorem n_takeCopy {Q : Int32 → MH → Prop} {h : MH} {v : NV} {s : AS} {a b : Nat} {x : Int32} (hl : LX h) (p : NetV h a v) (ok : AsOK v s) (hb : b ∈ stL) (ps : StV h b (encS s)) (hz : ∀ k, k < 360 → hI h 198 k = 0) (k1 : (¬ ∃ c, isRg v (asR s) x c) → Q (nI 1) h) (k2 : ∀ c, isRg v (asR s) x c → asC s c = 0 → Q (nI 2) h) (k3 : ∀ c, isRg v (asR s) x c → 0 < asC s c → ∀ g, Fr (SD b) h g → StV g b (encS (dTake v s c)) → (∀ k, k < 360 → hI g 198 k = 0) → Q (nI 0) g) : wX7_takeCopy 197 a b x h Q := by
  have h4 := p.1.1
  have st := st_S hl hb
  have s198 := stL_198 b hb
  have e0 : hI h b 0 = nI (asR s) := ps.1
  refine ⟨st.1, p.2.1, ?_⟩
  rw [e0]
  rcases Classical.em (∃ c, isRg v (asR s) x c) with ⟨c, hc⟩ | hc
  · have hc1 := hc.1
    have ec : hI h (b + 1) c = nI (asC s c) := ps.2.2.1 c (by omega)
    have hc9 := (ok.2.2.1 c (by omega)).1
    have vp : vp_in (nI c) 40 := vp_in_nI (by omega) (by omega)
    refine n_cycleOf1 p ok.1 hc ⟨fun _ => ⟨st.1, b + 1, st.2.2.2.1, 40, st.2.1, vp, ?_⟩, fun z => absurd (nI_pos' (by omega)) z⟩
    rw [nI_clamp (by omega), ec]
    refine ⟨fun z => ⟨vp, vp, fun _ e => ?_⟩, fun z => k2 c hc ?_⟩
    · have c0 : 0 < asC s c := by
        rw [Int32.lt_iff_toInt_lt, i0_toInt, nI_toInt (by omega)] at z
        omega
      rw [nI_subN (by omega)] at e
      subst e
      refine ⟨vp, fun _ e => ⟨21, ?_⟩⟩
      rw [hI_sI, if_pos ⟨rfl, rfl⟩, nI_mul, nI_add] at e
      subst e
      refine take59 (LX_sI hl) ok p.1 hb hc1 c0 (fun g f psg => ?_) 20 0 _ (by omega) (Fr_rfl _ _) (StV_copies ps (fun u _ => upW_ge (Nat.zero_le _)))
      have f2 : Fr (SD b) h g := Fr_trans (Fr_sI (Or.inr (Or.inl rfl))) (Fr_mono (fun x q => Or.inr (Or.inr (Or.inl q))) f)
      exact n_tryLost (LX_Fr f2 hl) (NetV_SD hb f2 p) (AsOK_clT ok c0) hb psg (busy_keep f (by omega) (busy_keep (Fr_sI (S := fun x => x = b + 1) rfl) (by omega) hz)) (fun g2 f3 ps3 hz3 => k3 c hc c0 g2 (Fr_trans f2 (Fr_mono (fun x q => SD_ST2 q) f3)) ps3 hz3)
    · rw [Int32.lt_iff_toInt_lt, i0_toInt, nI_toInt (by omega)] at z
      omega
  · exact n_cycleOf0 p ok.1 hc ⟨fun z => absurd z (by decide), fun _ => k1 hc⟩
theorem n_layCopy {Q : Int32 → MH → Prop} {h : MH} {v : NV} {s : AS} {a b : Nat} {x : Int32} (hl : LX h) (p : NetV h a v) (ok : AsOK v s) (hb : b ∈ stL) (ps : StV h b (encS s)) (hz : ∀ k, k < 360 → hI h 198 k = 0) (k1 : (¬ ∃ c, isRg v (asR s) x c) → Q (nI 1) h) (k2 : ∀ c, isRg v (asR s) x c → asC s c = 9 → Q (nI 2) h) (k3 : ∀ c, isRg v (asR s) x c → asC s c < 9 → ∀ g, Fr (SD b) h g → StV g b (encS (dLay v s c)) → (∀ k, k < 360 → hI g 198 k = 0) → Q (nI 0) g) : wX7_layCopy 197 a b x h Q := by
  have h4 := p.1.1
  have st := st_S hl hb
  have s198 := stL_198 b hb
  have e0 : hI h b 0 = nI (asR s) := ps.1
  refine ⟨st.1, p.2.1, ?_⟩
  rw [e0]
  rcases Classical.em (∃ c, isRg v (asR s) x c) with ⟨c, hc⟩ | hc
  · have hc1 := hc.1
    have ec : hI h (b + 1) c = nI (asC s c) := ps.2.2.1 c (by omega)
    have hc9 := (ok.2.2.1 c (by omega)).1
    have vp : vp_in (nI c) 40 := vp_in_nI (by omega) (by omega)
    refine n_cycleOf1 p ok.1 hc ⟨fun _ => ⟨st.1, b + 1, st.2.2.2.1, 40, st.2.1, vp, ?_⟩, fun z => absurd (nI_pos' (by omega)) z⟩
    rw [nI_clamp (by omega), ec]
    refine ⟨fun z => ⟨vp, vp, fun _ e => ?_⟩, fun z => k2 c hc ?_⟩
    · have c0 : asC s c < 9 := by
        rw [Int32.lt_iff_toInt_lt, nI_toInt (by omega), nI_toInt (by omega)] at z
        omega
      rw [nI_add] at e
      subst e
      have f2 : Fr (SD b) h (sI h (b + 1) c (nI (asC s c + 1))) := Fr_sI (Or.inr (Or.inl rfl))
      exact ⟨S_197 (LX_sI hl), n_tryLost (LX_sI hl) (NetV_SD hb f2 p) (AsOK_clL ok hc.2.1 c0) hb (StV_copies ps (fun u _ => rfl)) (busy_keep (Fr_sI (S := fun x => x = b + 1) rfl) (by omega) hz) (fun g2 f3 ps3 hz3 => k3 c hc c0 g2 (Fr_trans f2 (Fr_mono (fun x q => SD_ST2 q) f3)) ps3 hz3)⟩
    · rw [Int32.lt_iff_toInt_lt, nI_toInt (by omega), nI_toInt (by omega)] at z
      omega
  · exact n_cycleOf0 p ok.1 hc ⟨fun z => absurd z (by decide), fun _ => k1 hc⟩
theorem n_mendLink {Q : Int32 → MH → Prop} {h : MH} {v : NV} {s : AS} {a b : Nat} {x : Int32} (hl : LX h) (p : NetV h a v) (ok : AsOK v s) (hb : b ∈ stL) (ps : StV h b (encS s)) (hz : ∀ k, k < 360 → hI h 198 k = 0) (k1 : (¬ ∃ l, isLk v x l) → Q (nI 1) h) (k2 : ∀ l, isLk v x l → bt (asF s) l = 0 → Q (nI 2) h) (k3 : ∀ l, isLk v x l → bt (asF s) l = 1 → ∀ g, Fr (SD b) h g → StV g b (encS (dMend v s l)) → (∀ k, k < 360 → hI g 198 k = 0) → Q (nI 0) g) : wX7_mendLink 197 a b x h Q := by
  have h4 := p.1.1
  have st := st_S hl hb
  have s198 := stL_198 b hb
  refine ⟨p.2.1, ?_⟩
  rcases Classical.em (∃ l, isLk v x l) with ⟨l, hk⟩ | hk
  · refine n_hasLink1 p hk ⟨fun _ => ⟨st.1, ?_⟩, fun z => absurd z (by decide)⟩
    have j1 := k2 l hk
    have j2 := k3 l hk
    obtain ⟨hk1, rfl⟩ := hk
    have hp := pow_le10 (show l < 10 by omega)
    have lF := asF_lt ok (by omega)
    have bl := bt_lt (asF s) l
    have eF : hI h b 1 = nI (asF s) := ps.2.1
    refine n_failed hl ok (by omega) hb ps (by omega) ?_
    rw [nI_eq0 (by omega)]
    refine ⟨fun z => ⟨st.1, fun _ e => ⟨3, ?_⟩⟩, fun z => j1 z⟩
    rw [eF, nI_shl l (by omega), nI_andn (by omega) (by omega)] at e
    subst e
    have ps0 : StV (sI h b 1 (nI (asF s ^^^ (asF s &&& 2 ^ l)))) b (encS (clM s l 0)) := by
      refine ⟨?_, ?_, fun k hk => ?_, fun k hk => ?_⟩
      · rw [hI_sI, if_neg (by omega)]; exact ps.1
      · rw [hI_sI, if_pos ⟨rfl, rfl⟩]; rfl
      · rw [hI_sI, if_neg (by omega)]; exact ps.2.2.1 k hk
      · rw [hI_sI, if_neg (by omega)]
        refine (ps.2.2.2 k hk).trans (congrArg encW (Eq.symm ?_))
        exact if_neg (by omega)
    have lp : ∀ n i g, i + n = 2 → Fr (SD b) h g → StV g b (encS (clM s l i)) → (∀ k, k < 360 → hI g 198 k = 0) → wX7_mendLink_37 Q (n + 1) 197 a b (nI l) (nI i) g := by
      intro n
      induction n with
      | zero =>
        intro i g hi f psg hzg
        have hi : i = 2 := by omega
        subst hi
        unfold wX7_mendLink_37
        refine ⟨fun _ => ⟨S_197 (LX_Fr f hl), n_tryLost (LX_Fr f hl) (NetV_SD hb f p) (AsOK_clM ok) hb psg hzg (fun g2 f3 ps3 hz3 => j2 (by omega) g2 (Fr_trans f (Fr_mono (fun x q => SD_ST2 q) f3)) ps3 hz3)⟩, fun z => absurd (nI_le (by omega) (by omega)) z⟩
      | succ n ih =>
        intro i g hi f psg hzg
        have stg := st_S (LX_Fr f hl) hb
        unfold wX7_mendLink_37
        simp only [nI_mul, nI_add]
        refine ⟨fun z => absurd z (nI_ge (by omega) (by omega)), fun _ => ⟨stg.1, b + 2, stg.2.2.2.2, 20, stg.2.2.1, vp_in_nI (by omega) (by omega), fun _ e => ?_⟩⟩
        rw [nI_clamp (by omega)] at e
        subst e
        refine ih (i + 1) _ (by omega) (Fr_trans f (Fr_sI (Or.inr (Or.inr (Or.inl rfl))))) ?_ (busy_keep (Fr_sI (S := fun x => x = b + 2) rfl) (by omega) hzg)
        have e3 : clM s l (i + 1) = setW (clM s l i) (l * 2 + i) none := by
          have e4 : (fun u => if 2 * l ≤ u ∧ u < 2 * l + (i + 1) then none else asW s u) = fun x => if x = l * 2 + i then none else if 2 * l ≤ x ∧ x < 2 * l + i then none else asW s x := by
            funext x
            by_cases q : x = l * 2 + i
            · rw [if_pos q, if_pos (by omega)]
            · rw [if_neg q]
              by_cases q2 : 2 * l ≤ x ∧ x < 2 * l + i
              · rw [if_pos q2, if_pos (by omega)]
              · rw [if_neg q2, if_neg (by omega)]
          unfold clM
          rw [e4]
          rfl
        rw [e3]
        exact StV_where (o := none) psg
    exact lp 2 0 _ (by omega) (Fr_sI (Or.inl rfl)) ps0 (busy_keep (Fr_sI (S := fun x => x = b) rfl) (by omega) hz)
  · exact n_hasLink0 p hk ⟨fun z => absurd nI_0 z, fun _ => k1 hk⟩
theorem lN_cmp {a b : Nat} (ha : a < 2 ^ 63) (hb : b < 2 ^ 63) : (lg_cmp (lN a) (lN b) = 0) ↔ a = b := by
  constructor
  · intro e
    unfold lg_cmp at e
    by_cases q : lN a > lN b
    · rw [if_pos q] at e
      exact absurd e (by decide)
    · rw [if_neg q] at e
      by_cases q2 : lN a = lN b
      · have := congrArg (fun z => z.toBitVec.toNat) q2
        rw [lN_toNat ha, lN_toNat hb] at this
        exact this
      · rw [if_neg q2] at e
        exact absurd e (by decide)
  · intro e
    rw [e]
    exact lg_cmp_self _
theorem Fr_bgS {h : MH} {b : Nat} {r : Int32} : Fr (SD b) h (bgS h b r) := by
  unfold bgS mdS
  exact Fr_trans (Fr_trans (Fr_trans (Fr_sI (Or.inl rfl)) (Fr_rI (Or.inr (Or.inl rfl)))) (Fr_sI (Or.inl rfl))) (Fr_rI (Or.inr (Or.inr (Or.inl rfl))))
theorem n_changeRate {Q : Int32 → MH → Prop} {h : MH} {v : NV} {s : AS} {a b : Nat} {x : Int32} (hl : LX h) (p : NetV h a v) (ok : AsOK v s) (hb : b ∈ stL) (ps : StV h b (encS s)) (hz : ∀ k, k < 360 → hI h 198 k = 0) (k1 : (x.toInt < 0 ∨ 9 < x.toInt) → Q (nI 1) h) (k3 : ∀ r, r < 10 → x = nI r → ∀ g, Fr (SD b) h g → StV g b (encS (dRate v s r)) → (∀ k, k < 360 → hI g 198 k = 0) → Q (nI 0) g) : wX7_changeRate 197 a b x h Q := by
  have h4 := p.1.1
  have st := st_S hl hb
  have s198 := stL_198 b hb
  have e0 : hI h b 0 = nI (asR s) := ps.1
  obtain ⟨w, w1, w2, w3, w4, w5, w6, w7⟩ := id p.2.2.2.2.2.2.2
  unfold wX7_changeRate
  rcases i32_split x 9 (by omega) with ⟨r, hr, e⟩ | q
  · have j3 := k3 r (by omega) e
    subst e
    have hr9 := ok.1
    refine ⟨fun z => absurd z (nI_pos (by omega)), fun _ => ⟨fun _ => ⟨p.2.1, w 9, (w1 9 (by omega) (by omega) (by omega)).1, 10, w2.2.2.2.2.2.1, vp_in_nI (by omega) (by omega), st.1, ?_, ?_⟩, fun z => absurd (nI_lt (by omega) (by omega)) z⟩⟩
    · rw [e0]; exact vp_in_nI hr9 (by omega)
    · have m1 := lt_of_pow40 (p.1.2.2.2.2.2.2 r (by omega)) (by omega)
      have m2 := lt_of_pow40 (p.1.2.2.2.2.2.2 (asR s) hr9) (by omega)
      rw [e0, nI_clamp (by omega), nI_clamp (by omega), w5 r (by omega), w5 _ hr9, lN_cmp m1 m2]
      unfold dRate at j3
      refine ⟨fun z _ e => ?_, fun z => u_begin6 hl hb ⟨(st_S (LX_bgS hl) hb).1, fun _ e => ?_⟩⟩
      · subst e
        rw [if_pos z] at j3
        refine j3 _ (Fr_sI (Or.inl rfl)) ⟨?_, ?_, fun k hk => ?_, fun k hk => ?_⟩ (busy_keep (Fr_sI (S := fun x => x = b) rfl) (by omega) hz)
        · rw [hI_sI, if_pos ⟨rfl, rfl⟩]; rfl
        · rw [hI_sI, if_neg (by omega)]; exact ps.2.1
        · rw [hI_sI, if_neg (by omega)]; exact ps.2.2.1 k hk
        · rw [hI_sI, if_neg (by omega)]; exact ps.2.2.2 k hk
      · subst e
        rw [if_neg z] at j3
        have bg := bgS_V h b (nI r)
        refine j3 _ (Fr_trans Fr_bgS (Fr_sI (Or.inl rfl))) ⟨?_, ?_, fun k hk => ?_, fun k hk => ?_⟩ (fun k hk => ?_)
        · rw [hI_sI, if_pos ⟨rfl, rfl⟩]; rfl
        · rw [hI_sI, if_neg (by omega)]; exact bg.2.1.trans nI_0.symm
        · rw [hI_sI, if_neg (by omega)]; exact (bg.2.2.1 k hk).trans nI_0.symm
        · rw [hI_sI, if_neg (by omega)]; exact bg.2.2.2 k hk
        · have sg := stL_198b b hb
          rw [hI_sI, if_neg (by omega), bgS_row (by omega)]
          exact hz k hk
  · refine ⟨fun _ => k1 (by omega), fun z => ⟨fun z2 => ?_, fun _ => k1 (by omega)⟩⟩
    rw [Int32.lt_iff_toInt_lt, i0_toInt] at z
    rw [Int32.lt_iff_toInt_lt, nI_toInt (by omega)] at z2
    omega
