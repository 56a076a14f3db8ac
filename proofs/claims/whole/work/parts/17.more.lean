/-! ===== the lighter logic: String constants, null, switches, Math, arraycopy ===== -/
section QM
variable {M : MI} {d b t pc : Nat} {ls : List (Option Value)} {st : List Value} {h : MH} {Q Q' : Option Value → MH → Prop}
theorem q_readS {pc' : Nat} {st' : List Value}
    (hrow : ∀ (G : GC) (p : Program) (l : Launch) (e : Env) (R : Room) (s : State) (m : MethodId) (args : Array Value) (below : List Frame) (meth : Method) (c : Code) (Z : State → Prop) (H : Heap) (locs : List Loc) (lsR : Array Slot) (k n : Nat), cX G M p s m args meth c → relH G h H → va_S (gAA G) s.heap H locs → d ≤ R.frames ∧ 64 * d ≤ R.locals ∧ k ≤ R.cells ∧ n ≤ R.slots → c.maxLocals = lsR.size →
      W p l e R s m args below meth c H locs k n Z (F0 m pc' lsR (st'.map (vm G))) → W p l e R s m args below meth c H locs k n Z (F0 m pc lsR (st.map (vm G))))
    (kk : Wm M d b t pc' ls st' h Q) : Wm M d b t pc ls st h Q :=
  fun G p l e R s m args below meth c Z H locs lsR k n C hR hH hS hl he => hrow G p l e R s m args below meth c Z H locs lsR k n C hH hS ⟨hR.1, hR.2.1, by omega, by omega⟩ (C.2.2.1.trans hl.1.symm) (kk G p l e R s m args below meth c Z H locs lsR k n C hR hH hS hl he)
theorem gad_hp {G : GC} {x : Nat} (hx : 128 ≤ x) : gad G x = gB G + (x - 128) := by unfold gad; rw [if_neg (by omega), if_neg (by omega)]
theorem gad_str {G : GC} {x : Nat} (hx : x < 33) : gad G x = gK G x := by unfold gad; rw [if_pos (by omega)]
theorem gad_byt {G : GC} {x : Nat} (hx : x < 33) : gad G (64 + x) = gV G x := by unfold gad; rw [if_neg (by omega), if_pos (by omega)]; congr 1; omega
/-- the bytes of a String constant -/
theorem q_getSV {i x : Nat} (hx : x < 33) (hl : Cond.fieldLink (mN M).cls i "java/lang/String" "value" "[B" ∈ GW) (hd : decode (mB M) pc = .ok (.getfield i, 3)) (kk : Wm M d b t (pc + 3) ls (.ref (64 + x) :: st) h Q) : Wm M d b t pc ls (.ref x :: st) h Q :=
  q_readS (fun G p l e R s m args below meth cd Z H locs lsR kc n C hH hSS hR hml k2 => by
    have k3 := k2
    simp only [List.map, vm, gad_byt hx] at k3
    have h1 := (C.2.2.2.2.2.2.1.1.1 x hx).2.2.1
    have k4 := vk_getf C.1 C.2.1 h1 hSS C.2.2.2.1 (C.2.2.2.2.1 _ hl) (fun _ z => z) hd k3
    simp only [List.map, vm, gad_str hx]
    exact k4) kk
theorem q_getSC {i x : Nat} (hx : x < 33) (hl : Cond.fieldLink (mN M).cls i "java/lang/String" "coder" "B" ∈ GW) (hd : decode (mB M) pc = .ok (.getfield i, 3)) (kk : Wm M d b t (pc + 3) ls (.int 0 :: st) h Q) : Wm M d b t pc ls (.ref x :: st) h Q :=
  q_readS (fun G p l e R s m args below meth cd Z H locs lsR kc n C hH hSS hR hml k2 => by
    have h1 := (C.2.2.2.2.2.2.1.1.1 x hx).2.1
    have k4 := vk_getf C.1 C.2.1 h1 hSS C.2.2.2.1 (C.2.2.2.2.1 _ hl) (fun _ z => z) hd k2
    simp only [List.map, vm, gad_str hx]
    exact k4) kk
theorem q_getCS {i : Nat} (hl : Cond.fieldLink (mN M).cls i "java/lang/String" "COMPACT_STRINGS" "Z" ∈ GW) (hd : decode (mB M) pc = .ok (.getstatic i, 3)) (kk : Wm M d b t (pc + 3) ls (.int 1 :: st) h Q) : Wm M d b t pc ls st h Q :=
  q_readS (fun G p l e R s m args below meth cd Z H locs lsR kc n C hH hSS hR hml k2 => va_gets C.1 C.2.1 C.2.2.2.2.2.2.1.2.1 hSS C.2.2.2.1 (C.2.2.2.2.1 _ hl) (fun _ z => z) hd k2) kk
theorem q_getSF {i : Nat} (hl : Cond.fieldLink (mN M).cls i "jdk/internal/util/Preconditions" "SIOOBE_FORMATTER" "Ljava/util/function/BiFunction;" ∈ GW) (hd : decode (mB M) pc = .ok (.getstatic i, 3)) (kk : Wm M d b t (pc + 3) ls (.retAddr 0 :: st) h Q) : Wm M d b t pc ls st h Q :=
  q_readS (fun G p l e R s m args below meth cd Z H locs lsR kc n C hH hSS hR hml k2 => va_gets C.1 C.2.1 C.2.2.2.2.2.2.1.2.2 hSS C.2.2.2.1 (C.2.2.2.2.1 _ hl) (fun _ z => z) hd k2) kk
theorem q_sbald {x : Nat} {j : Int32} (hx : x < 33) (hin : vp_in j (strLen.getD x 0)) (hd : decode (mB M) pc = .ok (.baload, 1)) (kk : Wm M d b t (pc + 1) ls (.int ((strByt.getD x []).getD j.toNatClampNeg 0) :: st) h Q) : Wm M d b t pc ls (.int j :: .ref (64 + x) :: st) h Q :=
  q_readS (fun G p l e R s m args below meth cd Z H locs lsR kc n C hH hSS hR hml k2 => by
    have h1 := (C.2.2.2.2.2.2.1.1.1 x hx).2.2.2
    have k4 := va_tb C.1 C.2.1 h1 hSS hin rfl hd k2
    simp only [List.map, vm, gad_byt hx]
    exact k4) kk
theorem q_salen {x : Nat} (hx : x < 33) (hd : decode (mB M) pc = .ok (.arraylength, 1)) (kk : Wm M d b t (pc + 1) ls (.int (Int32.ofNat (strLen.getD x 0)) :: st) h Q) : Wm M d b t pc ls (.ref (64 + x) :: st) h Q :=
  q_readS (fun G p l e R s m args below meth cd Z H locs lsR kc n C hH hSS hR hml k2 => by
    obtain ⟨cell, c1, c2, c3, c4, c5, c6, c7⟩ := ((C.2.2.2.2.2.2.1.1.1 x hx).2.2.2).kept hSS.2.1
    have k4 := W.alen (n := Int32.ofNat (strLen.getD x 0)) (g := F0 m pc lsR (.ref (gV G x) :: st.map (vm G))) C.1 C.2.1 c1 c2 c5 rfl rfl hd k2
    simp only [List.map, vm, gad_byt hx]
    exact k4) kk
/-- a call of a String constant's method -/
theorem q_callVS {M' : MI} {i d' mc ms x nA : Nat} {As stk : List Value} (hx : x < 33) (hC : Cm M' d' mc ms (.ref x :: As) h Q') (hlk : Cond.methodLink (mN M).cls i (mN M') ∈ GW) (hok : mOK M' nA) (hiv : Cond.instanceMethod (mN M') ∈ GW ∧ Cond.selects (mN M').cls (mN M') (mN M') ∈ GW) (hn : As.length = nA)
    (hcl : (mN M').cls = "java/lang/String") (hdd : d' < d) (hst : stk = As.reverse ++ .ref x :: st) (hsum : (st.map fun v => v.category).sum ≤ 8) (hd : decode (mB M) pc = .ok (.invokevirtual i, 3))
    (kk : ∀ v h', Q' v h' → Wm M d b t (pc + 3) ls (v.toList ++ st) h' Q) : Wm M d (b + mc) (t + ms) pc ls stk h Q := by
  intro G p l e R s m args below meth c Z H locs lsR k n C hR hH hS hl he
  obtain ⟨hx1, hb, hml, hown, hts, hK, hkS, hnm, hb0, -⟩ := id C
  obtain ⟨cell, o1, o2, o3⟩ := vk_recv hkS.1 hx hS
  have hsm : ∀ st : List Value, ((st.map (vm G)).map fun v => v.category) = st.map fun v => v.category := fun st => by rw [List.map_map]; exact List.map_congr_left (fun v _ => vm_cat G v)
  refine q_back (M' := M') (va_runV (Ts := GW) (own := (mN M).cls) (C := (mN M').cls) (index := i) (b := gad G x) (As := As.map (vm G)) (bytes := mB M') (maxL := mL M') (ret := mR M') (ws := wsM M') (n := nA) (nL := mL M) ⟨hx1, hb, hml, hown, hts⟩ (hC G l) ⟨callB_of nA hts (gw_good hok.ws (fun w h => h)) rfl rfl rfl (hts _ hok.2.1) (hts _ hlk) hok.2.2.1 ?_, hts _ hiv.1, hts _ hiv.2⟩ ⟨pcM_blind G _ h, ⟨cell, by rw [gad_str hx]; exact o1, o2, by rw [hcl]; exact o3⟩, pcM_at (as := .ref x :: As) hK hkS hb0 hH hS⟩ rfl (by rw [List.length_map]; exact hn) hl.1 (by rw [hst]; simp [List.map_append, List.map_reverse, vm]) (lv_room (by rw [hsm]; exact hsum)) hd ⟨by omega, by omega⟩) kk C hR hS hl he
  have h40 := hok.2.2.2
  exact ⟨by show d' + 1 ≤ R.frames; omega, by show 8 + (mL M' + 11) + 64 * d' ≤ R.locals; omega⟩
/-! null, the same reference -/
theorem q_ifnonnull {r : Option Nat} {off : Int} {tgt : Nat} (hd : decode (mB M) pc = .ok (.ifnonnull off, 3)) (ht : (pc : Int) + off = (tgt : Int)) (kt : ∀ x, r = some x → Wm M d b t tgt ls st h Q) (kf : r = none → Wm M d b t (pc + 3) ls st h Q) : Wm M d b t pc ls (fromR r :: st) h Q := by
  cases r with
  | none => exact q_pure (fun _ _ _ _ _ _ _ _ _ _ _ _ _ _ _ _ _ _ hx hb _ k => lv_ifnonnullN hx hb hd k) (kf rfl)
  | some x => exact q_pure (fun _ _ _ _ _ _ _ _ _ _ _ _ _ _ _ _ _ _ hx hb _ k => lv_ifnonnull hx hb hd ht k) (kt x rfl)
theorem q_acmp_ne {rx ry : Option Nat} {off : Int} {tgt : Nat} (h1 : ∀ x, rx = some x → 128 ≤ x) (h2 : ∀ x, ry = some x → 128 ≤ x) (hd : decode (mB M) pc = .ok (.if_acmp .ne off, 3)) (ht : (pc : Int) + off = (tgt : Int)) (kt : ¬ rx = ry → Wm M d b t tgt ls st h Q) (kf : rx = ry → Wm M d b t (pc + 3) ls st h Q) : Wm M d b t pc ls (fromR ry :: fromR rx :: st) h Q := by
  intro G p l e R s m args below meth c Z H locs lsR k n C hR hH hS hl he
  have hrv : ∀ r : Option Nat, vm G (fromR r) = va_rf (r.map (gad G)) := fun r => by cases r <;> rfl
  have hinj : rx.map (gad G) = ry.map (gad G) ↔ rx = ry := by
    constructor
    · intro e
      cases rx with
      | none => cases ry with
        | none => rfl
        | some y => cases e
      | some x => cases ry with
        | none => cases e
        | some y =>
          have e1 : gad G x = gad G y := by simpa using e
          have a1 := h1 x rfl
          have a2 := h2 y rfl
          rw [gad_hp a1, gad_hp a2] at e1
          exact congrArg some (by omega)
    · intro e; rw [e]
  show W p l e R s m args below meth c H locs k n Z (F0 m pc lsR (vm G (fromR ry) :: vm G (fromR rx) :: st.map (vm G)))
  rw [hrv, hrv]
  exact lv_acmp_ne C.1 C.2.1 hd ht (fun z => kt (fun e => z (hinj.mpr e)) G p l e R s m args below meth c Z H locs lsR k n C hR hH hS hl he) (fun z => kf (hinj.mp z) G p l e R s m args below meth c Z H locs lsR k n C hR hH hS hl he)
/-! switches -/
theorem q_tabOut {dflt lo hi : Int} {offs : Array Int} {len : Nat} {x : Int32} {tgt : Nat} (hd : decode (mB M) pc = .ok (.tableswitch dflt lo hi offs, len)) (hx : x.toInt < lo ∨ hi < x.toInt) (ht : (pc : Int) + dflt = (tgt : Int)) (kk : Wm M d b t tgt ls st h Q) : Wm M d b t pc ls (.int x :: st) h Q :=
  q_pure (fun _ _ _ _ _ _ _ _ _ _ _ _ _ _ _ _ _ _ hx1 hb _ k => lv_tableOut hx1 hb hd hx ht k) kk
theorem q_tabIn {dflt lo hi : Int} {offs : Array Int} {len : Nat} {x : Int32} {off : Int} {tgt : Nat} (hd : decode (mB M) pc = .ok (.tableswitch dflt lo hi offs, len)) (h1 : ¬ x.toInt < lo) (h2 : ¬ hi < x.toInt) (ho : offs[(x.toInt - lo).toNat]? = some off) (ht : (pc : Int) + off = (tgt : Int)) (kk : Wm M d b t tgt ls st h Q) : Wm M d b t pc ls (.int x :: st) h Q :=
  q_pure (fun _ _ _ _ _ _ _ _ _ _ _ _ _ _ _ _ _ _ hx1 hb _ k => lv_tableIn hx1 hb hd h1 h2 ho ht k) kk
theorem q_lookup {dflt : Int} {ps : Array (Int × Int)} {len : Nat} {x : Int32} {off : Int} {tgt : Nat} (hd : decode (mB M) pc = .ok (.lookupswitch dflt ps, len)) (hp : (ps.toList.zip (ps.toList.drop 1)).all (fun (a, next) => a.1 < next.1) = true) (ho : Op.lookupswitch.offset ps.toList dflt x.toInt = off) (ht : (pc : Int) + off = (tgt : Int)) (kk : Wm M d b t tgt ls st h Q) : Wm M d b t pc ls (.int x :: st) h Q :=
  q_pure (fun _ _ _ _ _ _ _ _ _ _ _ _ _ _ _ _ _ _ hx1 hb _ k => lv_lookup hx1 hb hd hp ho ht k) kk
/-! Math -/
theorem sm_vm (G : GC) (st : List Value) : ((st.map (vm G)).map fun v => v.category) = st.map fun v => v.category := by rw [List.map_map]; exact List.map_congr_left (fun v _ => vm_cat G v)
theorem q_mmax {i : Nat} {x y : Int32} (hlk : Cond.methodLink (mN M).cls i Lib.Math.max.name ∈ GW) (hst : Cond.static Lib.Math.max.name ∈ GW) (hin : Cond.initialized "java/lang/Math" ∈ GW) (hco : Cond.code Lib.Math.max.name Lib.Math.max.code 2 (some .int) ∈ GW) (hd1 : 1 ≤ d) (hsum : (st.map fun v => v.category).sum ≤ 8) (hd : decode (mB M) pc = .ok (.invokestatic i, 3)) (kk : Wm M d b t (pc + 3) ls (.int (if x < y then y else x) :: st) h Q) : Wm M d b t pc ls (.int y :: .int x :: st) h Q :=
  q_readS (fun G p l e R s m args below meth cd Z H locs lsR kc n C hH hSS hR hml k2 => va_mmax C.1 C.2.1 hml C.2.2.2.1 (C.2.2.2.2.1 _ hlk) (C.2.2.2.2.1 _ hst) (C.2.2.2.2.1 _ hin) (C.2.2.2.2.1 _ hco) (by omega) (by rw [sm_vm]; omega) hR.2.2.1 hR.2.2.2 hd k2) kk
theorem q_mmin {i : Nat} {x y : Int32} (hlk : Cond.methodLink (mN M).cls i Lib.Math.min.name ∈ GW) (hst : Cond.static Lib.Math.min.name ∈ GW) (hin : Cond.initialized "java/lang/Math" ∈ GW) (hco : Cond.code Lib.Math.min.name Lib.Math.min.code 2 (some .int) ∈ GW) (hd1 : 1 ≤ d) (hsum : (st.map fun v => v.category).sum ≤ 8) (hd : decode (mB M) pc = .ok (.invokestatic i, 3)) (kk : Wm M d b t (pc + 3) ls (.int (if y < x then y else x) :: st) h Q) : Wm M d b t pc ls (.int y :: .int x :: st) h Q :=
  q_readS (fun G p l e R s m args below meth cd Z H locs lsR kc n C hH hSS hR hml k2 => va_mmin C.1 C.2.1 hml C.2.2.2.1 (C.2.2.2.2.1 _ hlk) (C.2.2.2.2.1 _ hst) (C.2.2.2.2.1 _ hin) (C.2.2.2.2.1 _ hco) (by omega) (by rw [sm_vm]; omega) hR.2.2.1 hR.2.2.2 hd k2) kk
end QM
theorem rI_copy_put {G : GC} {h : MH} {H H' : Heap} {a n : Nat} {f : Nat → Int32} (hH : relH G h H) (hs : hS h a = (2, n)) (e1 : H'[gad G a]? = some (arrV (gA G 2) n (fun j => .int (f j)))) (e2 : H'.size = H.size) (e3 : ∀ q, q ≠ gad G a → H'[q]? = H[q]?) : relH G (rI h a f) H' := by
  have hs1 : (hS h a).1 ≠ 0 := by rw [hs]; exact Nat.succ_ne_zero 1
  refine hH.put (h' := rI h a f) hs1 rfl rfl e2 e3 ⟨_, e1, ?_⟩ (fun b j hb => ⟨by rw [hI_rI, if_neg hb], rfl, rfl⟩)
  have hs' : hS (rI h a f) a = (2, n) := hs
  unfold cOK
  rw [hs']
  refine Or.inr (Or.inl ⟨Or.inl rfl, ?_⟩)
  show arrV _ _ _ = arrV _ _ _
  congr 1
  funext j
  rw [hI_rI, if_pos rfl]
section QA
variable {M : MI} {d b t pc : Nat} {ls : List (Option Value)} {st : List Value} {h : MH} {Q Q' : Option Value → MH → Prop}
/-- System.arraycopy over ints -/
theorem q_copy {i a a0 n0 n1 : Nat} {sp dp n : Int32} (hs0 : hS h a0 = (2, n0)) (hs1 : hS h a = (2, n1)) (hlk : Cond.methodLink (mN M).cls i arraycopyName ∈ GW) (hnat : Cond.native arraycopyName ∈ GW) (hst : Cond.static arraycopyName ∈ GW) (hin : Cond.initialized "java/lang/System" ∈ GW)
    (h1 : ¬ sp < 0) (h2 : ¬ dp < 0) (h3 : ¬ n < 0) (h4 : sp.toNatClampNeg + n.toNatClampNeg ≤ n0) (h5 : dp.toNatClampNeg + n.toNatClampNeg ≤ n1) (hd1 : 1 ≤ d) (hsum : (st.map fun v => v.category).sum ≤ 8) (hd : decode (mB M) pc = .ok (.invokestatic i, 3))
    (kk : Wm M d b t (pc + 3) ls st (rI h a (va_cpy (hI h a0) (hI h a) sp.toNatClampNeg dp.toNatClampNeg n.toNatClampNeg)) Q) : Wm M d b t pc ls (.int n :: .int dp :: .ref a :: .int sp :: .ref a0 :: st) h Q := by
  intro G p l e R s m args below meth c Z H locs lsR kc nc C hR hH hSS hl he
  obtain ⟨hx, hb, hml, hown, hts, hK, hkS, hnm, hb0, -⟩ := id C
  have nn : ∀ z : Int32, ¬ z < 0 → z.toInt = (z.toNatClampNeg : Int) := by
    intro z hz
    have hz0 : (0 : Int) ≤ z.toInt := by
      have := Int32.not_lt.mp hz
      simpa using Int32.le_iff_toInt_le.mp this
    show z.toInt = ((z.toInt.toNat : Nat) : Int)
    omega
  intro T hT X
  have hc0 := hH.rowI hs0 (Or.inl rfl)
  have hc1 := hH.rowI hs1 (Or.inl rfl)
  obtain ⟨-, k0, hk0, cm0, hkk0⟩ := (hK.2.1 2 (by decide) (by decide)).1 n0 (fun j => .int (hI h a0 j))
  obtain ⟨-, k1, hk1, cm1, hkk1⟩ := (hK.2.1 2 (by decide) (by decide)).1 n1 (fun j => .int (hI h a j))
  obtain ⟨vm', X', step⟩ := X.arraycopy hx hown (hts _ hlk) (hts _ hnat) (hts _ hst) (hts _ hin) (src := gad G a0) (dst := gad G a) (srcPos := sp) (destPos := dp) (n := n) (by rw [hT]; exact hc0) (by rw [hT]; exact hc1)
    (fun _ h => by cases h) (fun _ h => by cases h) (fun h => by cases h) (fun h => by cases h) hk0 hk1 hkk0 hkk1 (by simp [aty, refKind]) h1 h2 h3
    (by rw [nn sp h1, nn n h3]; show ¬ _ > ((arrV _ n0 _).slots.size : Int); rw [arrV_size]; omega)
    (by rw [nn dp h2, nn n h3]; show ¬ _ > ((arrV _ n1 _).slots.size : Int); rw [arrV_size]; omega)
    (fun vm₁ _ i hi => by
      have e : (arrV (gA G 2) n0 (fun j => .int (hI h a0 j))).slots.getD (sp.toNatClampNeg + i) .null = .int (hI h a0 (sp.toNatClampNeg + i)) := by
        rw [Array.getD_eq_getD_getElem?, arrV_read _ _ (by omega)]
        rfl
      refine ⟨?_, ?_⟩
      · rw [e]
        rfl
      · rw [e]
        exact trivial)
    (g := F0 m pc lsR (.int n :: .int dp :: .ref (gad G a) :: .int sp :: .ref (gad G a0) :: st.map (vm G))) rfl (by rw [hml]; exact hl.1) (rest := st.map (vm G)) rfl (by rw [hb]; exact hd) (by omega) (by
      show 2 * 0 + _ + (nativeFrameWords "java/lang/System" "arraycopy" 5 + 11) ≤ _
      have hw : nativeFrameWords "java/lang/System" "arraycopy" 5 + 11 ≤ 40 := by decide
      rw [sm_vm]
      omega)
  have e1 : copied (arrV (gA G 2) n0 (fun j => .int (hI h a0 j))) (arrV (gA G 2) n1 (fun j => .int (hI h a j))) sp dp n = arrV (gA G 2) n1 (fun j => .int (va_cpy (hI h a0) (hI h a) sp.toNatClampNeg dp.toNatClampNeg n.toNatClampNeg j)) := va_copied (fun z => .int z) _ _ _ _ h4
  rw [e1] at X' step
  have hlt : gad G a < H.size := (Array.getElem?_eq_some_iff.mp hc1).1
  have hs9 : (hS h a).1 ≠ 0 := by rw [hs1]; exact Nat.succ_ne_zero 1
  generalize hf9 : va_cpy (hI h a0) (hI h a) sp.toNatClampNeg dp.toNatClampNeg n.toNatClampNeg = f9 at X' step kk
  have hheap : ((T.setVm vm').setCell (gad G a) (arrV (gA G 2) n1 (fun j => .int (f9 j)))).heap = H.setIfInBounds (gad G a) (arrV (gA G 2) n1 (fun j => .int (f9 j))) := by rw [← hT]; rfl
  have oq : ∀ q : Nat, q ≠ gad G a → (H.setIfInBounds (gad G a) (arrV (gA G 2) n1 (fun j => .int (f9 j))))[q]? = H[q]? := fun q hq => by simp [Array.getElem?_setIfInBounds, Ne.symm hq]
  have hA9 := gAA_of hH hs9
  obtain ⟨t9, a1, b1⟩ := kk G p l e R s m args below meth c Z (H.setIfInBounds (gad G a) (arrV (gA G 2) n1 (fun j => .int (f9 j)))) _ lsR kc nc C hR (rI_copy_put hH hs1 (by simp [Array.getElem?_setIfInBounds, hlt]) (by simp) oq) ⟨by simp; exact hSS.1, fun q g1 g2 => by
      rw [oq q (fun e => g2 (by rw [e]; exact hA9))]
      exact hSS.2.1 q g1 g2, fun q hq => by
      rcases List.mem_append.mp hq with h | h
      · exact hSS.2.2 q h
      · obtain ⟨z, -, hz⟩ := List.mem_map.mp h
        rw [← hz]
        exact hA9⟩ hl he _ hheap X'
  exact ⟨t9, step t9 a1, b1⟩
end QA
