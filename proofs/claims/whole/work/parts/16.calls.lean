/-! ===== the lighter logic: a method's entry and end, calls ===== -/
def entL : List Value → List (Option Value)
  | [] => []
  | v :: vs => if v.category = 2 then some v :: none :: entL vs else some v :: entL vs
theorem entL_len (G : GC) : ∀ vs : List Value, (lg_sl (vs.map (vm G))).length = (entL vs).length
  | [] => rfl
  | v :: vs => by
    have ih := entL_len G vs
    unfold lg_sl at ih ⊢
    simp only [List.map_cons, List.flatMap_cons, entL, vm_cat, List.length_append, ih]
    split <;> simp <;> omega
theorem entL_args (G : GC) : ∀ (vs : List Value) (k i : Nat) (v : Value), (entL vs)[i]? = some (some v) → (k + i, vm G v) ∈ lv_args k (vs.map (vm G))
  | [], k, i, v, h => by simp [entL] at h
  | w :: vs, k, i, v, h => by
    simp only [List.map_cons, lv_args, vm_cat]
    by_cases hc : w.category = 2
    · rw [if_pos hc]
      simp only [entL, if_pos hc] at h
      match i, h with
      | 0, h => simp at h; subst h; exact List.mem_cons_self
      | 1, h => simp at h
      | i + 2, h =>
        have h1 := entL_args G vs (k + 2) i v (by simpa using h)
        rw [show k + (i + 2) = k + 2 + i by omega]
        exact List.mem_cons_of_mem _ h1
    · rw [if_neg hc]
      simp only [entL, if_neg hc] at h
      match i, h with
      | 0, h => simp at h; subst h; exact List.mem_cons_self
      | i + 1, h =>
        have h1 := entL_args G vs (k + 1) i v (by simpa using h)
        rw [show k + (i + 1) = k + 1 + i by omega]
        exact List.mem_cons_of_mem _ h1
theorem va_S.call1 {A : Nat → Prop} {H0 H : Heap} {locs L : List Loc} {st t : State} (hS : va_S A H0 H locs) (h0 : st.heap = H) (hF : va_F A st t) (hL : ∀ q ∈ L, A q.base) : va_S A H0 t.heap (locs ++ L) := by
  obtain ⟨f1, f2⟩ := hF
  rw [h0] at f1 f2
  refine ⟨Nat.le_trans hS.1 f1, fun q h1 h2 => (f2 q (Nat.lt_of_lt_of_le h1 hS.1) h2).trans (hS.2.1 q h1 h2), fun q hq => ?_⟩
  rcases List.mem_append.mp hq with h | h
  · exact hS.2.2 q h
  · exact hL q h
theorem cm_of {M : MI} {d mc ms : Nat} {as : List Value} {h : MH} {Q : Option Value → MH → Prop} (ls : List (Option Value)) (hX : mX M = noX) (hy : plainName (mN M).cls = true) (hle : (entL as).length ≤ mL M) (hls : ls = entL as ++ List.replicate (mL M - (entL as).length) none) (hw : Wm M d mc ms 0 ls [] h Q) : Cm M d mc ms as h Q := by
  intro G l
  refine Met.ofW (cc := mB M) (maxL := mL M) (ret := mR M) hy rfl ?_
  intro p e s m args below meth c s₁ B hml hv
  obtain ⟨rfl, hH, hK, hkS, hb0⟩ := hv
  have hts := atoms_spec (ws := wsM M) B.pre
  have hown : s.vm.findClass (mN M).cls = some m.cls := findClass_of_methodNamed B.named
  have hname : meth.name = (mN M).name := (name_of_methodNamed B.named B.method).1
  have hl := lv_entry (as.map (vm G)) (n := mL M) (by rw [entL_len]; exact hle)
  rw [lg_entry_eq]
  generalize (lg_sl (as.map (vm G)) ++ List.replicate (mL M - (lg_sl (as.map (vm G))).length) Slot.unset).toArray = lsR at hl ⊢
  have hlo : lsOK G ls lsR (mL M) := by
    refine ⟨hl.1, hl.2.1, fun i v hv => ?_⟩
    rw [hls] at hv
    by_cases hi : i < (entL as).length
    · rw [List.getElem?_append_left hi] at hv
      have h1 := entL_args G as 0 i v hv
      have h2 := hl.2.2 _ h1
      rw [Nat.zero_add] at h2
      exact h2
    · rw [List.getElem?_append_right (by omega)] at hv
      have h1 := List.mem_of_getElem? hv
      rw [List.mem_replicate] at h1
      cases h1.2
  refine hw G p l e (rmR d mc ms) s m _ below meth c _ s.heap [] lsR 0 0 ⟨B.exec, B.bytes, hml, hown, fun w hw => hts w (List.mem_cons_of_mem _ hw), hK, hkS, hname, hb0, by rw [hX]; exact trivial⟩ ⟨Nat.le_refl _, Nat.le_refl _, by show 0 + mc ≤ mc; omega, by show 0 + ms ≤ ms; omega⟩ hH va_S.rf hlo ?_
  intro v h' H' locs' k' n' pc' lsR' i hq hH' hS' hk' hn' hd hi
  refine W.widen (k := mc) (n := ms) (by omega) (by omega) ?_
  have hr := B.returns
  have hend : ∀ t : State, t.heap = H' → s.WarmedH t.vm → qcM G Q (as.map (vm G)).toArray s (.returned (v.map (vm G))) t := fun t ht _ => ⟨v, h', rfl, hq, by rw [ht]; exact hH', hS'.F ht⟩
  rcases hi with ⟨rfl, h1, rfl⟩ | ⟨x, rfl, rfl, h1⟩ | ⟨x, rfl, rfl, h1⟩ | ⟨r, rfl, rfl, h1⟩
  · exact W.vret B.exec B.bytes (hr.trans h1) hend hS'.2.2 hd
  · obtain ⟨ty, h1, h2⟩ := h1
    exact W.zret B.exec B.bytes (hr.trans h1) h2 hend hS'.2.2 hd
  · exact W.lret B.exec B.bytes (hr.trans h1) hend hS'.2.2 hd
  · rcases h1 with ⟨n, h1⟩ | ⟨n, h1⟩
    · exact W.aret (v := vm G (fromR r)) B.exec B.bytes (hr.trans h1) (Or.inl ⟨n, rfl⟩) (by cases r with | none => exact Or.inl rfl | some x => exact Or.inr ⟨_, rfl⟩) hend hS'.2.2 hd
    · exact W.aret (v := vm G (fromR r)) B.exec B.bytes (hr.trans h1) (Or.inr ⟨n, rfl⟩) (by cases r with | none => exact Or.inl rfl | some x => exact Or.inr ⟨_, rfl⟩) hend hS'.2.2 hd
theorem pcM_blind (G : GC) (as : List Value) (h : MH) : FrameBlind (pcM G as h) := by
  intro a U g mk hp
  obtain ⟨h1, h2, h3, h4, h5⟩ := hp
  exact ⟨h1, h2, h3.same rfl, h4.moved (Vm.Alike.refl _), h5⟩
theorem pcM_at {G : GC} {as : List Value} {h : MH} {s : State} {H : Heap} {locs : List Loc} (hK : kK G s) (hkS : kS G s s.heap) (hb0 : gB G ≤ s.heap.size) (hH : relH G h H) (hS : va_S (gAA G) s.heap H locs) : ∀ U : State, U.heap = H → s.WarmedH U.vm → pcM G as h (as.map (vm G)).toArray U := by
  intro U hU hW
  refine ⟨rfl, by rw [hU]; exact hH, hK.warm hW, ?_, by rw [hU]; exact Nat.le_trans hb0 hS.1⟩
  rw [hU]
  exact (hkS.kept (fun a h1 h2 => hS.2.1 a h1 h2)).moved hW.alike
/-- what must be in the tables of a callee -/
def mOK (M : MI) (n : Nat) : Prop := Cond.code (mN M) (mB M) (mL M) (mR M) ∈ GW ∧ Cond.initialized (mN M).cls ∈ GW ∧ ((mN M).cls ≠ "java/lang/invoke/MethodHandle" ∧ (mN M).cls ≠ "java/lang/invoke/VarHandle" ∧ (parseMethodDescriptor (mN M).desc).map (fun d => d.parameters.length) = some n) ∧ mL M ≤ 40
theorem mOK.ws {M : MI} {n : Nat} (h : mOK M n) : ∀ w ∈ wsM M, w ∈ GW := by
  intro w hw
  rcases List.mem_cons.mp hw with rfl | hw
  · exact h.1
  · exact hw
theorem gw_self : GoodIn GW GW := fun w hw => ⟨hw, good_of_word (List.mem_filter.mp hw).2⟩
section QC
variable {M : MI} {d b t pc : Nat} {ls : List (Option Value)} {st : List Value} {h : MH} {Q Q' : Option Value → MH → Prop}
/-- behind a call -/
theorem q_back {M' : MI} {mc ms : Nat} {G : GC} {p : Program} {l : Launch} {e : Env} {R : Room} {s : State} {m : MethodId} {args : Array Value} {below : List Frame} {meth : Method} {c : Code} {Z : State → Prop} {H : Heap} {locs : List Loc} {lsR : Array Slot} {k n : Nat} {stk : List Value} {a : Array Value}
    (hrun : va_Run p l e R s m args below meth c H locs k n mc ms (F0 m pc lsR (stk.map (vm G))) (st.map (vm G)) (qcM G Q' a) (gAA G)) (kk : ∀ v h', Q' v h' → Wm M d b t (pc + 3) ls (v.toList ++ st) h' Q)
    (C : cX G M p s m args meth c) (hR : d ≤ R.frames ∧ 64 * d ≤ R.locals ∧ k + (b + mc) ≤ R.cells ∧ n + (t + ms) ≤ R.slots) (hS : va_S (gAA G) s.heap H locs) (hl : lsOK G ls lsR (mL M))
    (he : ∀ (v : Option Value) (h' : MH) (H' : Heap) (locs' : List Loc) (k' n' pc' : Nat) (lsR' : Array Slot) (i : Instr), Q v h' → relH G h' H' → va_S (gAA G) s.heap H' locs' → k' ≤ k + (b + mc) → n' ≤ n + (t + ms) → decode (mB M) pc' = .ok (i, 1) → retI (mR M) v i → W p l e R s m args below meth c H' locs' k' n' Z (F0 m pc' lsR' ((v.map (vm G)).toList))) :
    W p l e R s m args below meth c H locs k n Z (F0 m pc lsR (stk.map (vm G))) := by
  intro T hT X
  obtain ⟨v, st₀, t1, T', L, h0, X', hL, e1, e2, ⟨v', h', hv, hq, hH', hF⟩, hgo⟩ := hrun T hT X
  have hv : v = v'.map (vm G) := Outcome.returned.inj hv
  have k2 := kk v' h' hq G p l e R s m args below meth c Z t1.heap (locs ++ L) lsR (k + mc) (n + ms) C ⟨hR.1, hR.2.1, by omega, by omega⟩ hH' (hS.call1 h0 hF hL) hl (fun v h' H' locs' k' n' pc' lsR' i q r1 r2 r3 r4 => he v h' H' locs' k' n' pc' lsR' i q r1 r2 (by omega) (by omega))
  have es : (v'.toList ++ st).map (vm G) = v.toList ++ st.map (vm G) := by rw [hv]; cases v' <;> rfl
  rw [es] at k2
  obtain ⟨t2, a1, b1⟩ := k2 T' e1 X'
  exact ⟨t2, hgo t2 a1, b1⟩
theorem q_callV {M' : MI} {i d' mc ms a nA cR : Nat} {q : vw_C} {As stk : List Value} (hC : Cm M' d' mc ms (.ref a :: As) h Q') (hlk : Cond.methodLink (mN M).cls i (mN M') ∈ GW) (hok : mOK M' nA) (hiv : Cond.instanceMethod (mN M') ∈ GW ∧ Cond.selects (mN M').cls (mN M') (mN M') ∈ GW) (hn : As.length = nA)
    (hs : hS h a = (1, cR)) (hq : vwCl[cR]? = some q ∧ q.1 = (mN M').cls) (hdd : d' < d) (hst : stk = As.reverse ++ .ref a :: st) (hsum : (st.map fun v => v.category).sum ≤ 8) (hd : decode (mB M) pc = .ok (.invokevirtual i, 3))
    (kk : ∀ v h', Q' v h' → Wm M d b t (pc + 3) ls (v.toList ++ st) h' Q) : Wm M d (b + mc) (t + ms) pc ls stk h Q := by
  intro G p l e R s m args below meth c Z H locs lsR k n C hR hH hS hl he
  obtain ⟨hx, hb, hml, hown, hts, hK, hkS, hnm, hb0, -⟩ := id C
  obtain ⟨q', cell, o1, o2, o3, o4, o5⟩ := hH.obj hs
  cases hq.1.symm.trans o1
  have hK1 := hK.1 cR q hq.1
  have hsm : ∀ st : List Value, ((st.map (vm G)).map fun v => v.category) = st.map fun v => v.category := fun st => by rw [List.map_map]; exact List.map_congr_left (fun v _ => vm_cat G v)
  refine q_back (M' := M') (va_runV (Ts := GW) (own := (mN M).cls) (C := (mN M').cls) (index := i) (b := gad G a) (As := As.map (vm G)) (bytes := mB M') (maxL := mL M') (ret := mR M') (ws := wsM M') (n := nA) (nL := mL M) ⟨hx, hb, hml, hown, hts⟩ (hC G l) ⟨callB_of nA hts (gw_good hok.ws (fun w h => h)) rfl rfl rfl (hts _ hok.2.1) (hts _ hlk) hok.2.2.1 ?_, hts _ hiv.1, hts _ hiv.2⟩ ⟨pcM_blind G _ h, ⟨cell, o2, by rw [o4]; rfl, by rw [o3, ← hq.2]; exact hK1.2.1⟩, pcM_at (as := .ref a :: As) hK hkS hb0 hH hS⟩ rfl (by rw [List.length_map]; exact hn) hl.1 (by rw [hst]; simp [List.map_append, List.map_reverse, vm]) (lv_room (by rw [hsm]; exact hsum)) hd ⟨by omega, by omega⟩) kk C hR hS hl he
  have h40 := hok.2.2.2
  exact ⟨by show d' + 1 ≤ R.frames; omega, by show 8 + (mL M' + 11) + 64 * d' ≤ R.locals; omega⟩
theorem q_callS {M' : MI} {i d' mc ms nA : Nat} {As stk : List Value} (hC : Cm M' d' mc ms As h Q') (hlk : Cond.methodLink (mN M).cls i (mN M') ∈ GW) (hok : mOK M' nA) (hst' : Cond.static (mN M') ∈ GW) (hn : As.length = nA)
    (hdd : d' < d) (hst : stk = As.reverse ++ st) (hsum : (st.map fun v => v.category).sum ≤ 8) (hd : decode (mB M) pc = .ok (.invokestatic i, 3))
    (kk : ∀ v h', Q' v h' → Wm M d b t (pc + 3) ls (v.toList ++ st) h' Q) : Wm M d (b + mc) (t + ms) pc ls stk h Q := by
  intro G p l e R s m args below meth c Z H locs lsR k n C hR hH hS hl he
  obtain ⟨hx, hb, hml, hown, hts, hK, hkS, hnm, hb0, -⟩ := id C
  have hsm : ∀ st : List Value, ((st.map (vm G)).map fun v => v.category) = st.map fun v => v.category := fun st => by rw [List.map_map]; exact List.map_congr_left (fun v _ => vm_cat G v)
  refine q_back (M' := M') (va_runS (Ts := GW) (own := (mN M).cls) (index := i) (As := As.map (vm G)) (bytes := mB M') (maxL := mL M') (ret := mR M') (ws := wsM M') (n := nA) (nL := mL M) ⟨hx, hb, hml, hown, hts⟩ (hC G l) ⟨callB_of nA hts (gw_good hok.ws (fun w h => h)) rfl rfl rfl (hts _ hok.2.1) (hts _ hlk) hok.2.2.1 ?_, hts _ hst'⟩ ⟨pcM_blind G _ h, pcM_at (as := As) hK hkS hb0 hH hS⟩ rfl (by rw [List.length_map]; exact hn) hl.1 (by rw [hst]; simp [List.map_append, List.map_reverse]) (lv_room (by rw [hsm]; exact hsum)) hd ⟨by omega, by omega⟩) kk C hR hS hl he
  have h40 := hok.2.2.2
  exact ⟨by show d' + 1 ≤ R.frames; omega, by show 8 + (mL M' + 11) + 64 * d' ≤ R.locals; omega⟩
theorem q_callI {M' : MI} {i d' mc ms a nA : Nat} {As stk : List Value} (hC : Cm M' d' mc ms (.ref a :: As) h Q') (hret : mR M' = none) (hlk : Cond.methodLink (mN M).cls i (mN M') ∈ GW) (hok : mOK M' nA) (hiv : Cond.instanceMethod (mN M') ∈ GW ∧ (mN M').name = "<init>") (hn : As.length = nA)
    (hdd : d' < d) (hst : stk = As.reverse ++ .ref a :: st) (hsum : (st.map fun v => v.category).sum ≤ 8) (hd : decode (mB M) pc = .ok (.invokespecial i, 3))
    (kk : ∀ v h', Q' v h' → Wm M d b t (pc + 3) ls (v.toList ++ st) h' Q) : Wm M d (b + mc) (t + ms) pc ls stk h Q := by
  intro G p l e R s m args below meth c Z H locs lsR k n C hR hH hS hl he
  obtain ⟨hx, hb, hml, hown, hts, hK, hkS, hnm, hb0, -⟩ := id C
  have hsm : ∀ st : List Value, ((st.map (vm G)).map fun v => v.category) = st.map fun v => v.category := fun st => by rw [List.map_map]; exact List.map_congr_left (fun v _ => vm_cat G v)
  refine q_back (M' := M') (va_runI (Ts := GW) (own := (mN M).cls) (index := i) (b := gad G a) (As := As.map (vm G)) (bytes := mB M') (maxL := mL M') (ws := wsM M') (n := nA) (nL := mL M) ⟨hx, hb, hml, hown, hts⟩ (hC G l) ⟨callB_of nA hts (gw_good hok.ws (fun w h => h)) (by unfold wsM; rw [hret]) rfl rfl (hts _ hok.2.1) (hts _ hlk) hok.2.2.1 ?_, hiv.2, hts _ hiv.1⟩ ⟨pcM_blind G _ h, pcM_at (as := .ref a :: As) hK hkS hb0 hH hS⟩ rfl (by rw [List.length_map]; exact hn) hl.1 (by rw [hst]; simp [List.map_append, List.map_reverse, vm]) (lv_room (by rw [hsm]; exact hsum)) hd ⟨by omega, by omega⟩) kk C hR hS hl he
  have h40 := hok.2.2.2
  exact ⟨by show d' + 1 ≤ R.frames; omega, by show 8 + (mL M' + 11) + 64 * d' ≤ R.locals; omega⟩
/-- constructors and static methods of a nest mate that are private -/
theorem q_callIN {M' : MI} {i d' mc ms a nA : Nat} {host : String} {As stk : List Value} (hC : Cm M' d' mc ms (.ref a :: As) h Q') (hret : mR M' = none) (hlk : ((mN M).cls, i, mN M', host) ∈ nestW) (hok : mOK M' nA) (hiv : Cond.instanceMethod (mN M') ∈ GW ∧ (mN M').name = "<init>") (hn : As.length = nA)
    (hdd : d' < d) (hst : stk = As.reverse ++ .ref a :: st) (hsum : (st.map fun v => v.category).sum ≤ 8) (hd : decode (mB M) pc = .ok (.invokespecial i, 3))
    (kk : ∀ v h', Q' v h' → Wm M d b t (pc + 3) ls (v.toList ++ st) h' Q) : Wm M d (b + mc) (t + ms) pc ls stk h Q := by
  intro G p l e R s m args below meth c Z H locs lsR k n C hR hH hS hl he
  obtain ⟨hx, hb, hml, hown, hts, hK, hkS, hnm, hb0, -⟩ := id C
  have hsm : ∀ st : List Value, ((st.map (vm G)).map fun v => v.category) = st.map fun v => v.category := fun st => by rw [List.map_map]; exact List.map_congr_left (fun v _ => vm_cat G v)
  refine q_back (M' := M') (va_runIN (Ts := GW) (own := (mN M).cls) (index := i) (host := host) (b := gad G a) (As := As.map (vm G)) (bytes := mB M') (maxL := mL M') (ws := wsM M') (n := nA) (nL := mL M) ⟨hx, hb, hml, hown, hts⟩ (hC G l) ⟨va_cnB nA hts (gw_good hok.ws (fun w h => h)) (by unfold wsM; rw [hret]) rfl rfl (hK.2.2.1 _ hlk) (hts _ hok.2.1) hok.2.2.1 ?_, hiv.2, hts _ hiv.1⟩ ⟨pcM_blind G _ h, pcM_at (as := .ref a :: As) hK hkS hb0 hH hS⟩ rfl (by rw [List.length_map]; exact hn) hl.1 (by rw [hst]; simp [List.map_append, List.map_reverse, vm]) (lv_room (by rw [hsm]; exact hsum)) hd ⟨by omega, by omega⟩) kk C hR hS hl he
  have h40 := hok.2.2.2
  exact ⟨by show d' + 1 ≤ R.frames; omega, by show 8 + (mL M' + 11) + 64 * d' ≤ R.locals; omega⟩
theorem q_callSN {M' : MI} {i d' mc ms nA : Nat} {host : String} {As stk : List Value} (hC : Cm M' d' mc ms As h Q') (hlk : ((mN M).cls, i, mN M', host) ∈ nestW) (hok : mOK M' nA) (hst' : Cond.static (mN M') ∈ GW) (hn : As.length = nA)
    (hdd : d' < d) (hst : stk = As.reverse ++ st) (hsum : (st.map fun v => v.category).sum ≤ 8) (hd : decode (mB M) pc = .ok (.invokestatic i, 3))
    (kk : ∀ v h', Q' v h' → Wm M d b t (pc + 3) ls (v.toList ++ st) h' Q) : Wm M d (b + mc) (t + ms) pc ls stk h Q := by
  intro G p l e R s m args below meth c Z H locs lsR k n C hR hH hS hl he
  obtain ⟨hx, hb, hml, hown, hts, hK, hkS, hnm, hb0, -⟩ := id C
  have hsm : ∀ st : List Value, ((st.map (vm G)).map fun v => v.category) = st.map fun v => v.category := fun st => by rw [List.map_map]; exact List.map_congr_left (fun v _ => vm_cat G v)
  refine q_back (M' := M') (va_runSN (Ts := GW) (own := (mN M).cls) (index := i) (host := host) (As := As.map (vm G)) (bytes := mB M') (maxL := mL M') (ret := mR M') (ws := wsM M') (n := nA) (nL := mL M) ⟨hx, hb, hml, hown, hts⟩ (hC G l) ⟨va_cnB nA hts (gw_good hok.ws (fun w h => h)) rfl rfl rfl (hK.2.2.1 _ hlk) (hts _ hok.2.1) hok.2.2.1 ?_, hts _ hst', trivial⟩ ⟨pcM_blind G _ h, pcM_at (as := As) hK hkS hb0 hH hS⟩ rfl (by rw [List.length_map]; exact hn) hl.1 (by rw [hst]; simp [List.map_append, List.map_reverse]) (lv_room (by rw [hsm]; exact hsum)) hd ⟨by omega, by omega⟩) kk C hR hS hl he
  have h40 := hok.2.2.2
  exact ⟨by show d' + 1 ≤ R.frames; omega, by show 8 + (mL M' + 11) + 64 * d' ≤ R.locals; omega⟩
/-- java.lang.Object's constructor -/
theorem q_objI {i a : Nat} (hlk : Cond.methodLink (mN M).cls i objectInit ∈ GW) (hin : Cond.instanceMethod objectInit ∈ GW) (hco : Cond.code objectInit ⟨#[0xb1]⟩ 1 none ∈ GW) (hd1 : 1 ≤ d) (hsum : (st.map fun v => v.category).sum ≤ 8) (hd : decode (mB M) pc = .ok (.invokespecial i, 3)) (kk : Wm M d b t (pc + 3) ls st h Q) : Wm M d b t pc ls (.ref a :: st) h Q := by
  intro G p l e R s m args below meth c Z H locs lsR k n C hR hH hS hl he
  obtain ⟨hx, hb, hml, hown, hts, hK, hkS, hnm, hb0, -⟩ := id C
  have hsm : ∀ st : List Value, ((st.map (vm G)).map fun v => v.category) = st.map fun v => v.category := fun st => by rw [List.map_map]; exact List.map_congr_left (fun v _ => vm_cat G v)
  refine W.objInit hx hb hown (hts _ hlk) (hts _ hin) (hts _ hco) rfl (by rw [hml]; exact hl.1) rfl hd (by omega) ?_ (kk G p l e R s m args below meth c Z H locs lsR k n C hR hH hS hl he)
  have h1 := lv_room (m := m) (pc := pc) (ls := lsR) (rest := []) (st := st.map (vm G)) (by rw [hsm]; exact hsum)
  have h2 : 2 * (F0 m pc lsR (List.map (vm G) (Value.ref a :: st))).monitorRoom = 2 * (F0 m pc lsR []).monitorRoom := rfl
  omega
end QC
