/-! ===== rows of the lighter logic: constants, locals, arithmetic, branches ===== -/
section QR
variable {M : MI} {d b t pc : Nat} {ls : List (Option Value)} {st : List Value} {h : MH} {Q : Option Value → MH → Prop}
theorem q_pure {pc' : Nat} {st' : List Value}
    (hrow : ∀ (G : GC) (p : Program) (l : Launch) (e : Env) (R : Room) (s : State) (m : MethodId) (args : Array Value) (below : List Frame) (meth : Method) (c : Code) (Z : State → Prop) (H : Heap) (locs : List Loc) (lsR : Array Slot) (k n : Nat), cX G M p s m args meth c → p.tables.exec = Jvm.exec → c.code = mB M → lsOK G ls lsR (mL M) →
      W p l e R s m args below meth c H locs k n Z (F0 m pc' lsR (st'.map (vm G))) → W p l e R s m args below meth c H locs k n Z (F0 m pc lsR (st.map (vm G))))
    (kk : Wm M d b t pc' ls st' h Q) : Wm M d b t pc ls st h Q :=
  fun G p l e R s m args below meth c Z H locs lsR k n C hR hH hS hl he => hrow G p l e R s m args below meth c Z H locs lsR k n C C.1 C.2.1 hl (kk G p l e R s m args below meth c Z H locs lsR k n C hR hH hS hl he)
theorem q_weak {ls' : List (Option Value)} (hw : ∀ (i : Nat) (v : Value), ls'[i]? = some (some v) → ls[i]? = some (some v)) (kk : Wm M d b t pc ls' st h Q) : Wm M d b t pc ls st h Q :=
  fun G p l e R s m args below meth c Z H locs lsR k n C hR hH hS hl he => kk G p l e R s m args below meth c Z H locs lsR k n C hR hH hS ⟨hl.1, hl.2.1, fun i v hv => hl.2.2 i v (hw i v hv)⟩ he
theorem q_post {Q' : Option Value → MH → Prop} (hq : ∀ v h', Q' v h' → Q v h') (kk : Wm M d b t pc ls st h Q') : Wm M d b t pc ls st h Q :=
  fun G p l e R s m args below meth c Z H locs lsR k n C hR hH hS hl he => kk G p l e R s m args below meth c Z H locs lsR k n C hR hH hS hl (fun v h' H' locs' k' n' pc' lsR' i q => he v h' H' locs' k' n' pc' lsR' i (hq v h' q))
theorem q_deep {d' : Nat} (hd : d' ≤ d) (kk : Wm M d' b t pc ls st h Q) : Wm M d b t pc ls st h Q :=
  fun G p l e R s m args below meth c Z H locs lsR k n C hR hH hS hl he => kk G p l e R s m args below meth c Z H locs lsR k n C ⟨Nat.le_trans hd hR.1, Nat.le_trans (Nat.mul_le_mul_left 64 hd) hR.2.1, hR.2.2⟩ hH hS hl he
theorem q_room {b' t' : Nat} (hb : b' ≤ b) (ht : t' ≤ t) (kk : Wm M d b' t' pc ls st h Q) : Wm M d b t pc ls st h Q :=
  fun G p l e R s m args below meth c Z H locs lsR k n C hR hH hS hl he => kk G p l e R s m args below meth c Z H locs lsR k n C ⟨hR.1, hR.2.1, Nat.le_trans (Nat.add_le_add_left hb k) hR.2.2.1, Nat.le_trans (Nat.add_le_add_left ht n) hR.2.2.2⟩ hH hS hl (fun v h' H' locs' k' n' pc' lsR' i q r1 r2 r3 r4 => he v h' H' locs' k' n' pc' lsR' i q r1 r2 (Nat.le_trans r3 (Nat.add_le_add_left hb k)) (Nat.le_trans r4 (Nat.add_le_add_left ht n)))
theorem q_pcEq {pc' : Nat} (hp : pc' = pc) (kk : Wm M d b t pc' ls st h Q) : Wm M d b t pc ls st h Q := hp ▸ kk

theorem q_iconst {n : Int} {v : Int32} (hd : decode (mB M) pc = .ok (.iconst n, 1)) (hv : Int32.ofInt n = v) (kk : Wm M d b t (pc + 1) ls (.int v :: st) h Q) : Wm M d b t pc ls st h Q := q_pure (fun _ _ _ _ _ _ _ _ _ _ _ _ _ _ _ _ _ _ hx hb _ k => lv_iconst hx hb hd hv k) kk
theorem q_bipush {n : Int} {v : Int32} (hd : decode (mB M) pc = .ok (.bipush n, 2)) (hv : (Int8.ofInt n).toInt32 = v) (kk : Wm M d b t (pc + 2) ls (.int v :: st) h Q) : Wm M d b t pc ls st h Q := q_pure (fun _ _ _ _ _ _ _ _ _ _ _ _ _ _ _ _ _ _ hx hb _ k => lv_bipush hx hb hd hv k) kk
theorem q_sipush {n : Int} {v : Int32} (hd : decode (mB M) pc = .ok (.sipush n, 3)) (hv : (Int16.ofInt n).toInt32 = v) (kk : Wm M d b t (pc + 3) ls (.int v :: st) h Q) : Wm M d b t pc ls st h Q := q_pure (fun _ _ _ _ _ _ _ _ _ _ _ _ _ _ _ _ _ _ hx hb _ k => lv_sipush hx hb hd hv k) kk
theorem q_lconst {n : Fin 2} {v : Int64} (hd : decode (mB M) pc = .ok (.lconst n, 1)) (hv : Int64.ofNat (n : Nat) = v) (kk : Wm M d b t (pc + 1) ls (.long v :: st) h Q) : Wm M d b t pc ls st h Q := q_pure (fun _ _ _ _ _ _ _ _ _ _ _ _ _ _ _ _ _ _ hx hb _ k => lv_lconst hx hb hd hv k) kk
theorem q_null (hd : decode (mB M) pc = .ok (.aconst_null, 1)) (kk : Wm M d b t (pc + 1) ls (.null :: st) h Q) : Wm M d b t pc ls st h Q := q_pure (fun _ _ _ _ _ _ _ _ _ _ _ _ _ _ _ _ _ _ hx hb _ k => lv_null hx hb hd k) kk
theorem q_ldc {i : Nat} {v : Int32} (hc : Cond.constant (mN M).cls i v ∈ GW) (hd : decode (mB M) pc = .ok (.ldc i, 2)) (kk : Wm M d b t (pc + 2) ls (.int v :: st) h Q) : Wm M d b t pc ls st h Q := q_pure (fun _ _ _ _ _ _ _ _ _ _ _ _ _ _ _ _ _ C hx hb _ k => lv_ldc hx hb C.2.2.2.1 (C.2.2.2.2.1 _ hc) hd k) kk
theorem q_ldcw {i : Nat} {v : Int32} (hc : Cond.constant (mN M).cls i v ∈ GW) (hd : decode (mB M) pc = .ok (.ldc_w i, 3)) (kk : Wm M d b t (pc + 3) ls (.int v :: st) h Q) : Wm M d b t pc ls st h Q := q_pure (fun _ _ _ _ _ _ _ _ _ _ _ _ _ _ _ _ _ C hx hb _ k => lv_ldcw hx hb C.2.2.2.1 (C.2.2.2.2.1 _ hc) hd k) kk
theorem q_ldc2 {i : Nat} {v : Int64} (hc : Cond.constantLong (mN M).cls i v ∈ GW) (hd : decode (mB M) pc = .ok (.ldc2_w i, 3)) (kk : Wm M d b t (pc + 3) ls (.long v :: st) h Q) : Wm M d b t pc ls st h Q := q_pure (fun _ _ _ _ _ _ _ _ _ _ _ _ _ _ _ _ _ C hx hb _ k => lv_ldc2 hx hb C.2.2.2.1 (C.2.2.2.2.1 _ hc) hd k) kk
theorem q_ldcS {i x : Nat} {tx : String} (hc : ((mN M).cls, i, tx, x) ∈ strT) (hx64 : x < 64) (hd : decode (mB M) pc = .ok (.ldc i, 2)) (kk : Wm M d b t (pc + 2) ls (.ref x :: st) h Q) : Wm M d b t pc ls st h Q := q_pure (fun G _ _ _ _ _ _ _ _ _ _ _ _ _ _ _ _ C hx hb _ k => by
  refine va_ldcS hx hb C.2.2.2.1 (C.2.2.2.2.2.1.2.2.2.1 _ hc) hd ?_
  have e : gad G x = gK G x := by unfold gad; rw [if_pos hx64]
  have k2 := k
  simp only [List.map, vm, e] at k2
  exact k2) kk
theorem q_iload {i : Nat} {x : Int32} (hd : decode (mB M) pc = .ok (.iload i, 2)) (hl : ls[i]? = some (some (.int x))) (kk : Wm M d b t (pc + 2) ls (.int x :: st) h Q) : Wm M d b t pc ls st h Q := q_pure (fun _ _ _ _ _ _ _ _ _ _ _ _ _ _ _ _ _ _ hx hb ho k => lv_iload hx hb hd (ho.2.2 i _ hl) k) kk
theorem q_iload_n {kf : Fin 4} {x : Int32} (hd : decode (mB M) pc = .ok (.iload_n kf, 1)) (hl : ls[(kf : Nat)]? = some (some (.int x))) (kk : Wm M d b t (pc + 1) ls (.int x :: st) h Q) : Wm M d b t pc ls st h Q := q_pure (fun _ _ _ _ _ _ _ _ _ _ _ _ _ _ _ _ _ _ hx hb ho k => lv_iload_n hx hb hd rfl (ho.2.2 _ _ hl) k) kk
theorem q_lload {i : Nat} {x : Int64} (hd : decode (mB M) pc = .ok (.lload i, 2)) (hl : ls[i]? = some (some (.long x))) (kk : Wm M d b t (pc + 2) ls (.long x :: st) h Q) : Wm M d b t pc ls st h Q := q_pure (fun _ _ _ _ _ _ _ _ _ _ _ _ _ _ _ _ _ _ hx hb ho k => lv_lload hx hb hd (ho.2.2 i _ hl) k) kk
theorem q_lload_n {kf : Fin 4} {x : Int64} (hd : decode (mB M) pc = .ok (.lload_n kf, 1)) (hl : ls[(kf : Nat)]? = some (some (.long x))) (kk : Wm M d b t (pc + 1) ls (.long x :: st) h Q) : Wm M d b t pc ls st h Q := q_pure (fun _ _ _ _ _ _ _ _ _ _ _ _ _ _ _ _ _ _ hx hb ho k => lv_lload_n hx hb hd rfl (ho.2.2 _ _ hl) k) kk
theorem q_aload {i : Nat} {r : Option Nat} (hd : decode (mB M) pc = .ok (.aload i, 2)) (hl : ls[i]? = some (some (fromR r))) (kk : Wm M d b t (pc + 2) ls (fromR r :: st) h Q) : Wm M d b t pc ls st h Q := by
  cases r with
  | none => exact q_pure (fun _ _ _ _ _ _ _ _ _ _ _ _ _ _ _ _ _ _ hx hb ho k => lv_aloadN hx hb hd (ho.2.2 i _ hl) k) kk
  | some x => exact q_pure (fun _ _ _ _ _ _ _ _ _ _ _ _ _ _ _ _ _ _ hx hb ho k => lv_aload hx hb hd (ho.2.2 i _ hl) k) kk
theorem q_aload_n {kf : Fin 4} {r : Option Nat} (hd : decode (mB M) pc = .ok (.aload_n kf, 1)) (hl : ls[(kf : Nat)]? = some (some (fromR r))) (kk : Wm M d b t (pc + 1) ls (fromR r :: st) h Q) : Wm M d b t pc ls st h Q := by
  cases r with
  | none => exact q_pure (fun _ _ _ _ _ _ _ _ _ _ _ _ _ _ _ _ _ _ hx hb ho k => lv_aload_nN hx hb hd rfl (ho.2.2 _ _ hl) k) kk
  | some x => exact q_pure (fun _ _ _ _ _ _ _ _ _ _ _ _ _ _ _ _ _ _ hx hb ho k => lv_aload_n hx hb hd rfl (ho.2.2 _ _ hl) k) kk
theorem q_aloadr {i : Nat} {x : Nat} (hd : decode (mB M) pc = .ok (.aload i, 2)) (hl : ls[i]? = some (some (.ref x))) (kk : Wm M d b t (pc + 2) ls (.ref x :: st) h Q) : Wm M d b t pc ls st h Q := q_aload (r := some x) hd hl kk
theorem q_aload_nr {kf : Fin 4} {x : Nat} (hd : decode (mB M) pc = .ok (.aload_n kf, 1)) (hl : ls[(kf : Nat)]? = some (some (.ref x))) (kk : Wm M d b t (pc + 1) ls (.ref x :: st) h Q) : Wm M d b t pc ls st h Q := q_aload_n (r := some x) hd hl kk
def okSt (ls : List (Option Value)) : Nat → Bool
  | 0 => true
  | i + 1 => match ls[i]? with
    | some (some (.long _)) => false
    | some (some (.double _)) => false
    | _ => true
theorem okSt_spec {i j : Nat} {v : Value} (h : okSt ls i = true) (hv : ls[j]? = some (some v)) (hj : j + 1 = i) : ¬ v.category = 2 := by
  subst hj
  simp only [okSt, hv] at h
  cases v <;> simp [Value.category] at h ⊢
theorem vm_cat (G : GC) (v : Value) : (vm G v).category = v.category := by
  cases v <;> try rfl
  show (va_rf (gZ G)).category = 1
  cases gZ G <;> rfl
def lvL (G : GC) (ls : List (Option Value)) (n : Nat) : List (Nat × Value) := (List.range n).filterMap (fun j => (ls[j]?.getD none).map (fun v => (j, vm G v)))
theorem lvL_mem {G : GC} {n : Nat} {q : Nat × Value} : q ∈ lvL G ls n ↔ q.1 < n ∧ ∃ v, ls[q.1]? = some (some v) ∧ q.2 = vm G v := by
  unfold lvL
  rw [List.mem_filterMap]
  constructor
  · rintro ⟨j, hj, hq⟩
    rw [List.mem_range] at hj
    cases hl : ls[j]? with
    | none => rw [hl] at hq; simp at hq
    | some o =>
      cases o with
      | none => rw [hl] at hq; simp at hq
      | some v =>
        rw [hl] at hq
        simp at hq
        subst hq
        exact ⟨hj, v, hl, rfl⟩
  · rintro ⟨h1, v, h2, h3⟩
    exact ⟨q.1, List.mem_range.mpr h1, by rw [h2]; simp [← h3]⟩
theorem lsOK.has {G : GC} {lsR : Array Slot} {n : Nat} (ho : lsOK G ls lsR n) : lv_has lsR n (lvL G ls n) := by
  refine ⟨ho.1, ho.2.1, fun q hq => ?_⟩
  obtain ⟨-, v, h2, h3⟩ := lvL_mem.mp hq
  rw [h3]
  exact ho.2.2 _ _ h2
theorem lsOK.lt {G : GC} {lsR : Array Slot} {n i : Nat} {v : Value} (ho : lsOK G ls lsR n) (hv : ls[i]? = some (some v)) : i < n := by
  have h1 := (Array.getElem?_eq_some_iff.mp (ho.2.2 i v hv)).1
  rw [ho.1] at h1
  exact h1
theorem set_at {i j : Nat} {o : Option Value} {v : Value} (h : (ls.set i o)[j]? = some (some v)) : (j = i ∧ o = some v) ∨ (j ≠ i ∧ ls[j]? = some (some v)) := by
  by_cases hj : j = i
  · subst hj
    rw [List.getElem?_set] at h
    simp at h
    exact Or.inl ⟨rfl, h.2⟩
  · rw [List.getElem?_set_ne (Ne.symm hj)] at h
    exact Or.inr ⟨hj, h⟩
theorem st1 {G : GC} {lsR lsR' : Array Slot} {n i : Nat} {v : Value} (ho : lsOK G ls lsR n) (hok : okSt ls i = true) (hh : lv_has lsR' n ((i, vm G v) :: (lvL G ls n).filter (fun q => !(q.1 == i) && !(q.1 + 1 == i && q.2.category == 2)))) : lsOK G (ls.set i (some v)) lsR' n := by
  refine ⟨hh.1, hh.2.1, fun j w hw => ?_⟩
  rcases set_at hw with ⟨rfl, e⟩ | ⟨hj, hw⟩
  · cases e
    exact hh.2.2 _ List.mem_cons_self
  · refine hh.2.2 (j, vm G w) (List.mem_cons_of_mem _ (List.mem_filter.mpr ⟨lvL_mem.mpr ⟨ho.lt hw, w, hw, rfl⟩, ?_⟩))
    have h1 : ¬ (j == i) = true := by simpa using hj
    have h2 : ¬ (j + 1 == i && (vm G w).category == 2) = true := by
      intro q
      simp only [Bool.and_eq_true, beq_iff_eq] at q
      rw [vm_cat] at q
      exact okSt_spec hok hw q.1 q.2
    simp only [Bool.and_eq_true, Bool.not_eq_true', Bool.eq_false_iff]
    exact ⟨h1, h2⟩
theorem st2 {G : GC} {lsR lsR' : Array Slot} {n i : Nat} {v : Value} (ho : lsOK G ls lsR n) (hok : okSt ls i = true) (hh : lv_has lsR' n ((i, vm G v) :: (lvL G ls n).filter (fun q => !(q.1 == i) && (!(q.1 == i + 1) && !(q.1 + 1 == i && q.2.category == 2))))) : lsOK G ((ls.set i (some v)).set (i + 1) none) lsR' n := by
  refine ⟨hh.1, hh.2.1, fun j w hw => ?_⟩
  rcases set_at hw with ⟨-, e⟩ | ⟨hj1, hw⟩
  · cases e
  rcases set_at hw with ⟨rfl, e⟩ | ⟨hj, hw⟩
  · cases e
    exact hh.2.2 _ List.mem_cons_self
  · refine hh.2.2 (j, vm G w) (List.mem_cons_of_mem _ (List.mem_filter.mpr ⟨lvL_mem.mpr ⟨ho.lt hw, w, hw, rfl⟩, ?_⟩))
    have h1 : ¬ (j == i) = true := by simpa using hj
    have h3 : ¬ (j == i + 1) = true := by simpa using hj1
    have h2 : ¬ (j + 1 == i && (vm G w).category == 2) = true := by
      intro q
      simp only [Bool.and_eq_true, beq_iff_eq] at q
      rw [vm_cat] at q
      exact okSt_spec hok hw q.1 q.2
    simp only [Bool.and_eq_true, Bool.not_eq_true', Bool.eq_false_iff]
    exact ⟨h1, h3, h2⟩
theorem q_store {pc' : Nat} {st' : List Value} {ls' : List (Option Value)}
    (hrow : ∀ (G : GC) (p : Program) (l : Launch) (e : Env) (R : Room) (s : State) (m : MethodId) (args : Array Value) (below : List Frame) (meth : Method) (c : Code) (Z : State → Prop) (H : Heap) (locs : List Loc) (lsR : Array Slot) (k n : Nat), p.tables.exec = Jvm.exec → c.code = mB M → lsOK G ls lsR (mL M) →
      (∀ lsR' : Array Slot, lsOK G ls' lsR' (mL M) → W p l e R s m args below meth c H locs k n Z (F0 m pc' lsR' (st'.map (vm G)))) → W p l e R s m args below meth c H locs k n Z (F0 m pc lsR (st.map (vm G))))
    (kk : Wm M d b t pc' ls' st' h Q) : Wm M d b t pc ls st h Q :=
  fun G p l e R s m args below meth c Z H locs lsR k n C hR hH hS hl he => hrow G p l e R s m args below meth c Z H locs lsR k n C.1 C.2.1 hl (fun lsR' hl' => kk G p l e R s m args below meth c Z H locs lsR' k n C hR hH hS hl' he)

theorem q_istore {i : Nat} {x : Int32} (hd : decode (mB M) pc = .ok (.istore i, 2)) (hn : i < mL M) (hok : okSt ls i = true) (kk : Wm M d b t (pc + 2) (ls.set i (some (.int x))) st h Q) : Wm M d b t pc ls (.int x :: st) h Q := q_store (fun _ _ _ _ _ _ _ _ _ _ _ _ _ _ _ _ _ hx hb ho k => lv_istore hx hb hd ho.has hn rfl (fun l2 h2 => k l2 (st1 (v := .int x) ho hok h2))) kk
theorem q_lstore {i : Nat} {x : Int64} (hd : decode (mB M) pc = .ok (.lstore i, 2)) (hn : i + 1 < mL M) (hok : okSt ls i = true) (kk : Wm M d b t (pc + 2) ((ls.set i (some (.long x))).set (i + 1) none) st h Q) : Wm M d b t pc ls (.long x :: st) h Q := q_store (fun _ _ _ _ _ _ _ _ _ _ _ _ _ _ _ _ _ hx hb ho k => lv_lstore hx hb hd ho.has hn rfl (fun l2 h2 => k l2 (st2 (v := .long x) ho hok h2))) kk
theorem q_astore {i : Nat} {r : Option Nat} (hd : decode (mB M) pc = .ok (.astore i, 2)) (hn : i < mL M) (hok : okSt ls i = true) (kk : Wm M d b t (pc + 2) (ls.set i (some (fromR r))) st h Q) : Wm M d b t pc ls (fromR r :: st) h Q := by
  cases r with
  | none => exact q_store (fun _ _ _ _ _ _ _ _ _ _ _ _ _ _ _ _ _ hx hb ho k => lv_astoreN hx hb hd ho.has hn rfl (fun l2 h2 => k l2 (st1 (v := .null) ho hok h2))) kk
  | some x => exact q_store (fun _ _ _ _ _ _ _ _ _ _ _ _ _ _ _ _ _ hx hb ho k => lv_astore hx hb hd ho.has hn rfl (fun l2 h2 => k l2 (st1 (v := .ref x) ho hok h2))) kk
theorem q_astorer {i : Nat} {x : Nat} (hd : decode (mB M) pc = .ok (.astore i, 2)) (hn : i < mL M) (hok : okSt ls i = true) (kk : Wm M d b t (pc + 2) (ls.set i (some (.ref x))) st h Q) : Wm M d b t pc ls (.ref x :: st) h Q := q_astore (r := some x) hd hn hok kk
theorem q_istore_n {kf : Fin 4} {x : Int32} (hd : decode (mB M) pc = .ok (.istore_n kf, 1)) (hn : (kf : Nat) < mL M) (hok : okSt ls (kf : Nat) = true) (kk : Wm M d b t (pc + 1) (ls.set (kf : Nat) (some (.int x))) st h Q) : Wm M d b t pc ls (.int x :: st) h Q := q_store (fun _ _ _ _ _ _ _ _ _ _ _ _ _ _ _ _ _ hx hb ho k => lv_istore_n hx hb hd rfl ho.has hn rfl (fun l2 h2 => k l2 (st1 (v := .int x) ho hok h2))) kk
theorem q_lstore_n {kf : Fin 4} {x : Int64} (hd : decode (mB M) pc = .ok (.lstore_n kf, 1)) (hn : (kf : Nat) + 1 < mL M) (hok : okSt ls (kf : Nat) = true) (kk : Wm M d b t (pc + 1) ((ls.set (kf : Nat) (some (.long x))).set ((kf : Nat) + 1) none) st h Q) : Wm M d b t pc ls (.long x :: st) h Q := q_store (fun _ _ _ _ _ _ _ _ _ _ _ _ _ _ _ _ _ hx hb ho k => lv_lstore_n hx hb hd rfl ho.has hn rfl (fun l2 h2 => k l2 (st2 (v := .long x) ho hok h2))) kk
theorem q_astore_n {kf : Fin 4} {r : Option Nat} (hd : decode (mB M) pc = .ok (.astore_n kf, 1)) (hn : (kf : Nat) < mL M) (hok : okSt ls (kf : Nat) = true) (kk : Wm M d b t (pc + 1) (ls.set (kf : Nat) (some (fromR r))) st h Q) : Wm M d b t pc ls (fromR r :: st) h Q := by
  cases r with
  | none => exact q_store (fun _ _ _ _ _ _ _ _ _ _ _ _ _ _ _ _ _ hx hb ho k => lv_astore_nN hx hb hd rfl ho.has hn rfl (fun l2 h2 => k l2 (st1 (v := .null) ho hok h2))) kk
  | some x => exact q_store (fun _ _ _ _ _ _ _ _ _ _ _ _ _ _ _ _ _ hx hb ho k => lv_astore_n hx hb hd rfl ho.has hn rfl (fun l2 h2 => k l2 (st1 (v := .ref x) ho hok h2))) kk
theorem q_astore_nr {kf : Fin 4} {x : Nat} (hd : decode (mB M) pc = .ok (.astore_n kf, 1)) (hn : (kf : Nat) < mL M) (hok : okSt ls (kf : Nat) = true) (kk : Wm M d b t (pc + 1) (ls.set (kf : Nat) (some (.ref x))) st h Q) : Wm M d b t pc ls (.ref x :: st) h Q := q_astore_n (r := some x) hd hn hok kk
theorem q_iinc {i : Nat} {n : Int} {x v : Int32} (hd : decode (mB M) pc = .ok (.iinc i n, 3)) (hl : ls[i]? = some (some (.int x))) (hv : x + Int32.ofInt n = v) (hok : okSt ls i = true) (kk : Wm M d b t (pc + 3) (ls.set i (some (.int v))) st h Q) : Wm M d b t pc ls st h Q := q_store (fun G _ _ _ _ _ _ _ _ _ _ _ _ _ _ _ _ hx hb ho k => by
  have hm : (i, Value.int x) ∈ lvL G ls (mL M) := lvL_mem.mpr ⟨ho.lt hl, _, hl, rfl⟩
  obtain ⟨j, hj⟩ := List.getElem?_of_mem hm
  exact lv_iinc hx hb hd ho.has hj hv (ho.lt hl) rfl (fun l2 h2 => k l2 (st1 (v := .int v) ho hok h2))) kk
theorem q_iadd {x y : Int32} (hd : decode (mB M) pc = .ok (.iadd, 1)) (kk : Wm M d b t (pc + 1) ls (.int (x + y) :: st) h Q) : Wm M d b t pc ls (.int y :: .int x :: st) h Q := q_pure (fun _ _ _ _ _ _ _ _ _ _ _ _ _ _ _ _ _ _ hx hb _ k => lv_iadd hx hb hd k) kk
theorem q_isub {x y : Int32} (hd : decode (mB M) pc = .ok (.isub, 1)) (kk : Wm M d b t (pc + 1) ls (.int (x - y) :: st) h Q) : Wm M d b t pc ls (.int y :: .int x :: st) h Q := q_pure (fun _ _ _ _ _ _ _ _ _ _ _ _ _ _ _ _ _ _ hx hb _ k => lv_isub hx hb hd k) kk
theorem q_imul {x y : Int32} (hd : decode (mB M) pc = .ok (.imul, 1)) (kk : Wm M d b t (pc + 1) ls (.int (x * y) :: st) h Q) : Wm M d b t pc ls (.int y :: .int x :: st) h Q := q_pure (fun _ _ _ _ _ _ _ _ _ _ _ _ _ _ _ _ _ _ hx hb _ k => lv_imul hx hb hd k) kk
theorem q_iand {x y : Int32} (hd : decode (mB M) pc = .ok (.iand, 1)) (kk : Wm M d b t (pc + 1) ls (.int (x &&& y) :: st) h Q) : Wm M d b t pc ls (.int y :: .int x :: st) h Q := q_pure (fun _ _ _ _ _ _ _ _ _ _ _ _ _ _ _ _ _ _ hx hb _ k => lv_iand hx hb hd k) kk
theorem q_ior {x y : Int32} (hd : decode (mB M) pc = .ok (.ior, 1)) (kk : Wm M d b t (pc + 1) ls (.int (x ||| y) :: st) h Q) : Wm M d b t pc ls (.int y :: .int x :: st) h Q := q_pure (fun _ _ _ _ _ _ _ _ _ _ _ _ _ _ _ _ _ _ hx hb _ k => lv_ior hx hb hd k) kk
theorem q_ixor {x y : Int32} (hd : decode (mB M) pc = .ok (.ixor, 1)) (kk : Wm M d b t (pc + 1) ls (.int (x ^^^ y) :: st) h Q) : Wm M d b t pc ls (.int y :: .int x :: st) h Q := q_pure (fun _ _ _ _ _ _ _ _ _ _ _ _ _ _ _ _ _ _ hx hb _ k => lv_ixor hx hb hd k) kk
theorem q_ishl {x y : Int32} (hd : decode (mB M) pc = .ok (.ishl, 1)) (kk : Wm M d b t (pc + 1) ls (.int (x <<< (y &&& 31)) :: st) h Q) : Wm M d b t pc ls (.int y :: .int x :: st) h Q := q_pure (fun _ _ _ _ _ _ _ _ _ _ _ _ _ _ _ _ _ _ hx hb _ k => lv_ishl hx hb hd k) kk
theorem q_ishr {x y : Int32} (hd : decode (mB M) pc = .ok (.ishr, 1)) (kk : Wm M d b t (pc + 1) ls (.int (x >>> (y &&& 31)) :: st) h Q) : Wm M d b t pc ls (.int y :: .int x :: st) h Q := q_pure (fun _ _ _ _ _ _ _ _ _ _ _ _ _ _ _ _ _ _ hx hb _ k => lv_ishr hx hb hd k) kk
theorem q_idiv {x y : Int32} (hd : decode (mB M) pc = .ok (.idiv, 1)) (hne : ¬ y = 0) (kk : Wm M d b t (pc + 1) ls (.int (x / y) :: st) h Q) : Wm M d b t pc ls (.int y :: .int x :: st) h Q := q_pure (fun _ _ _ _ _ _ _ _ _ _ _ _ _ _ _ _ _ _ hx hb _ k => lv_idiv hx hb hd hne k) kk
theorem q_irem {x y : Int32} (hd : decode (mB M) pc = .ok (.irem, 1)) (hne : ¬ y = 0) (kk : Wm M d b t (pc + 1) ls (.int (x - x / y * y) :: st) h Q) : Wm M d b t pc ls (.int y :: .int x :: st) h Q := q_pure (fun _ _ _ _ _ _ _ _ _ _ _ _ _ _ _ _ _ _ hx hb _ k => lv_irem hx hb hd hne k) kk
theorem q_ineg {x : Int32} (hd : decode (mB M) pc = .ok (.ineg, 1)) (kk : Wm M d b t (pc + 1) ls (.int (-x) :: st) h Q) : Wm M d b t pc ls (.int x :: st) h Q := q_pure (fun _ _ _ _ _ _ _ _ _ _ _ _ _ _ _ _ _ _ hx hb _ k => lv_ineg hx hb hd k) kk
theorem q_ladd {x y : Int64} (hd : decode (mB M) pc = .ok (.ladd, 1)) (kk : Wm M d b t (pc + 1) ls (.long (x + y) :: st) h Q) : Wm M d b t pc ls (.long y :: .long x :: st) h Q := q_pure (fun _ _ _ _ _ _ _ _ _ _ _ _ _ _ _ _ _ _ hx hb _ k => lv_ladd hx hb hd k) kk
theorem q_lsub {x y : Int64} (hd : decode (mB M) pc = .ok (.lsub, 1)) (kk : Wm M d b t (pc + 1) ls (.long (x - y) :: st) h Q) : Wm M d b t pc ls (.long y :: .long x :: st) h Q := q_pure (fun _ _ _ _ _ _ _ _ _ _ _ _ _ _ _ _ _ _ hx hb _ k => lv_lsub hx hb hd k) kk
theorem q_lmul {x y : Int64} (hd : decode (mB M) pc = .ok (.lmul, 1)) (kk : Wm M d b t (pc + 1) ls (.long (x * y) :: st) h Q) : Wm M d b t pc ls (.long y :: .long x :: st) h Q := q_pure (fun _ _ _ _ _ _ _ _ _ _ _ _ _ _ _ _ _ _ hx hb _ k => lv_lmul hx hb hd k) kk
theorem q_land {x y : Int64} (hd : decode (mB M) pc = .ok (.land, 1)) (kk : Wm M d b t (pc + 1) ls (.long (x &&& y) :: st) h Q) : Wm M d b t pc ls (.long y :: .long x :: st) h Q := q_pure (fun _ _ _ _ _ _ _ _ _ _ _ _ _ _ _ _ _ _ hx hb _ k => lv_land hx hb hd k) kk
theorem q_lor {x y : Int64} (hd : decode (mB M) pc = .ok (.lor, 1)) (kk : Wm M d b t (pc + 1) ls (.long (x ||| y) :: st) h Q) : Wm M d b t pc ls (.long y :: .long x :: st) h Q := q_pure (fun _ _ _ _ _ _ _ _ _ _ _ _ _ _ _ _ _ _ hx hb _ k => lv_lor hx hb hd k) kk
theorem q_ldiv {x y : Int64} (hd : decode (mB M) pc = .ok (.ldiv, 1)) (hne : ¬ y = 0) (kk : Wm M d b t (pc + 1) ls (.long (x / y) :: st) h Q) : Wm M d b t pc ls (.long y :: .long x :: st) h Q := q_pure (fun _ _ _ _ _ _ _ _ _ _ _ _ _ _ _ _ _ _ hx hb _ k => lv_ldiv hx hb hd hne k) kk
theorem q_lrem {x y : Int64} (hd : decode (mB M) pc = .ok (.lrem, 1)) (hne : ¬ y = 0) (kk : Wm M d b t (pc + 1) ls (.long (x - x / y * y) :: st) h Q) : Wm M d b t pc ls (.long y :: .long x :: st) h Q := q_pure (fun _ _ _ _ _ _ _ _ _ _ _ _ _ _ _ _ _ _ hx hb _ k => lv_lrem hx hb hd hne k) kk
theorem q_lcmp {x y : Int64} (hd : decode (mB M) pc = .ok (.lcmp, 1)) (kk : Wm M d b t (pc + 1) ls (.int (lg_cmp x y) :: st) h Q) : Wm M d b t pc ls (.long y :: .long x :: st) h Q := q_pure (fun _ _ _ _ _ _ _ _ _ _ _ _ _ _ _ _ _ _ hx hb _ k => W.lcmp hx hb hd k) kk
theorem q_i2l {x : Int32} (hd : decode (mB M) pc = .ok (.i2l, 1)) (kk : Wm M d b t (pc + 1) ls (.long (x.toInt64) :: st) h Q) : Wm M d b t pc ls (.int x :: st) h Q := q_pure (fun _ _ _ _ _ _ _ _ _ _ _ _ _ _ _ _ _ _ hx hb _ k => lv_i2l hx hb hd rfl k) kk
theorem q_l2i {x : Int64} (hd : decode (mB M) pc = .ok (.l2i, 1)) (kk : Wm M d b t (pc + 1) ls (.int (x.toInt32) :: st) h Q) : Wm M d b t pc ls (.long x :: st) h Q := q_pure (fun _ _ _ _ _ _ _ _ _ _ _ _ _ _ _ _ _ _ hx hb _ k => lv_l2i hx hb hd rfl k) kk
theorem q_i2b {x : Int32} (hd : decode (mB M) pc = .ok (.i2b, 1)) (kk : Wm M d b t (pc + 1) ls (.int (x.toInt8.toInt32) :: st) h Q) : Wm M d b t pc ls (.int x :: st) h Q := q_pure (fun _ _ _ _ _ _ _ _ _ _ _ _ _ _ _ _ _ _ hx hb _ k => lv_i2b hx hb hd rfl k) kk
theorem q_i2s {x : Int32} (hd : decode (mB M) pc = .ok (.i2s, 1)) (kk : Wm M d b t (pc + 1) ls (.int (x.toInt16.toInt32) :: st) h Q) : Wm M d b t pc ls (.int x :: st) h Q := q_pure (fun _ _ _ _ _ _ _ _ _ _ _ _ _ _ _ _ _ _ hx hb _ k => lv_i2s hx hb hd rfl k) kk
theorem q_i2c {x : Int32} (hd : decode (mB M) pc = .ok (.i2c, 1)) (kk : Wm M d b t (pc + 1) ls (.int ((x.toUInt32 % 65536).toInt32) :: st) h Q) : Wm M d b t pc ls (.int x :: st) h Q := q_pure (fun _ _ _ _ _ _ _ _ _ _ _ _ _ _ _ _ _ _ hx hb _ k => lv_i2c hx hb hd rfl k) kk
theorem q_iushr {x y : Int32} (hd : decode (mB M) pc = .ok (.iushr, 1)) (kk : Wm M d b t (pc + 1) ls (.int ((x.toUInt32 >>> (y.toUInt32 &&& Int32.toUInt32 31)).toInt32) :: st) h Q) : Wm M d b t pc ls (.int y :: .int x :: st) h Q := q_pure (fun _ _ _ _ _ _ _ _ _ _ _ _ _ _ _ _ _ _ hx hb _ k => lv_iushr hx hb hd rfl k) kk
theorem q_lushr {x : Int64} {y : Int32} (hd : decode (mB M) pc = .ok (.lushr, 1)) (kk : Wm M d b t (pc + 1) ls (.long ((x.toUInt64 >>> (y.toInt64.toUInt64 &&& Int64.toUInt64 63)).toInt64) :: st) h Q) : Wm M d b t pc ls (.int y :: .long x :: st) h Q := q_pure (fun _ _ _ _ _ _ _ _ _ _ _ _ _ _ _ _ _ _ hx hb _ k => lv_lushr hx hb hd rfl k) kk
theorem q_lshl {x : Int64} {y : Int32} (hd : decode (mB M) pc = .ok (.lshl, 1)) (kk : Wm M d b t (pc + 1) ls (.long (x <<< (y.toInt64 &&& 63)) :: st) h Q) : Wm M d b t pc ls (.int y :: .long x :: st) h Q := q_pure (fun _ _ _ _ _ _ _ _ _ _ _ _ _ _ _ _ _ _ hx hb _ k => lv_lshl hx hb hd rfl k) kk
theorem q_lshr {x : Int64} {y : Int32} (hd : decode (mB M) pc = .ok (.lshr, 1)) (kk : Wm M d b t (pc + 1) ls (.long (x >>> (y.toInt64 &&& 63)) :: st) h Q) : Wm M d b t pc ls (.int y :: .long x :: st) h Q := q_pure (fun _ _ _ _ _ _ _ _ _ _ _ _ _ _ _ _ _ _ hx hb _ k => lv_lshr hx hb hd rfl k) kk
theorem q_dup {v : Value} (hd : decode (mB M) pc = .ok (.dup, 1)) (hv : v.category = 1) (kk : Wm M d b t (pc + 1) ls (v :: v :: st) h Q) : Wm M d b t pc ls (v :: st) h Q := q_pure (fun G _ _ _ _ _ _ _ _ _ _ _ _ _ _ _ _ _ hx hb _ k => lv_dup hx hb hd (by rw [vm_cat]; exact hv) k) kk
theorem q_pop {v : Value} (hd : decode (mB M) pc = .ok (.pop, 1)) (hv : v.category = 1) (kk : Wm M d b t (pc + 1) ls st h Q) : Wm M d b t pc ls (v :: st) h Q := q_pure (fun G _ _ _ _ _ _ _ _ _ _ _ _ _ _ _ _ _ hx hb _ k => lv_pop hx hb hd (by rw [vm_cat]; exact hv) k) kk
theorem q_dup2 {v u : Value} (hd : decode (mB M) pc = .ok (.dup2, 1)) (hv : v.category = 1) (hu : u.category = 1) (kk : Wm M d b t (pc + 1) ls (v :: u :: v :: u :: st) h Q) : Wm M d b t pc ls (v :: u :: st) h Q := q_pure (fun G _ _ _ _ _ _ _ _ _ _ _ _ _ _ _ _ _ hx hb _ k => lv_dup2_11 hx hb hd (by rw [vm_cat]; exact hv) (by rw [vm_cat]; exact hu) k) kk
theorem q_dup2l {v : Value} (hd : decode (mB M) pc = .ok (.dup2, 1)) (hv : v.category = 2) (kk : Wm M d b t (pc + 1) ls (v :: v :: st) h Q) : Wm M d b t pc ls (v :: st) h Q := q_pure (fun G _ _ _ _ _ _ _ _ _ _ _ _ _ _ _ _ _ hx hb _ k => lv_dup2_2 hx hb hd (by rw [vm_cat]; exact hv) k) kk
theorem q_if_eq {x : Int32} {off : Int} {tgt : Nat} (hd : decode (mB M) pc = .ok (.ifCond .eq off, 3)) (ht : (pc : Int) + off = (tgt : Int)) (kt : x = 0 → Wm M d b t tgt ls st h Q) (kf : ¬ (x = 0) → Wm M d b t (pc + 3) ls st h Q) : Wm M d b t pc ls (.int x :: st) h Q :=
  fun G p l e R s m args below meth c Z H locs lsR k n C hR hH hS hl he => lv_if_eq C.1 C.2.1 hd ht (fun hc => kt hc G p l e R s m args below meth c Z H locs lsR k n C hR hH hS hl he) (fun hc => kf hc G p l e R s m args below meth c Z H locs lsR k n C hR hH hS hl he)
theorem q_icmp_eq {x y : Int32} {off : Int} {tgt : Nat} (hd : decode (mB M) pc = .ok (.if_icmp .eq off, 3)) (ht : (pc : Int) + off = (tgt : Int)) (kt : x = y → Wm M d b t tgt ls st h Q) (kf : ¬ (x = y) → Wm M d b t (pc + 3) ls st h Q) : Wm M d b t pc ls (.int y :: .int x :: st) h Q :=
  fun G p l e R s m args below meth c Z H locs lsR k n C hR hH hS hl he => lv_icmp_eq C.1 C.2.1 hd ht (fun hc => kt hc G p l e R s m args below meth c Z H locs lsR k n C hR hH hS hl he) (fun hc => kf hc G p l e R s m args below meth c Z H locs lsR k n C hR hH hS hl he)
theorem q_if_ne {x : Int32} {off : Int} {tgt : Nat} (hd : decode (mB M) pc = .ok (.ifCond .ne off, 3)) (ht : (pc : Int) + off = (tgt : Int)) (kt : ¬ x = 0 → Wm M d b t tgt ls st h Q) (kf : x = 0 → Wm M d b t (pc + 3) ls st h Q) : Wm M d b t pc ls (.int x :: st) h Q :=
  fun G p l e R s m args below meth c Z H locs lsR k n C hR hH hS hl he => lv_if_ne C.1 C.2.1 hd ht (fun hc => kt hc G p l e R s m args below meth c Z H locs lsR k n C hR hH hS hl he) (fun hc => kf hc G p l e R s m args below meth c Z H locs lsR k n C hR hH hS hl he)
theorem q_icmp_ne {x y : Int32} {off : Int} {tgt : Nat} (hd : decode (mB M) pc = .ok (.if_icmp .ne off, 3)) (ht : (pc : Int) + off = (tgt : Int)) (kt : ¬ x = y → Wm M d b t tgt ls st h Q) (kf : x = y → Wm M d b t (pc + 3) ls st h Q) : Wm M d b t pc ls (.int y :: .int x :: st) h Q :=
  fun G p l e R s m args below meth c Z H locs lsR k n C hR hH hS hl he => lv_icmp_ne C.1 C.2.1 hd ht (fun hc => kt hc G p l e R s m args below meth c Z H locs lsR k n C hR hH hS hl he) (fun hc => kf hc G p l e R s m args below meth c Z H locs lsR k n C hR hH hS hl he)
theorem q_if_lt {x : Int32} {off : Int} {tgt : Nat} (hd : decode (mB M) pc = .ok (.ifCond .lt off, 3)) (ht : (pc : Int) + off = (tgt : Int)) (kt : x < 0 → Wm M d b t tgt ls st h Q) (kf : ¬ (x < 0) → Wm M d b t (pc + 3) ls st h Q) : Wm M d b t pc ls (.int x :: st) h Q :=
  fun G p l e R s m args below meth c Z H locs lsR k n C hR hH hS hl he => lv_if_lt C.1 C.2.1 hd ht (fun hc => kt hc G p l e R s m args below meth c Z H locs lsR k n C hR hH hS hl he) (fun hc => kf hc G p l e R s m args below meth c Z H locs lsR k n C hR hH hS hl he)
theorem q_icmp_lt {x y : Int32} {off : Int} {tgt : Nat} (hd : decode (mB M) pc = .ok (.if_icmp .lt off, 3)) (ht : (pc : Int) + off = (tgt : Int)) (kt : x < y → Wm M d b t tgt ls st h Q) (kf : ¬ (x < y) → Wm M d b t (pc + 3) ls st h Q) : Wm M d b t pc ls (.int y :: .int x :: st) h Q :=
  fun G p l e R s m args below meth c Z H locs lsR k n C hR hH hS hl he => lv_icmp_lt C.1 C.2.1 hd ht (fun hc => kt hc G p l e R s m args below meth c Z H locs lsR k n C hR hH hS hl he) (fun hc => kf hc G p l e R s m args below meth c Z H locs lsR k n C hR hH hS hl he)
theorem q_if_ge {x : Int32} {off : Int} {tgt : Nat} (hd : decode (mB M) pc = .ok (.ifCond .ge off, 3)) (ht : (pc : Int) + off = (tgt : Int)) (kt : 0 ≤ x → Wm M d b t tgt ls st h Q) (kf : ¬ (0 ≤ x) → Wm M d b t (pc + 3) ls st h Q) : Wm M d b t pc ls (.int x :: st) h Q :=
  fun G p l e R s m args below meth c Z H locs lsR k n C hR hH hS hl he => lv_if_ge C.1 C.2.1 hd ht (fun hc => kt hc G p l e R s m args below meth c Z H locs lsR k n C hR hH hS hl he) (fun hc => kf hc G p l e R s m args below meth c Z H locs lsR k n C hR hH hS hl he)
theorem q_icmp_ge {x y : Int32} {off : Int} {tgt : Nat} (hd : decode (mB M) pc = .ok (.if_icmp .ge off, 3)) (ht : (pc : Int) + off = (tgt : Int)) (kt : y ≤ x → Wm M d b t tgt ls st h Q) (kf : ¬ (y ≤ x) → Wm M d b t (pc + 3) ls st h Q) : Wm M d b t pc ls (.int y :: .int x :: st) h Q :=
  fun G p l e R s m args below meth c Z H locs lsR k n C hR hH hS hl he => lv_icmp_ge C.1 C.2.1 hd ht (fun hc => kt hc G p l e R s m args below meth c Z H locs lsR k n C hR hH hS hl he) (fun hc => kf hc G p l e R s m args below meth c Z H locs lsR k n C hR hH hS hl he)
theorem q_if_gt {x : Int32} {off : Int} {tgt : Nat} (hd : decode (mB M) pc = .ok (.ifCond .gt off, 3)) (ht : (pc : Int) + off = (tgt : Int)) (kt : 0 < x → Wm M d b t tgt ls st h Q) (kf : ¬ (0 < x) → Wm M d b t (pc + 3) ls st h Q) : Wm M d b t pc ls (.int x :: st) h Q :=
  fun G p l e R s m args below meth c Z H locs lsR k n C hR hH hS hl he => lv_if_gt C.1 C.2.1 hd ht (fun hc => kt hc G p l e R s m args below meth c Z H locs lsR k n C hR hH hS hl he) (fun hc => kf hc G p l e R s m args below meth c Z H locs lsR k n C hR hH hS hl he)
theorem q_icmp_gt {x y : Int32} {off : Int} {tgt : Nat} (hd : decode (mB M) pc = .ok (.if_icmp .gt off, 3)) (ht : (pc : Int) + off = (tgt : Int)) (kt : y < x → Wm M d b t tgt ls st h Q) (kf : ¬ (y < x) → Wm M d b t (pc + 3) ls st h Q) : Wm M d b t pc ls (.int y :: .int x :: st) h Q :=
  fun G p l e R s m args below meth c Z H locs lsR k n C hR hH hS hl he => lv_icmp_gt C.1 C.2.1 hd ht (fun hc => kt hc G p l e R s m args below meth c Z H locs lsR k n C hR hH hS hl he) (fun hc => kf hc G p l e R s m args below meth c Z H locs lsR k n C hR hH hS hl he)
theorem q_if_le {x : Int32} {off : Int} {tgt : Nat} (hd : decode (mB M) pc = .ok (.ifCond .le off, 3)) (ht : (pc : Int) + off = (tgt : Int)) (kt : x ≤ 0 → Wm M d b t tgt ls st h Q) (kf : ¬ (x ≤ 0) → Wm M d b t (pc + 3) ls st h Q) : Wm M d b t pc ls (.int x :: st) h Q :=
  fun G p l e R s m args below meth c Z H locs lsR k n C hR hH hS hl he => lv_if_le C.1 C.2.1 hd ht (fun hc => kt hc G p l e R s m args below meth c Z H locs lsR k n C hR hH hS hl he) (fun hc => kf hc G p l e R s m args below meth c Z H locs lsR k n C hR hH hS hl he)
theorem q_icmp_le {x y : Int32} {off : Int} {tgt : Nat} (hd : decode (mB M) pc = .ok (.if_icmp .le off, 3)) (ht : (pc : Int) + off = (tgt : Int)) (kt : x ≤ y → Wm M d b t tgt ls st h Q) (kf : ¬ (x ≤ y) → Wm M d b t (pc + 3) ls st h Q) : Wm M d b t pc ls (.int y :: .int x :: st) h Q :=
  fun G p l e R s m args below meth c Z H locs lsR k n C hR hH hS hl he => lv_icmp_le C.1 C.2.1 hd ht (fun hc => kt hc G p l e R s m args below meth c Z H locs lsR k n C hR hH hS hl he) (fun hc => kf hc G p l e R s m args below meth c Z H locs lsR k n C hR hH hS hl he)
theorem q_goto {off : Int} {tgt : Nat} (hd : decode (mB M) pc = .ok (.goto off, 3)) (ht : (pc : Int) + off = (tgt : Int)) (kk : Wm M d b t tgt ls st h Q) : Wm M d b t pc ls st h Q := q_pure (fun _ _ _ _ _ _ _ _ _ _ _ _ _ _ _ _ _ _ hx hb _ k => lv_goto hx hb hd ht k) kk
end QR
