/-! ===== rows of the lighter logic: fields and arrays ===== -/
theorem cl_cases {c : Nat} {q : vw_C} (h : vwCl[c]? = some q) : c < 11 := by
  have h1 := (List.getElem?_eq_some_iff.mp h).1
  exact h1
theorem uws_in : ∀ (c : Nat) (q : vw_C), vwCl[c]? = some q → ∀ w ∈ u_ws q.1 q.2.1 q.2.2, w ∈ GW := by
  have key : ∀ (ws : List Cond), (ws.all (fun w => decide (w ∈ lw_tbl) && goodWord w)) = true → ∀ w ∈ ws, w ∈ GW := by
    intro ws h w hw
    have h1 := List.all_eq_true.mp h w hw
    simp only [Bool.and_eq_true, decide_eq_true_eq] at h1
    exact List.mem_filter.mpr h1
  intro c q hq
  have hc := cl_cases hq
  have h11 : c = 0 ∨ c = 1 ∨ c = 2 ∨ c = 3 ∨ c = 4 ∨ c = 5 ∨ c = 6 ∨ c = 7 ∨ c = 8 ∨ c = 9 ∨ c = 10 := by omega
  rcases h11 with rfl | rfl | rfl | rfl | rfl | rfl | rfl | rfl | rfl | rfl | rfl <;> (cases hq; exact key _ (by decide +kernel))
theorem fty_ok : ∀ (c : Nat) (q : vw_C), vwCl[c]? = some q → ∀ k, k < q.2.2 → parseFieldDescriptor (q.2.1 k).2.2.1 = some (fty c k) := by
  intro c q hq
  have hc := cl_cases hq
  have h11 : c = 0 ∨ c = 1 ∨ c = 2 ∨ c = 3 ∨ c = 4 ∨ c = 5 ∨ c = 6 ∨ c = 7 ∨ c = 8 ∨ c = 9 ∨ c = 10 := by omega
  rcases h11 with rfl | rfl | rfl | rfl | rfl | rfl | rfl | rfl | rfl | rfl | rfl
  · cases hq; exact tyX0_ok
  · cases hq; exact tyX1_ok
  · cases hq; exact tyX2_ok
  · cases hq; exact tyX3_ok
  · cases hq; exact tyX4_ok
  · cases hq; exact tyX5_ok
  · cases hq; exact tyX6_ok
  · cases hq; exact tyX7_ok
  · cases hq; exact tyX8_ok
  · cases hq; exact tyX9_ok
  · cases hq; exact tyX10_ok
theorem fnm_ok : ∀ (c : Nat) (q : vw_C), vwCl[c]? = some q → ∀ a, a < q.2.2 → ∀ b, b < q.2.2 → a ≠ b → (q.2.1 a).2.1 ≠ (q.2.1 b).2.1 := by
  intro c q hq
  have hc := cl_cases hq
  have h11 : c = 0 ∨ c = 1 ∨ c = 2 ∨ c = 3 ∨ c = 4 ∨ c = 5 ∨ c = 6 ∨ c = 7 ∨ c = 8 ∨ c = 9 ∨ c = 10 := by omega
  rcases h11 with rfl | rfl | rfl | rfl | rfl | rfl | rfl | rfl | rfl | rfl | rfl
  · cases hq; exact nmX0
  · cases hq; exact nmX1
  · cases hq; exact nmX2
  · cases hq; exact nmX3
  · cases hq; exact nmX4
  · cases hq; exact nmX5
  · cases hq; exact nmX6
  · cases hq; exact nmX7
  · cases hq; exact nmX8
  · cases hq; exact nmX9
  · cases hq; exact nmX10
/-- entry i of a class's pool is field k of class c -/
def fL (own : String) (i c k : Nat) : Prop := ∃ q, vwCl[c]? = some q ∧ k < q.2.2 ∧ Cond.fieldLink own i (q.2.1 k).1 (q.2.1 k).2.1 (q.2.1 k).2.2.1 ∈ GW
def isIt (ty : FieldType) : Bool := match ty with
  | .int => true
  | .boolean => true
  | _ => false
def isRt (ty : FieldType) : Bool := match ty with
  | .object _ => true
  | .array _ => true
  | _ => false
theorem fv_I {G : GC} {ty : FieldType} {h : MH} {a k : Nat} (hi : isIt ty = true) : fv G ty h a k = .int (hI h a k) := by cases ty <;> simp [isIt] at hi <;> rfl
theorem fv_R {G : GC} {ty : FieldType} {h : MH} {a k : Nat} (hi : isRt ty = true) : fv G ty h a k = rv G (hR h a k) := by cases ty <;> simp [isRt] at hi <;> rfl
section HR
variable {G : GC} {h : MH} {H : Heap}
theorem relH.at (r : relH G h H) {a : Nat} (hs : (hS h a).1 ≠ 0) : 128 ≤ a ∧ a < hN h ∧ gad G a = gB G + (a - 128) ∧ ∃ cell, H[gad G a]? = some cell ∧ cOK G h a cell := by
  obtain ⟨h1, h2⟩ := r.2.2.2.1 a hs
  have e : gad G a = gB G + (a - 128) := by unfold gad; rw [if_neg (by omega), if_neg (by omega)]
  rw [e]
  exact ⟨h1, h2, rfl, r.2.2.1 a h1 h2⟩
theorem relH.obj (r : relH G h H) {a c : Nat} (hs : hS h a = (1, c)) : ∃ q cell, vwCl[c]? = some q ∧ H[gad G a]? = some cell ∧ cell.cls = gC G c ∧ cell.vm = .none ∧ ∀ k, k < q.2.2 → cell.slots[gI G c k]? = some (fv G (fty c k) h a k) := by
  obtain ⟨h1, h2, e, cell, hc, ho⟩ := r.at (a := a) (by rw [hs]; exact Nat.one_ne_zero)
  unfold cOK at ho
  rw [hs] at ho
  rcases ho with ⟨-, q, o1, o2, o3, o4⟩ | ⟨o, -⟩ | ⟨o, -⟩ | ⟨o, -⟩
  · exact ⟨q, cell, o1, hc, o2, o3, o4⟩
  · simp at o
  · simp at o
  · simp at o
theorem relH.rowI (r : relH G h H) {a n k : Nat} (hs : hS h a = (k, n)) (hk : k = 2 ∨ k = 4 ∨ k = 5) : H[gad G a]? = some (arrV (gA G k) n (fun j => .int (hI h a j))) := by
  obtain ⟨h1, h2, e, cell, hc, ho⟩ := r.at (a := a) (by rw [hs]; show k ≠ 0; omega)
  unfold cOK at ho
  rw [hs] at ho
  rcases ho with ⟨o, -⟩ | ⟨-, o⟩ | ⟨o, -⟩ | ⟨o, -⟩
  · simp at o; omega
  · rw [hc, o]
  · simp at o; omega
  · simp at o; omega
theorem relH.rowL (r : relH G h H) {a n : Nat} (hs : hS h a = (3, n)) : H[gad G a]? = some (arrV (gA G 3) n (fun j => .long (hL h a j))) := by
  obtain ⟨h1, h2, e, cell, hc, ho⟩ := r.at (a := a) (by rw [hs]; exact Nat.succ_ne_zero 2)
  unfold cOK at ho
  rw [hs] at ho
  rcases ho with ⟨o, -⟩ | ⟨o, -⟩ | ⟨-, o⟩ | ⟨o, -⟩
  · simp at o
  · simp at o
  · rw [hc, o]
  · simp at o
theorem relH.rowR (r : relH G h H) {a n k : Nat} (hs : hS h a = (k, n)) (hk : k = 6 ∨ k = 7 ∨ k = 8) : H[gad G a]? = some (arrV (gA G k) n (fun j => rv G (hR h a j))) := by
  obtain ⟨h1, h2, e, cell, hc, ho⟩ := r.at (a := a) (by rw [hs]; show k ≠ 0; omega)
  unfold cOK at ho
  rw [hs] at ho
  rcases ho with ⟨o, -⟩ | ⟨o, -⟩ | ⟨o, -⟩ | ⟨-, o⟩
  · simp at o; omega
  · simp at o; omega
  · simp at o; omega
  · rw [hc, o]
/-- one cell put anew -/
theorem relH.put (r : relH G h H) {h' : MH} {H' : Heap} {a : Nat} (hs : (hS h a).1 ≠ 0) (hh : h'.1 = h.1) (hn : hN h' = hN h) (hz : H'.size = H.size) (ho : ∀ q : Nat, q ≠ gad G a → H'[q]? = H[q]?)
    (hc : ∃ cell, H'[gad G a]? = some cell ∧ cOK G h' a cell) (hI' : ∀ b k, b ≠ a → hI h' b k = hI h b k ∧ hL h' b k = hL h b k ∧ hR h' b k = hR h b k) : relH G h' H' := by
  obtain ⟨r1, r2, r3, r4, r5⟩ := id r
  obtain ⟨h1, h2, e, -⟩ := r.at hs
  have hS' : ∀ b, hS h' b = hS h b := fun b => by unfold hS; rw [hh]
  refine ⟨by rw [hn]; exact r1, by rw [hz, hn]; exact r2, fun b hb1 hb2 => ?_, fun b hb => by rw [hS', ] at hb; rw [hn]; exact r4 b hb, fun b k hb => ?_⟩
  · rw [hn] at hb2
    by_cases hba : b = a
    · subst hba
      rw [← e]
      exact hc
    · obtain ⟨cell, c1, c2⟩ := r3 b hb1 hb2
      refine ⟨cell, by rw [ho _ (by rw [e]; omega)]; exact c1, ?_⟩
      have q1 : hI h' b = hI h b := funext fun k => (hI' b k hba).1
      have q2 : hL h' b = hL h b := funext fun k => (hI' b k hba).2.1
      have q3 : hR h' b = hR h b := funext fun k => (hI' b k hba).2.2
      have qf : ∀ ty k, fv G ty h' b k = fv G ty h b k := fun ty k => by unfold fv; rw [q1, q2, q3]
      unfold cOK at c2 ⊢
      simp only [hS', qf, q1, q2, q3]
      exact c2
  · rw [hn] at hb
    have hba : b ≠ a := by omega
    rw [(hI' b k hba).1, (hI' b k hba).2.1, (hI' b k hba).2.2]
    exact r5 b k hb
end HR
theorem hI_sI_ne {h : MH} {a k b j : Nat} {v : Int32} (hb : b ≠ a) : hI (sI h a k v) b j = hI h b j := by show (if b = a ∧ j = k then v else _) = _; rw [if_neg (fun q => hb q.1)]; rfl
theorem hL_sL_ne {h : MH} {a k b j : Nat} {v : Int64} (hb : b ≠ a) : hL (sL h a k v) b j = hL h b j := by show (if b = a ∧ j = k then v else _) = _; rw [if_neg (fun q => hb q.1)]; rfl
theorem hR_sR_ne {h : MH} {a k b j : Nat} {v : Option Nat} (hb : b ≠ a) : hR (sR h a k v) b j = hR h b j := by show (if b = a ∧ j = k then v else _) = _; rw [if_neg (fun q => hb q.1)]; rfl
theorem hI_sI (h : MH) (a k b j : Nat) (v : Int32) : hI (sI h a k v) b j = if b = a ∧ j = k then v else hI h b j := rfl
theorem hL_sL (h : MH) (a k b j : Nat) (v : Int64) : hL (sL h a k v) b j = if b = a ∧ j = k then v else hL h b j := rfl
theorem hR_sR (h : MH) (a k b j : Nat) (v : Option Nat) : hR (sR h a k v) b j = if b = a ∧ j = k then v else hR h b j := rfl
theorem hI_rI (h : MH) (a b j : Nat) (f : Nat → Int32) : hI (rI h a f) b j = if b = a then f j else hI h b j := by show (if b = a then f else _) j = _; split <;> rfl
section QH
variable {M : MI} {d b t pc : Nat} {ls : List (Option Value)} {st : List Value} {h : MH} {Q : Option Value → MH → Prop}
/-- a read of the heap: nothing changes -/
theorem q_read {pc' : Nat} {st' : List Value}
    (hrow : ∀ (G : GC) (p : Program) (l : Launch) (e : Env) (R : Room) (s : State) (m : MethodId) (args : Array Value) (below : List Frame) (meth : Method) (c : Code) (Z : State → Prop) (H : Heap) (locs : List Loc) (lsR : Array Slot) (k n : Nat), cX G M p s m args meth c → relH G h H →
      W p l e R s m args below meth c H locs k n Z (F0 m pc' lsR (st'.map (vm G))) → W p l e R s m args below meth c H locs k n Z (F0 m pc lsR (st.map (vm G))))
    (kk : Wm M d b t pc' ls st' h Q) : Wm M d b t pc ls st h Q :=
  fun G p l e R s m args below meth c Z H locs lsR k n C hR hH hS hl he => hrow G p l e R s m args below meth c Z H locs lsR k n C hH (kk G p l e R s m args below meth c Z H locs lsR k n C hR hH hS hl he)
theorem q_get {i c k a : Nat} {v : Value} (hf : fL (mN M).cls i c k) (hs : hS h a = (1, c)) (hv : ∀ G, fv G (fty c k) h a k = vm G v) (hd : decode (mB M) pc = .ok (.getfield i, 3)) (kk : Wm M d b t (pc + 3) ls (v :: st) h Q) : Wm M d b t pc ls (.ref a :: st) h Q :=
  q_read (fun G p l e R s m args below meth cd Z H locs lsR kc n C hH k2 => by
    obtain ⟨q, f1, f2, f3⟩ := hf
    obtain ⟨q', cell, o1, o2, o3, o4, o5⟩ := hH.obj hs
    cases f1.symm.trans o1
    obtain ⟨hx, hb, hml, hown, hts, hK, -⟩ := C
    obtain ⟨hS', hfc, kC, hkC, hkind⟩ := hK.1 c q f1
    obtain ⟨cf, kf, fi, f, hi, hsl⟩ := hS' k f2
    refine W.getf hx hb hown (hts _ f3) hi (u_facts hfc hkC (u_lays (ws := GW) hts (uws_in c q f1) f2) hi).1 o2 (by rw [o4]; exact fun z => by cases z) (v := vm G v) ?_ rfl rfl hd k2
    rw [hsl, o5 k f2, hv G]) kk
theorem q_getI {i c k a : Nat} (hf : fL (mN M).cls i c k) (ht : isIt (fty c k) = true) (hs : hS h a = (1, c)) (hd : decode (mB M) pc = .ok (.getfield i, 3)) (kk : Wm M d b t (pc + 3) ls (.int (hI h a k) :: st) h Q) : Wm M d b t pc ls (.ref a :: st) h Q := q_get hf hs (fun _ => fv_I ht) hd kk
theorem q_getL {i c k a : Nat} (hf : fL (mN M).cls i c k) (ht : fty c k = .long) (hs : hS h a = (1, c)) (hd : decode (mB M) pc = .ok (.getfield i, 3)) (kk : Wm M d b t (pc + 3) ls (.long (hL h a k) :: st) h Q) : Wm M d b t pc ls (.ref a :: st) h Q := q_get hf hs (fun _ => by rw [ht]; rfl) hd kk
theorem q_getR {i c k a x : Nat} (hf : fL (mN M).cls i c k) (ht : isRt (fty c k) = true) (hs : hS h a = (1, c)) (hr : hR h a k = some x) (hd : decode (mB M) pc = .ok (.getfield i, 3)) (kk : Wm M d b t (pc + 3) ls (.ref x :: st) h Q) : Wm M d b t pc ls (.ref a :: st) h Q := q_get hf hs (fun _ => by rw [fv_R ht, hr]; rfl) hd kk
theorem q_getRq {i c k a : Nat} (hf : fL (mN M).cls i c k) (ht : isRt (fty c k) = true) (hs : hS h a = (1, c)) (hd : decode (mB M) pc = .ok (.getfield i, 3)) (kk : Wm M d b t (pc + 3) ls (fromR (hR h a k) :: st) h Q) : Wm M d b t pc ls (.ref a :: st) h Q := q_get hf hs (fun G => by rw [fv_R ht, vm_fromR]) hd kk
/-- a write into the heap -/
theorem q_wr {pc' : Nat} {st' : List Value} {h' : MH}
    (hrow : ∀ (G : GC) (p : Program) (l : Launch) (e : Env) (R : Room) (s : State) (m : MethodId) (args : Array Value) (below : List Frame) (meth : Method) (c : Code) (Z : State → Prop) (H : Heap) (locs : List Loc) (lsR : Array Slot) (k n : Nat), cX G M p s m args meth c → relH G h H → va_S (gAA G) s.heap H locs →
      (∀ (H' : Heap) (locs' : List Loc), relH G h' H' → va_S (gAA G) s.heap H' locs' → W p l e R s m args below meth c H' locs' k n Z (F0 m pc' lsR (st'.map (vm G)))) → W p l e R s m args below meth c H locs k n Z (F0 m pc lsR (st.map (vm G))))
    (kk : Wm M d b t pc' ls st' h' Q) : Wm M d b t pc ls st h Q :=
  fun G p l e R s m args below meth c Z H locs lsR k n C hR hH hS hl he => hrow G p l e R s m args below meth c Z H locs lsR k n C hH hS (fun H' locs' hH' hS' => kk G p l e R s m args below meth c Z H' locs' lsR k n C hR hH' hS' hl he)
theorem va_S.put1 {A : Nat → Prop} {H0 H H1 : Heap} {locs : List Loc} {a i : Nat} (hS : va_S A H0 H locs) (z : H1.size = H.size) (o : ∀ q : Nat, q ≠ a → H1[q]? = H[q]?) (ha : A a) : va_S A H0 H1 (locs ++ [⟨a, i⟩]) := hS.put z o ha
theorem gAA_of {G : GC} {H : Heap} (r : relH G h H) {a : Nat} (hs : (hS h a).1 ≠ 0) : gAA G (gad G a) := by
  obtain ⟨h1, h2, e, -⟩ := r.at hs
  show gB G ≤ gad G a
  rw [e]
  omega
end QH
