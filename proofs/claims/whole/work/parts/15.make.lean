/-! ===== rows of the lighter logic: new cells ===== -/
theorem hS_al (h : MH) (t : Nat × Nat) (b : Nat) : hS (al h t) b = if b = hN h then t else hS h b := rfl
theorem hN_al (h : MH) (t : Nat × Nat) : hN (al h t) = hN h + 1 := rfl
theorem hI_al (h : MH) (t : Nat × Nat) (b k : Nat) : hI (al h t) b k = hI h b k := rfl
theorem hL_al (h : MH) (t : Nat × Nat) (b k : Nat) : hL (al h t) b k = hL h b k := rfl
theorem hR_al (h : MH) (t : Nat × Nat) (b k : Nat) : hR (al h t) b k = hR h b k := rfl
theorem relH.push {G : GC} {h : MH} {H H' : Heap} {t : Nat × Nat} {cell : Cell} (r : relH G h H) (ht : t.1 ≠ 0) (hz : H'.size = H.size + 1) (hc : H'[H.size]? = some cell) (ho : ∀ q : Nat, q < H.size → H'[q]? = H[q]?) (hok : cOK G (al h t) (hN h) cell) : relH G (al h t) H' := by
  obtain ⟨r1, r2, r3, r4, r5⟩ := r
  refine ⟨by rw [hN_al]; omega, by rw [hz, r2, hN_al]; omega, fun a h1 h2 => ?_, fun a ha => ?_, fun a k ha => ?_⟩
  · rw [hN_al] at h2
    by_cases han : a = hN h
    · subst han
      exact ⟨cell, by rw [← r2]; exact hc, hok⟩
    · obtain ⟨c1, e1, e2⟩ := r3 a h1 (by omega)
      refine ⟨c1, by rw [ho _ (by rw [r2]; omega)]; exact e1, ?_⟩
      have hs : hS (al h t) a = hS h a := by rw [hS_al, if_neg han]
      unfold cOK at e2 ⊢
      rw [hs]
      exact e2
  · rw [hS_al] at ha
    rw [hN_al]
    by_cases han : a = hN h
    · omega
    · rw [if_neg han] at ha
      have := r4 a ha
      omega
  · rw [hN_al] at ha
    exact r5 a k (by omega)
theorem gad_new {G : GC} {h : MH} {H : Heap} (r : relH G h H) : gad G (hN h) = H.size := by
  unfold gad
  rw [if_neg (by have := r.1; omega), if_neg (by have := r.1; omega), r.2.1]
theorem va_S.push1 {G : GC} {H0 H H' : Heap} {locs : List Loc} (hS : va_S (gAA G) H0 H locs) (hz : H'.size = H.size + 1) (ho : ∀ q : Nat, q < H.size → H'[q]? = H[q]?) : va_S (gAA G) H0 H' locs :=
  ⟨by have := hS.1; omega, fun q h1 h2 => (ho q (Nat.lt_of_lt_of_le h1 hS.1)).trans (hS.2.1 q h1 h2), hS.2.2⟩
section QN
variable {M : MI} {d b t pc : Nat} {ls : List (Option Value)} {st : List Value} {h : MH} {Q : Option Value → MH → Prop}
/-- a new cell of n slots -/
theorem q_mk {n : Nat} {pc' : Nat} {st' : List Value} {h' : MH}
    (hrow : ∀ (G : GC) (p : Program) (l : Launch) (e : Env) (R : Room) (s : State) (m : MethodId) (args : Array Value) (below : List Frame) (meth : Method) (c : Code) (Z : State → Prop) (H : Heap) (locs : List Loc) (lsR : Array Slot) (k n1 : Nat), cX G M p s m args meth c → relH G h H → va_S (gAA G) s.heap H locs → k + 1 ≤ R.cells → n1 + n ≤ R.slots →
      (∀ (H' : Heap), relH G h' H' → va_S (gAA G) s.heap H' locs → W p l e R s m args below meth c H' locs (k + 1) (n1 + n) Z (F0 m pc' lsR (st'.map (vm G)))) → W p l e R s m args below meth c H locs k n1 Z (F0 m pc lsR (st.map (vm G))))
    (kk : Wm M d b t pc' ls st' h' Q) : Wm M d (b + 1) (t + n) pc ls st h Q :=
  fun G p l e R s m args below meth c Z H locs lsR k n1 C hR hH hS hl he => hrow G p l e R s m args below meth c Z H locs lsR k n1 C hH hS (by omega) (by omega)
    (fun H' hH' hS' => kk G p l e R s m args below meth c Z H' locs lsR (k + 1) (n1 + n) C ⟨hR.1, hR.2.1, by omega, by omega⟩ hH' hS' hl (fun v h' H' locs' k' n' pc' lsR' i q r1 r2 r3 r4 => he v h' H' locs' k' n' pc' lsR' i q r1 r2 (by omega) (by omega)))
def aTy (k : Nat) : ArrayType := match k with
  | 2 => .int
  | 3 => .long
  | 4 => .byte
  | _ => .boolean
theorem q_newa {k N : Nat} {x : Int32} {aT : ArrayType} (hk : k = 2 ∨ k = 3 ∨ k = 4 ∨ k = 5) (haT : aT = aTy k) (hw : Cond.arrayClass (aty k) ∈ GW) (hx : ¬ x < 0) (hN' : x.toNatClampNeg = N) (hb9 : N ≤ 60000) (hd : decode (mB M) pc = .ok (.newarray aT, 2))
    (kk : Wm M d b t (pc + 2) ls (.ref (hN h) :: st) (al h (k, N)) Q) : Wm M d (b + 1) (t + N) pc ls (.int x :: st) h Q :=
  q_mk (n := N) (h' := al h (k, N)) (fun G p l e R s m args below meth cd Z H locs lsR kc n1 C hH hSS hcc hss k2 => by
    subst haT
    have ety : newarray.typeOf (aTy k) = aty k := by rcases hk with rfl | rfl | rfl | rfl <;> rfl
    have ebt : componentBytes (newarray.typeOf (aTy k)) ≤ 8 := by rcases hk with rfl | rfl | rfl | rfl <;> decide
    refine va_newaK (N := N) (h := H.size) C.1 C.2.1 (by rw [ety]; exact C.2.2.2.2.1 _ hw) rfl hd rfl hx hN' (by have := Nat.mul_le_mul hb9 ebt; omega) hcc hss rfl fun H' cA e1 e2 e3 hAr hfc => ?_
    have hcA : cA = gA G k := by
      have h1 := (C.2.2.2.2.2.1.2.1 k (by omega) (by omega)).2
      rw [ety] at hfc
      have h2 : s.vm.findClass ("[" ++ (aty k).toString) = some (gA G k) := by rcases hk with rfl | rfl | rfl | rfl <;> exact h1
      exact Option.some.inj (hfc.symm.trans h2)
    have hz := hH.2.2.2.2 (hN h)
    have k3 := k2 H' (hH.push (cell := arrV cA N (fun _ => defaultValue (newarray.typeOf (aTy k)))) (by show k ≠ 0; omega) e2 e1 e3 ?_) (hSS.push1 e2 e3)
    · have e : gad G (hN h) = H.size := gad_new hH
      simp only [List.map, vm, e] at k3
      exact k3
    · have hs' : hS (al h (k, N)) (hN h) = (k, N) := by rw [hS_al, if_pos rfl]
      unfold cOK
      rw [hs']
      rw [hcA]
      rcases hk with rfl | rfl | rfl | rfl
      · refine Or.inr (Or.inl ⟨Or.inl rfl, ?_⟩)
        show arrV _ _ _ = arrV _ _ _
        congr 1; funext j; rw [hI_al, (hz j (Nat.le_refl _)).1]; rfl
      · refine Or.inr (Or.inr (Or.inl ⟨rfl, ?_⟩))
        show arrV _ _ _ = arrV _ _ _
        congr 1; funext j; rw [hL_al, (hz j (Nat.le_refl _)).2.1]; rfl
      · refine Or.inr (Or.inl ⟨Or.inr (Or.inl rfl), ?_⟩)
        show arrV _ _ _ = arrV _ _ _
        congr 1; funext j; rw [hI_al, (hz j (Nat.le_refl _)).1]; rfl
      · refine Or.inr (Or.inl ⟨Or.inr (Or.inr rfl), ?_⟩)
        show arrV _ _ _ = arrV _ _ _
        congr 1; funext j; rw [hI_al, (hz j (Nat.le_refl _)).1]; rfl) kk
theorem q_anew {k N i : Nat} {x : Int32} {q : vw_C} (hk : k = 6 ∨ k = 7 ∨ k = 8) (hq : vwCl[ark k]? = some q) (hcl : Cond.classLink (mN M).cls i q.1 ∈ GW) (hx : ¬ x < 0) (hN' : x.toNatClampNeg = N) (hb9 : N ≤ 60000) (hd : decode (mB M) pc = .ok (.anewarray i, 3))
    (kk : Wm M d b t (pc + 3) ls (.ref (hN h) :: st) (al h (k, N)) Q) : Wm M d (b + 1) (t + N) pc ls (.int x :: st) h Q :=
  q_mk (n := N) (h' := al h (k, N)) (fun G p l e R s m args below meth cd Z H locs lsR kc n1 C hH hSS hcc hss k2 => by
    subst hN'
    obtain ⟨q', y1, y2⟩ := ark_cl hk
    cases hq.symm.trans y1
    refine W.anew C.1 C.2.1 C.2.2.2.1 (C.2.2.2.2.1 _ hcl) (va_AO.use (C.2.2.2.2.2.1.2.2.2.2 q.1 (by rcases hk with rfl | rfl | rfl <;> (cases hq; simp)))) rfl hd rfl hx (by omega) hcc hss fun cA kA comp f1 f2 f3 f4 => ?_
    generalize hH1 : H.push ({ cls := cA, slots := Array.replicate x.toNatClampNeg .null, vm := .none } : Cell) = H1
    have z1 : H1.size = H.size + 1 := by rw [← hH1, Array.size_push]
    have e1 : H1[H.size]? = some (arrV cA x.toNatClampNeg (fun _ => .null)) := by rw [← hH1, Array.getElem?_push_size, ← arrV_new]
    have o1 : ∀ q : Nat, q < H.size → H1[q]? = H[q]? := fun q hq => by rw [← hH1, Array.getElem?_push, if_neg (Nat.ne_of_lt hq)]
    have hcA : cA = gA G k := by
      have h1 := (C.2.2.2.2.2.1.2.1 k (by omega) (by omega)).2
      rw [y2] at h1
      obtain ⟨_, _, -, -, -, h4⟩ := h1
      exact Option.some.inj (f1.symm.trans h4)
    have hz := hH.2.2.2.2 (hN h)
    have k3 := k2 H1 (hH.push (cell := arrV cA x.toNatClampNeg (fun _ => .null)) (by show k ≠ 0; omega) z1 e1 o1 ?_) (hSS.push1 z1 o1)
    · have e : gad G (hN h) = H.size := gad_new hH
      simp only [List.map, vm, e] at k3
      exact k3
    · have hs' : hS (al h (k, x.toNatClampNeg)) (hN h) = (k, x.toNatClampNeg) := by rw [hS_al, if_pos rfl]
      unfold cOK
      rw [hs']
      rw [hcA]
      refine Or.inr (Or.inr (Or.inr ⟨hk, ?_⟩))
      show arrV _ _ _ = arrV _ _ _
      congr 1; funext j; rw [hR_al, (hz j (Nat.le_refl _)).2.2]; rfl) kk
theorem fty_nofloat : ∀ (c : Nat) (q : vw_C), vwCl[c]? = some q → ∀ k, k < q.2.2 → isIt (fty c k) = true ∨ isRt (fty c k) = true ∨ fty c k = .long := by
  intro c q hq
  have hc := cl_cases hq
  have h11 : c = 0 ∨ c = 1 ∨ c = 2 ∨ c = 3 ∨ c = 4 ∨ c = 5 ∨ c = 6 ∨ c = 7 ∨ c = 8 ∨ c = 9 ∨ c = 10 := by omega
  rcases h11 with rfl | rfl | rfl | rfl | rfl | rfl | rfl | rfl | rfl | rfl | rfl <;> (cases hq; decide +kernel)
theorem q_new {c i : Nat} {q : vw_C} (hq : vwCl[c]? = some q) (hcl : Cond.classLink (mN M).cls i q.1 ∈ GW) (hin : Cond.instantiable q.1 q.2.2 ∈ GW) (hini : Cond.initialized q.1 ∈ GW) (hd : decode (mB M) pc = .ok (.new i, 3))
    (kk : Wm M d b t (pc + 3) ls (.ref (hN h) :: st) (al h (1, c)) Q) : Wm M d (b + 1) (t + q.2.2) pc ls st h Q :=
  q_mk (n := q.2.2) (h' := al h (1, c)) (fun G p l e R s m args below meth cd Z H locs lsR kc n1 C hH hSS hcc hss k2 => by
    have hK := C.2.2.2.2.2.1.1 c q hq
    refine W.newcK (h := H.size) (cC := gC G c) C.1 C.2.1 C.2.2.2.1 (C.2.2.2.2.1 _ hcl) (C.2.2.2.2.1 _ hin) (C.2.2.2.2.1 _ hini) rfl hd hcc hss hK.2.1 rfl fun H' kC hkC e1 e2 e3 => ?_
    have hz := hH.2.2.2.2 (hN h)
    obtain ⟨cell, b1, b2, b3, b4⟩ := u_born (fty c) C.2.2.2.2.1 (uws_in c q hq) hK hkC e1 (fty_ok c q hq)
    have k3 := k2 H' (hH.push (cell := cell) (by exact Nat.one_ne_zero) e2 b1 e3 ?_) (hSS.push1 e2 e3)
    · have e : gad G (hN h) = H.size := gad_new hH
      simp only [List.map, vm, e] at k3
      exact k3
    · have hs' : hS (al h (1, c)) (hN h) = (1, c) := by rw [hS_al, if_pos rfl]
      unfold cOK
      rw [hs']
      refine Or.inl ⟨rfl, q, hq, b2, b3, fun k hk => ?_⟩
      have b5 : cell.slots[gI G c k]? = some (defaultValue (fty c k)) := b4 k hk
      rw [b5]
      rcases fty_nofloat c q hq k hk with h1 | h1 | h1
      · rw [fv_I h1, hI_al, (hz k (Nat.le_refl _)).1]
        cases hty : fty c k <;> rw [hty] at h1 <;> simp [isIt] at h1 <;> rfl
      · rw [fv_R h1, hR_al, (hz k (Nat.le_refl _)).2.2]
        cases hty : fty c k <;> rw [hty] at h1 <;> simp [isRt] at h1 <;> rfl
      · rw [h1]
        show _ = some (Value.long (hL _ _ _))
        rw [hL_al, (hz k (Nat.le_refl _)).2.1]
        rfl) kk
/-! the end -/
theorem q_ret {v : Int32} (hr : mR M = some .int) (hd : decode (mB M) pc = .ok (.ireturn, 1)) (hq : Q (some (.int v)) h) : Wm M d b t pc ls [.int v] h Q :=
  fun G p l e R s m args below meth c Z H locs lsR k n C hR hH hS hl he => he (some (.int v)) h H locs k n pc lsR .ireturn hq hH hS (by omega) (by omega) hd (Or.inr (Or.inl ⟨v, rfl, rfl, .int, hr, rfl⟩))
theorem q_retZ {v : Int32} (hr : mR M = some .boolean) (hv : v = 0 ∨ v = 1) (hd : decode (mB M) pc = .ok (.ireturn, 1)) (hq : Q (some (.int v)) h) : Wm M d b t pc ls [.int v] h Q :=
  fun G p l e R s m args below meth c Z H locs lsR k n C hR hH hS hl he => he (some (.int v)) h H locs k n pc lsR .ireturn hq hH hS (by omega) (by omega) hd (Or.inr (Or.inl ⟨v, rfl, rfl, .boolean, hr, by rcases hv with rfl | rfl <;> rfl⟩))
theorem q_retT {v : Int32} {ty : FieldType} (hr : mR M = some ty) (hv : narrow ty (.int v) = .int v) (hd : decode (mB M) pc = .ok (.ireturn, 1)) (hq : Q (some (.int v)) h) : Wm M d b t pc ls [.int v] h Q :=
  fun G p l e R s m args below meth c Z H locs lsR k n C hR hH hS hl he => he (some (.int v)) h H locs k n pc lsR .ireturn hq hH hS (by omega) (by omega) hd (Or.inr (Or.inl ⟨v, rfl, rfl, ty, hr, hv⟩))
theorem q_retL {v : Int64} (hr : mR M = some .long) (hd : decode (mB M) pc = .ok (.lreturn, 1)) (hq : Q (some (.long v)) h) : Wm M d b t pc ls [.long v] h Q :=
  fun G p l e R s m args below meth c Z H locs lsR k n C hR hH hS hl he => he (some (.long v)) h H locs k n pc lsR .lreturn hq hH hS (by omega) (by omega) hd (Or.inr (Or.inr (Or.inl ⟨v, rfl, rfl, hr⟩)))
theorem q_retR {r : Option Nat} (hr : (∃ n, mR M = some (.object n)) ∨ ∃ t, mR M = some (.array t)) (hd : decode (mB M) pc = .ok (.areturn, 1)) (hq : Q (some (fromR r)) h) : Wm M d b t pc ls [fromR r] h Q :=
  fun G p l e R s m args below meth c Z H locs lsR k n C hR hH hS hl he => he (some (fromR r)) h H locs k n pc lsR .areturn hq hH hS (by omega) (by omega) hd (Or.inr (Or.inr (Or.inr ⟨r, rfl, rfl, hr⟩)))
theorem q_retV (hr : mR M = none) (hd : decode (mB M) pc = .ok (.return_, 1)) (hq : Q none h) : Wm M d b t pc ls [] h Q :=
  fun G p l e R s m args below meth c Z H locs lsR k n C hR hH hS hl he => he none h H locs k n pc lsR .return_ hq hH hS (by omega) (by omega) hd (Or.inl ⟨rfl, hr, rfl⟩)
end QN
