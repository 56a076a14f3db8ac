/-! ===== rows of the lighter logic: writes of fields; arrays ===== -/
/-- entry i of a class's pool is field k of class c, and a method of this name may write it -/
def fW (own nm : String) (i c k : Nat) : Prop := ∃ q, vwCl[c]? = some q ∧ k < q.2.2 ∧ Cond.fieldLink own i (q.2.1 k).1 (q.2.1 k).2.1 (q.2.1 k).2.2.1 ∈ GW ∧ ((q.2.1 k).2.2.2 = false ∨ ((q.2.1 k).2.2.2 = true ∧ nm = "<init>" ∧ (q.2.1 k).1 = own))
section QH
variable {M : MI} {d b t pc : Nat} {ls : List (Option Value)} {st : List Value} {h : MH} {Q : Option Value → MH → Prop}
theorem q_put {i c k a : Nat} {v : Value} {h' : MH} (hf : fW (mN M).cls (mN M).name i c k) (hs : hS h a = (1, c)) (hn : ∀ G, narrow (fty c k) (vm G v) = vm G v) (hfit : ∀ G, fits (fty c k) (vm G v) = true)
    (hh : h'.1 = h.1) (hnn : hN h' = hN h) (hk' : ∀ G, fv G (fty c k) h' a k = vm G v) (hko : ∀ G ty j, j ≠ k → fv G ty h' a j = fv G ty h a j) (ho : ∀ b j, b ≠ a → hI h' b j = hI h b j ∧ hL h' b j = hL h b j ∧ hR h' b j = hR h b j)
    (hd : decode (mB M) pc = .ok (.putfield i, 3)) (kk : Wm M d b t (pc + 3) ls st h' Q) : Wm M d b t pc ls (v :: .ref a :: st) h Q :=
  q_wr (fun G p l e R s m args below meth cd Z H locs lsR kc n C hH hSS k2 => by
    obtain ⟨q, f1, f2, f3, f4⟩ := hf
    obtain ⟨q', cell, o1, o2, o3, o4, o5⟩ := hH.obj hs
    cases f1.symm.trans o1
    obtain ⟨hx, hb, hml, hown, hts, hK, -, hname, -⟩ := C
    have hap : ∀ x y, x < q.2.2 → y < q.2.2 → x ≠ y → gI G c x ≠ gI G c y := va_apart (own := (mN M).cls) (D := (gC G, gI G)) (cl := vwCl) (tys := []) (C := q.1) (T := q.2.1) (N := q.2.2) (ci := c) hts (uws_in c q f1) (fty c) (fty_ok c q f1) (fnm_ok c q f1) ⟨hK.1, fun k z hz => by simp at hz⟩ f1
    obtain ⟨hS', hfc, kC, hkC, hkind⟩ := hK.1 c q f1
    obtain ⟨cf, kf, fi, f, hi, hsl⟩ := hS' k f2
    have hlay := hts _ (uws_in c q f1 _ (u_in_lay f2))
    have hst := (u_facts hfc hkC (u_lays (ws := GW) hts (uws_in c q f1) f2) hi).1
    have hs1 : (hS h a).1 ≠ 0 := by rw [hs]; exact Nat.one_ne_zero
    have fin : ∀ (H' : Heap), H'[gad G a]? = some (cell.setSlot (gI G c k) (vm G v)) → H'.size = H.size → (∀ q, q ≠ gad G a → H'[q]? = H[q]?) → W p l e R s m args below meth cd H' (locs ++ [⟨gad G a, gI G c k⟩]) kc n Z (F0 m (pc + 3) lsR (st.map (vm G))) := by
      intro H' e1 e2 e3
      refine k2 H' _ (hH.put hs1 hh hnn e2 e3 ⟨_, e1, ?_⟩ ho) (hSS.put1 e2 e3 (gAA_of hH hs1))
      have hs' : hS h' a = (1, c) := by unfold hS; rw [hh]; exact hs
      unfold cOK
      rw [hs']
      refine Or.inl ⟨rfl, q, f1, o3, o4, fun j hj => ?_⟩
      have h1 := t_set (V := fun j => fv G (fty c j) h a j) o5 hap f2 (vm G v) j hj
      rw [h1]
      unfold updV
      by_cases hjk : j = k
      · subst hjk
        rw [if_pos rfl, hk' G]
      · rw [if_neg hjk, hko G _ j hjk]
    unfold u_lay at hlay
    rcases f4 with f4 | ⟨f4, f5, f6⟩
    · rw [if_neg (by rw [f4]; decide)] at hlay
      have h6 := u_store hfc hkC hkind hlay hi (fty_ok c q f1 k f2) (hn G) (hfit G)
      refine W.putK hx hb (f := f) ⟨hown, hts _ f3, ⟨_, _, _, hi⟩, hst⟩ (by rw [o3]; exact h6) o2 o4 (by rw [hsl]; exact k2_hasslot (o5 k f2)) rfl rfl hd fun H' e1 e2 e3 => ?_
      rw [hsl] at e1 ⊢
      exact fin H' e1 e2 e3
    · rw [if_pos f4] at hlay
      have hcf : m.cls = cf := by
        obtain ⟨_, _, c', _, _, _, -, -, hf', -, -, -, hown2, -⟩ := Cond.laysFinal_spec hlay
        have e1 : c' = cf := by have := hi.symm.trans hf'; simp at this; exact this.1.symm
        rw [f6] at hown2
        rw [← e1]; exact Option.some.inj (hown.symm.trans hown2)
      have h6 := u_fits hfc hkC hkind (Or.inr hlay) hi (fty_ok c q f1 k f2) (hn G) (hfit G)
      refine W.putFinK hx hb hown (hts _ f3) hi hst hcf (hname.trans f5) (by rw [o3]; exact h6) o2 o4 (by rw [hsl]; exact k2_hasslot (o5 k f2)) rfl rfl hd fun H' e1 e2 e3 => ?_
      rw [hsl] at e1 ⊢
      exact fin H' e1 e2 e3) kk
theorem fv_sI_ne {G : GC} {ty : FieldType} {a k j : Nat} {v : Int32} (hj : j ≠ k) : fv G ty (sI h a k v) a j = fv G ty h a j := by
  have e : hI (sI h a k v) a j = hI h a j := by rw [hI_sI, if_neg (fun q => hj q.2)]
  unfold fv
  rw [e]
  rfl
theorem fv_sL_ne {G : GC} {ty : FieldType} {a k j : Nat} {v : Int64} (hj : j ≠ k) : fv G ty (sL h a k v) a j = fv G ty h a j := by
  have e : hL (sL h a k v) a j = hL h a j := by rw [hL_sL, if_neg (fun q => hj q.2)]
  unfold fv
  rw [e]
  rfl
theorem fv_sR_ne {G : GC} {ty : FieldType} {a k j : Nat} {v : Option Nat} (hj : j ≠ k) : fv G ty (sR h a k v) a j = fv G ty h a j := by
  have e : hR (sR h a k v) a j = hR h a j := by rw [hR_sR, if_neg (fun q => hj q.2)]
  unfold fv
  rw [e]
  rfl
theorem q_putI {i c k a : Nat} {v : Int32} (hf : fW (mN M).cls (mN M).name i c k) (ht : fty c k = .int) (hs : hS h a = (1, c)) (hd : decode (mB M) pc = .ok (.putfield i, 3)) (kk : Wm M d b t (pc + 3) ls st (sI h a k v) Q) : Wm M d b t pc ls (.int v :: .ref a :: st) h Q :=
  q_put (h' := sI h a k v) hf hs (fun G => by rw [ht]; rfl) (fun G => by rw [ht]; rfl) rfl rfl (fun G => by rw [ht]; show Value.int (hI _ a k) = _; rw [hI_sI, if_pos ⟨rfl, rfl⟩]; rfl) (fun G ty j hj => fv_sI_ne hj) (fun b j hb => ⟨hI_sI_ne hb, rfl, rfl⟩) hd kk
theorem q_putZ {i c k a : Nat} {v : Int32} (hf : fW (mN M).cls (mN M).name i c k) (ht : fty c k = .boolean) (hv : v = 0 ∨ v = 1) (hs : hS h a = (1, c)) (hd : decode (mB M) pc = .ok (.putfield i, 3)) (kk : Wm M d b t (pc + 3) ls st (sI h a k v) Q) : Wm M d b t pc ls (.int v :: .ref a :: st) h Q :=
  q_put (h' := sI h a k v) hf hs (fun G => by rw [ht]; rcases hv with rfl | rfl <;> rfl) (fun G => by rw [ht]; rcases hv with rfl | rfl <;> rfl) rfl rfl (fun G => by rw [ht]; show Value.int (hI _ a k) = _; rw [hI_sI, if_pos ⟨rfl, rfl⟩]; rfl) (fun G ty j hj => fv_sI_ne hj) (fun b j hb => ⟨hI_sI_ne hb, rfl, rfl⟩) hd kk
theorem q_putL {i c k a : Nat} {v : Int64} (hf : fW (mN M).cls (mN M).name i c k) (ht : fty c k = .long) (hs : hS h a = (1, c)) (hd : decode (mB M) pc = .ok (.putfield i, 3)) (kk : Wm M d b t (pc + 3) ls st (sL h a k v) Q) : Wm M d b t pc ls (.long v :: .ref a :: st) h Q :=
  q_put (h' := sL h a k v) hf hs (fun G => by rw [ht]; rfl) (fun G => by rw [ht]; rfl) rfl rfl (fun G => by rw [ht]; show Value.long (hL _ a k) = _; rw [hL_sL, if_pos ⟨rfl, rfl⟩]; rfl) (fun G ty j hj => fv_sL_ne hj) (fun b j hb => ⟨rfl, hL_sL_ne hb, rfl⟩) hd kk
theorem q_putRq {i c k a : Nat} {r : Option Nat} (hf : fW (mN M).cls (mN M).name i c k) (ht : isRt (fty c k) = true) (hs : hS h a = (1, c)) (hd : decode (mB M) pc = .ok (.putfield i, 3)) (kk : Wm M d b t (pc + 3) ls st (sR h a k r) Q) : Wm M d b t pc ls (fromR r :: .ref a :: st) h Q :=
  q_put (h' := sR h a k r) hf hs (fun G => by cases hty : fty c k <;> rw [hty] at ht <;> simp [isRt] at ht <;> cases r <;> rfl) (fun G => by cases hty : fty c k <;> rw [hty] at ht <;> simp [isRt] at ht <;> cases r <;> rfl) rfl rfl (fun G => by rw [fv_R ht, hR_sR, if_pos ⟨rfl, rfl⟩, vm_fromR]) (fun G ty j hj => fv_sR_ne hj) (fun b j hb => ⟨rfl, rfl, hR_sR_ne hb⟩) hd kk
theorem q_putR {i c k a x : Nat} (hf : fW (mN M).cls (mN M).name i c k) (ht : isRt (fty c k) = true) (hs : hS h a = (1, c)) (hd : decode (mB M) pc = .ok (.putfield i, 3)) (kk : Wm M d b t (pc + 3) ls st (sR h a k (some x)) Q) : Wm M d b t pc ls (.ref x :: .ref a :: st) h Q := q_putRq (r := some x) hf ht hs hd kk
/-! arrays -/
theorem q_iald {a n : Nat} {j : Int32} (hs : hS h a = (2, n)) (hin : vp_in j n) (hd : decode (mB M) pc = .ok (.iaload, 1)) (kk : Wm M d b t (pc + 1) ls (.int (hI h a j.toNatClampNeg) :: st) h Q) : Wm M d b t pc ls (.int j :: .ref a :: st) h Q :=
  q_read (fun G p l e R s m args below meth cd Z H locs lsR kc nc C hH k2 => by
    have hlt : j.toNatClampNeg < n := Nat.not_le.mp fun q => hin (Or.inr q)
    exact W.iald (v := .int (hI h a j.toNatClampNeg)) C.1 C.2.1 (hH.rowI hs (Or.inl rfl)) ((C.2.2.2.2.2.1.2.1 2 (by decide) (by decide)).1 n (fun j => .int (hI h a j))) (fun q => by cases q) (by show ¬ (j < 0 ∨ (arrV _ _ _).slots.size ≤ _); rw [arrV_size]; exact hin) (by show (arrV _ _ _).slots[_]? = _; rw [arrV_read _ _ hlt]) rfl rfl hd k2) kk
theorem q_bald {a n : Nat} {j : Int32} (hs : hS h a = (4, n)) (hin : vp_in j n) (hd : decode (mB M) pc = .ok (.baload, 1)) (kk : Wm M d b t (pc + 1) ls (.int (hI h a j.toNatClampNeg) :: st) h Q) : Wm M d b t pc ls (.int j :: .ref a :: st) h Q :=
  q_read (fun G p l e R s m args below meth cd Z H locs lsR kc nc C hH k2 => by
    have hlt : j.toNatClampNeg < n := Nat.not_le.mp fun q => hin (Or.inr q)
    exact W.bald (v := .int (hI h a j.toNatClampNeg)) C.1 C.2.1 (hH.rowI hs (Or.inr (Or.inl rfl))) ((C.2.2.2.2.2.1.2.1 4 (by decide) (by decide)).1 n (fun j => .int (hI h a j))) (fun q => by cases q) (by show ¬ (j < 0 ∨ (arrV _ _ _).slots.size ≤ _); rw [arrV_size]; exact hin) (by show (arrV _ _ _).slots[_]? = _; rw [arrV_read _ _ hlt]) rfl rfl hd k2) kk
theorem q_zald {a n : Nat} {j : Int32} (hs : hS h a = (5, n)) (hin : vp_in j n) (hd : decode (mB M) pc = .ok (.baload, 1)) (kk : Wm M d b t (pc + 1) ls (.int (hI h a j.toNatClampNeg) :: st) h Q) : Wm M d b t pc ls (.int j :: .ref a :: st) h Q :=
  q_read (fun G p l e R s m args below meth cd Z H locs lsR kc nc C hH k2 => by
    have hlt : j.toNatClampNeg < n := Nat.not_le.mp fun q => hin (Or.inr q)
    exact W.zald (v := .int (hI h a j.toNatClampNeg)) C.1 C.2.1 (hH.rowI hs (Or.inr (Or.inr rfl))) ((C.2.2.2.2.2.1.2.1 5 (by decide) (by decide)).1 n (fun j => .int (hI h a j))) (fun q => by cases q) (by show ¬ (j < 0 ∨ (arrV _ _ _).slots.size ≤ _); rw [arrV_size]; exact hin) (by show (arrV _ _ _).slots[_]? = _; rw [arrV_read _ _ hlt]) rfl rfl hd k2) kk
theorem q_lald {a n : Nat} {j : Int32} (hs : hS h a = (3, n)) (hin : vp_in j n) (hd : decode (mB M) pc = .ok (.laload, 1)) (kk : Wm M d b t (pc + 1) ls (.long (hL h a j.toNatClampNeg) :: st) h Q) : Wm M d b t pc ls (.int j :: .ref a :: st) h Q :=
  q_read (fun G p l e R s m args below meth cd Z H locs lsR kc nc C hH k2 => by
    have hlt : j.toNatClampNeg < n := Nat.not_le.mp fun q => hin (Or.inr q)
    exact W.lald (v := .long (hL h a j.toNatClampNeg)) C.1 C.2.1 (hH.rowL hs) ((C.2.2.2.2.2.1.2.1 3 (by decide) (by decide)).1 n (fun j => .long (hL h a j))) (fun q => by cases q) (by show ¬ (j < 0 ∨ (arrV _ _ _).slots.size ≤ _); rw [arrV_size]; exact hin) (by show (arrV _ _ _).slots[_]? = _; rw [arrV_read _ _ hlt]) rfl rfl hd k2) kk
theorem aty_ref {k : Nat} (hk : k = 6 ∨ k = 7 ∨ k = 8) : (aty k).isReference = true := by rcases hk with rfl | rfl | rfl <;> rfl
theorem q_aaldq {a n k : Nat} {j : Int32} (hk : k = 6 ∨ k = 7 ∨ k = 8) (hs : hS h a = (k, n)) (hin : vp_in j n) (hd : decode (mB M) pc = .ok (.aaload, 1)) (kk : Wm M d b t (pc + 1) ls (fromR (hR h a j.toNatClampNeg) :: st) h Q) : Wm M d b t pc ls (.int j :: .ref a :: st) h Q :=
  q_read (fun G p l e R s m args below meth cd Z H locs lsR kc nc C hH k2 => by
    have hlt : j.toNatClampNeg < n := Nat.not_le.mp fun q => hin (Or.inr q)
    refine W.aald (v := rv G (hR h a j.toNatClampNeg)) C.1 C.2.1 (hH.rowR hs hk) ((C.2.2.2.2.2.1.2.1 k (by omega) (by omega)).1 n (fun j => rv G (hR h a j))) (aty_ref hk) (fun q => by cases q) (by show ¬ (j < 0 ∨ (arrV _ _ _).slots.size ≤ _); rw [arrV_size]; exact hin) (by show (arrV _ _ _).slots[_]? = _; rw [arrV_read _ _ hlt]) rfl rfl hd ?_
    rw [← vm_fromR]
    exact k2) kk
theorem q_aald {a n k x : Nat} {j : Int32} (hk : k = 6 ∨ k = 7 ∨ k = 8) (hs : hS h a = (k, n)) (hin : vp_in j n) (hr : hR h a j.toNatClampNeg = some x) (hd : decode (mB M) pc = .ok (.aaload, 1)) (kk : Wm M d b t (pc + 1) ls (.ref x :: st) h Q) : Wm M d b t pc ls (.int j :: .ref a :: st) h Q := q_aaldq hk hs hin hd (by rw [hr]; exact kk)
theorem q_alen {a n k : Nat} (hk : 2 ≤ k ∧ k ≤ 8) (hs : hS h a = (k, n)) (hd : decode (mB M) pc = .ok (.arraylength, 1)) (kk : Wm M d b t (pc + 1) ls (.int (Int32.ofNat n) :: st) h Q) : Wm M d b t pc ls (.ref a :: st) h Q :=
  q_read (fun G p l e R s m args below meth cd Z H locs lsR kc nc C hH k2 => by
    have hA := (C.2.2.2.2.2.1.2.1 k hk.1 hk.2).1
    have hcell : ∃ f, H[gad G a]? = some (arrV (gA G k) n f) := by
      have h7 : (k = 2 ∨ k = 4 ∨ k = 5) ∨ k = 3 ∨ (k = 6 ∨ k = 7 ∨ k = 8) := by omega
      rcases h7 with h7 | h7 | h7
      · exact ⟨_, hH.rowI hs h7⟩
      · subst h7; exact ⟨_, hH.rowL hs⟩
      · exact ⟨_, hH.rowR hs h7⟩
    obtain ⟨f, hf⟩ := hcell
    exact W.alen (n := Int32.ofNat n) C.1 C.2.1 hf (hA n f) (by rw [arrV_size] <;> rfl) rfl rfl hd k2) kk
end QH
