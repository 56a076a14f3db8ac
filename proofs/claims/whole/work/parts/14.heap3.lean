/-! ===== rows of the lighter logic: stores into arrays, new cells, the end ===== -/
section QH
variable {M : MI} {d b t pc : Nat} {ls : List (Option Value)} {st : List Value} {h : MH} {Q : Option Value → MH → Prop}
theorem relH.putRowI {G : GC} {H H' : Heap} {a n k j : Nat} {x : Int32} (hH : relH G h H) (hs : hS h a = (k, n)) (hk : k = 2 ∨ k = 4 ∨ k = 5) (e1 : H'[gad G a]? = some ((arrV (gA G k) n (fun j => .int (hI h a j))).setSlot j (.int x))) (e2 : H'.size = H.size) (e3 : ∀ q, q ≠ gad G a → H'[q]? = H[q]?) : relH G (sI h a j x) H' := by
  have hs1 : (hS h a).1 ≠ 0 := by rw [hs]; show k ≠ 0; omega
  refine hH.put (h' := sI h a j x) hs1 rfl rfl e2 e3 ⟨_, e1, ?_⟩ (fun b j hb => ⟨hI_sI_ne hb, rfl, rfl⟩)
  have hs' : hS (sI h a j x) a = (k, n) := hs
  unfold cOK
  rw [hs']
  refine Or.inr (Or.inl ⟨hk, ?_⟩)
  rw [arrV_store]
  show arrV (gA G k) n _ = arrV (gA G k) n _
  congr 1
  funext i
  unfold updV
  rw [hI_sI]
  by_cases hi : i = j
  · rw [if_pos hi, if_pos ⟨rfl, hi⟩]
  · rw [if_neg hi, if_neg (fun q => hi q.2)]
theorem q_iast {a n : Nat} {j x : Int32} (hs : hS h a = (2, n)) (hin : vp_in j n) (hd : decode (mB M) pc = .ok (.iastore, 1)) (kk : Wm M d b t (pc + 1) ls st (sI h a j.toNatClampNeg x) Q) : Wm M d b t pc ls (.int x :: .int j :: .ref a :: st) h Q :=
  q_wr (fun G p l e R s m args below meth cd Z H locs lsR kc nc C hH hSS k2 => by
    have hs1 : (hS h a).1 ≠ 0 := by rw [hs]; exact Nat.succ_ne_zero 1
    refine W.iast C.1 C.2.1 (hH.rowI hs (Or.inl rfl)) ((C.2.2.2.2.2.1.2.1 2 (by decide) (by decide)).1 n (fun j => .int (hI h a j))) (fun q => by cases q) (by show ¬ (j < 0 ∨ (arrV _ _ _).slots.size ≤ _); rw [arrV_size]; exact hin) rfl rfl hd fun H' e1 e2 e3 => ?_
    exact k2 H' _ (hH.putRowI hs (Or.inl rfl) e1 e2 e3) (hSS.put1 e2 e3 (gAA_of hH hs1))) kk
theorem q_bast {a n : Nat} {j x : Int32} (hs : hS h a = (4, n)) (hin : vp_in j n) (hd : decode (mB M) pc = .ok (.bastore, 1)) (kk : Wm M d b t (pc + 1) ls st (sI h a j.toNatClampNeg x.toInt8.toInt32) Q) : Wm M d b t pc ls (.int x :: .int j :: .ref a :: st) h Q :=
  q_wr (fun G p l e R s m args below meth cd Z H locs lsR kc nc C hH hSS k2 => by
    have hs1 : (hS h a).1 ≠ 0 := by rw [hs]; exact Nat.succ_ne_zero 3
    refine W.bast C.1 C.2.1 (hH.rowI hs (Or.inr (Or.inl rfl))) ((C.2.2.2.2.2.1.2.1 4 (by decide) (by decide)).1 n (fun j => .int (hI h a j))) (fun q => by cases q) (by show ¬ (j < 0 ∨ (arrV _ _ _).slots.size ≤ _); rw [arrV_size]; exact hin) rfl rfl hd fun H' e1 e2 e3 => ?_
    exact k2 H' _ (hH.putRowI hs (Or.inr (Or.inl rfl)) e1 e2 e3) (hSS.put1 e2 e3 (gAA_of hH hs1))) kk
theorem q_zast {a n : Nat} {j x : Int32} (hx : x = 0 ∨ x = 1) (hs : hS h a = (5, n)) (hin : vp_in j n) (hd : decode (mB M) pc = .ok (.bastore, 1)) (kk : Wm M d b t (pc + 1) ls st (sI h a j.toNatClampNeg x) Q) : Wm M d b t pc ls (.int x :: .int j :: .ref a :: st) h Q :=
  q_wr (fun G p l e R s m args below meth cd Z H locs lsR kc nc C hH hSS k2 => by
    have hs1 : (hS h a).1 ≠ 0 := by rw [hs]; exact Nat.succ_ne_zero 4
    refine W.zast C.1 C.2.1 (hH.rowI hs (Or.inr (Or.inr rfl))) ((C.2.2.2.2.2.1.2.1 5 (by decide) (by decide)).1 n (fun j => .int (hI h a j))) (fun q => by cases q) (by show ¬ (j < 0 ∨ (arrV _ _ _).slots.size ≤ _); rw [arrV_size]; exact hin) rfl rfl hd fun H' e1 e2 e3 => ?_
    have e1' : H'[gad G a]? = some ((arrV (gA G 5) n (fun j => .int (hI h a j))).setSlot j.toNatClampNeg (.int x)) := by rcases hx with rfl | rfl <;> exact e1
    exact k2 H' _ (hH.putRowI hs (Or.inr (Or.inr rfl)) e1' e2 e3) (hSS.put1 e2 e3 (gAA_of hH hs1))) kk
theorem q_last {a n : Nat} {j : Int32} {x : Int64} (hs : hS h a = (3, n)) (hin : vp_in j n) (hd : decode (mB M) pc = .ok (.lastore, 1)) (kk : Wm M d b t (pc + 1) ls st (sL h a j.toNatClampNeg x) Q) : Wm M d b t pc ls (.long x :: .int j :: .ref a :: st) h Q :=
  q_wr (fun G p l e R s m args below meth cd Z H locs lsR kc nc C hH hSS k2 => by
    have hs1 : (hS h a).1 ≠ 0 := by rw [hs]; exact Nat.succ_ne_zero 2
    refine W.last C.1 C.2.1 (hH.rowL hs) ((C.2.2.2.2.2.1.2.1 3 (by decide) (by decide)).1 n (fun j => .long (hL h a j))) (fun q => by cases q) (by show ¬ (j < 0 ∨ (arrV _ _ _).slots.size ≤ _); rw [arrV_size]; exact hin) rfl rfl hd fun H' e1 e2 e3 => ?_
    refine k2 H' _ (hH.put (h' := sL h a j.toNatClampNeg x) hs1 rfl rfl e2 e3 ⟨_, e1, ?_⟩ (fun b j hb => ⟨rfl, hL_sL_ne hb, rfl⟩)) (hSS.put1 e2 e3 (gAA_of hH hs1))
    have hs' : hS (sL h a j.toNatClampNeg x) a = (3, n) := hs
    unfold cOK
    rw [hs']
    refine Or.inr (Or.inr (Or.inl ⟨rfl, ?_⟩))
    rw [arrV_store]
    show arrV (gA G 3) n _ = arrV (gA G 3) n _
    congr 1
    funext i
    unfold updV
    rw [hL_sL]
    by_cases hi : i = j.toNatClampNeg
    · rw [if_pos hi, if_pos ⟨rfl, hi⟩]
    · rw [if_neg hi, if_neg (fun q => hi q.2)]) kk
/-- the class of what an array of kind k holds -/
def ark (k : Nat) : Nat := match k with
  | 6 => 6
  | 7 => 8
  | _ => 4
theorem ark_cl {k : Nat} (hk : k = 6 ∨ k = 7 ∨ k = 8) : ∃ q, vwCl[ark k]? = some q ∧ aty k = .object q.1 := by rcases hk with rfl | rfl | rfl <;> exact ⟨_, rfl, rfl⟩
theorem q_aast {a n k x : Nat} {j : Int32} (hk : k = 6 ∨ k = 7 ∨ k = 8) (hs : hS h a = (k, n)) (hx : hS h x = (1, ark k)) (hin : vp_in j n) (hd : decode (mB M) pc = .ok (.aastore, 1)) (kk : Wm M d b t (pc + 1) ls st (sR h a j.toNatClampNeg (some x)) Q) : Wm M d b t pc ls (.ref x :: .int j :: .ref a :: st) h Q :=
  q_wr (fun G p l e R s m args below meth cd Z H locs lsR kc nc C hH hSS k2 => by
    have hs1 : (hS h a).1 ≠ 0 := by rw [hs]; show k ≠ 0; omega
    obtain ⟨q, cellX, x1, x2, x3, x4, x5⟩ := hH.obj hx
    obtain ⟨q', y1, y2⟩ := ark_cl hk
    cases x1.symm.trans y1
    have hK := C.2.2.2.2.2.1
    obtain ⟨-, hfc, kX, hkX, -⟩ := hK.1 _ q x1
    have hRA := (hK.2.1 k (by omega) (by omega)).2
    rw [y2] at hRA
    obtain ⟨kA, comp, r1, r2, r3, r4⟩ := hRA
    have hlt : j.toNatClampNeg < n := Nat.not_le.mp fun q => hin (Or.inr q)
    have hcomp : comp = cellX.cls := by rw [x3]; exact Option.some.inj (r3.symm.trans hfc)
    refine W.aast C.1 C.2.1 (v := gad G x) (k := kA) (kv := kX) (kcomp := kX) (comp := comp) (t := .object q.1) (hH.rowR hs hk) (fun z => by intro w; cases w) (fun z => by cases z) r1 r2 rfl (by rw [hcomp, x3]; exact hkX) ⟨fun z => hin (Or.inl z), by show _ < (arrV _ _ _).slots.size; rw [arrV_size]; exact hlt⟩ x2 (fun z => by rw [x4]; intro w; cases w) (by rw [x3]; exact hkX) (by rw [hcomp]; exact Vm.assignable_self _ _) rfl rfl hd fun H' e1 e2 e3 => ?_
    refine k2 H' _ (hH.put (h' := sR h a j.toNatClampNeg (some x)) hs1 rfl rfl e2 e3 ⟨_, e1, ?_⟩ (fun b j hb => ⟨rfl, rfl, hR_sR_ne hb⟩)) (hSS.put1 e2 e3 (gAA_of hH hs1))
    have hs' : hS (sR h a j.toNatClampNeg (some x)) a = (k, n) := hs
    unfold cOK
    rw [hs']
    refine Or.inr (Or.inr (Or.inr ⟨hk, ?_⟩))
    rw [arrV_store]
    show arrV (gA G k) n _ = arrV (gA G k) n _
    congr 1
    funext i
    unfold updV
    rw [hR_sR]
    by_cases hi : i = j.toNatClampNeg
    · rw [if_pos hi, if_pos ⟨rfl, hi⟩]
      rfl
    · rw [if_neg hi, if_neg (fun q => hi q.2)]) kk
end QH
