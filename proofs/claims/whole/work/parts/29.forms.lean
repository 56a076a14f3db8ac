/-! ===== the lighter logic: forms that a program's rows use ===== -/
def pI (P : Int32 → MH → Prop) : Option Value → MH → Prop := fun v h => ∃ r, v = some (.int r) ∧ P r h
def pL (P : Int64 → MH → Prop) : Option Value → MH → Prop := fun v h => ∃ r, v = some (.long r) ∧ P r h
def pV (P : MH → Prop) : Option Value → MH → Prop := fun v h => v = none ∧ P h
def pR (P : Nat → MH → Prop) : Option Value → MH → Prop := fun v h => ∃ r, v = some (.ref r) ∧ P r h
def pO (P : Option Nat → MH → Prop) : Option Value → MH → Prop := fun v h => ∃ r, v = some (fromR r) ∧ P r h
section QF
variable {M : MI} {d b t pc : Nat} {ls ls' : List (Option Value)} {st : List Value} {h : MH} {Q : Option Value → MH → Prop}
theorem kI {P : Int32 → MH → Prop} (k : ∀ r h1, P r h1 → Wm M d b t pc ls (.int r :: st) h1 Q) : ∀ v h1, pI P v h1 → Wm M d b t pc ls (v.toList ++ st) h1 Q := fun v h1 ⟨r, e, p⟩ => by subst e; exact k r h1 p
theorem kL {P : Int64 → MH → Prop} (k : ∀ r h1, P r h1 → Wm M d b t pc ls (.long r :: st) h1 Q) : ∀ v h1, pL P v h1 → Wm M d b t pc ls (v.toList ++ st) h1 Q := fun v h1 ⟨r, e, p⟩ => by subst e; exact k r h1 p
theorem kV {P : MH → Prop} (k : ∀ h1, P h1 → Wm M d b t pc ls st h1 Q) : ∀ v h1, pV P v h1 → Wm M d b t pc ls (v.toList ++ st) h1 Q := fun v h1 ⟨e, p⟩ => by subst e; exact k h1 p
theorem kR {P : Nat → MH → Prop} (k : ∀ r h1, P r h1 → Wm M d b t pc ls (.ref r :: st) h1 Q) : ∀ v h1, pR P v h1 → Wm M d b t pc ls (v.toList ++ st) h1 Q := fun v h1 ⟨r, e, p⟩ => by subst e; exact k r h1 p
theorem kO {P : Option Nat → MH → Prop} (k : ∀ r h1, P r h1 → Wm M d b t pc ls (fromR r :: st) h1 Q) : ∀ v h1, pO P v h1 → Wm M d b t pc ls (v.toList ++ st) h1 Q := fun v h1 ⟨r, e, p⟩ => by subst e; exact k r h1 p
def leL : List (Option Value) → List (Option Value) → Prop
  | [], _ => True
  | none :: a, [] => leL a []
  | none :: a, _ :: b => leL a b
  | some _ :: _, [] => False
  | some _ :: _, none :: _ => False
  | some v :: a, some w :: b => v = w ∧ leL a b
theorem leL_spec : ∀ (l' l : List (Option Value)), leL l' l → ∀ (i : Nat) (v : Value), l'[i]? = some (some v) → l[i]? = some (some v)
  | [], _, _, i, v, hv => by simp at hv
  | none :: a, [], h, i, v, hv => by
    match i, hv with
    | 0, hv => simp at hv
    | i + 1, hv =>
      have h1 := leL_spec a [] h i v (by simpa using hv)
      simp at h1
  | none :: a, x :: l, h, i, v, hv => by
    match i, hv with
    | 0, hv => simp at hv
    | i + 1, hv =>
      have h1 := leL_spec a l h i v (by simpa using hv)
      simpa using h1
  | some w :: a, some x :: l, h, i, v, hv => by
    match i, hv with
    | 0, hv => simp at hv; simp [← hv, h.1]
    | i + 1, hv =>
      have h1 := leL_spec a l h.2 i v (by simpa using hv)
      simpa using h1
theorem q_le (hw : leL ls' ls) (kk : Wm M d b t pc ls' st h Q) : Wm M d b t pc ls st h Q := q_weak (leL_spec ls' ls hw) kk
theorem q_bud {b' t' : Nat} (h1 : b' = b) (h2 : t' = t) (kk : Wm M d b' t' pc ls st h Q) : Wm M d b t pc ls st h Q := by subst h1; subst h2; exact kk
theorem x_istore {i : Nat} {x : Int32} (hd : decode (mB M) pc = .ok (.istore i, 2)) (hn : i < mL M) (hok : okSt ls i = true) (hl : ls.set i (some (.int x)) = ls') (kk : Wm M d b t (pc + 2) ls' st h Q) : Wm M d b t pc ls (.int x :: st) h Q := q_istore hd hn hok (hl ▸ kk)
theorem x_istore_n {kf : Fin 4} {x : Int32} (hd : decode (mB M) pc = .ok (.istore_n kf, 1)) (hn : (kf : Nat) < mL M) (hok : okSt ls (kf : Nat) = true) (hl : ls.set (kf : Nat) (some (.int x)) = ls') (kk : Wm M d b t (pc + 1) ls' st h Q) : Wm M d b t pc ls (.int x :: st) h Q := q_istore_n hd hn hok (hl ▸ kk)
theorem x_lstore {i : Nat} {x : Int64} (hd : decode (mB M) pc = .ok (.lstore i, 2)) (hn : i + 1 < mL M) (hok : okSt ls i = true) (hl : (ls.set i (some (.long x))).set (i + 1) none = ls') (kk : Wm M d b t (pc + 2) ls' st h Q) : Wm M d b t pc ls (.long x :: st) h Q := q_lstore hd hn hok (hl ▸ kk)
theorem x_lstore_n {kf : Fin 4} {x : Int64} (hd : decode (mB M) pc = .ok (.lstore_n kf, 1)) (hn : (kf : Nat) + 1 < mL M) (hok : okSt ls (kf : Nat) = true) (hl : (ls.set (kf : Nat) (some (.long x))).set ((kf : Nat) + 1) none = ls') (kk : Wm M d b t (pc + 1) ls' st h Q) : Wm M d b t pc ls (.long x :: st) h Q := q_lstore_n hd hn hok (hl ▸ kk)
theorem x_astore {i : Nat} {r : Option Nat} (hd : decode (mB M) pc = .ok (.astore i, 2)) (hn : i < mL M) (hok : okSt ls i = true) (hl : ls.set i (some (fromR r)) = ls') (kk : Wm M d b t (pc + 2) ls' st h Q) : Wm M d b t pc ls (fromR r :: st) h Q := q_astore hd hn hok (hl ▸ kk)
theorem x_astore_n {kf : Fin 4} {r : Option Nat} (hd : decode (mB M) pc = .ok (.astore_n kf, 1)) (hn : (kf : Nat) < mL M) (hok : okSt ls (kf : Nat) = true) (hl : ls.set (kf : Nat) (some (fromR r)) = ls') (kk : Wm M d b t (pc + 1) ls' st h Q) : Wm M d b t pc ls (fromR r :: st) h Q := q_astore_n hd hn hok (hl ▸ kk)
theorem x_astorer {i x : Nat} (hd : decode (mB M) pc = .ok (.astore i, 2)) (hn : i < mL M) (hok : okSt ls i = true) (hl : ls.set i (some (.ref x)) = ls') (kk : Wm M d b t (pc + 2) ls' st h Q) : Wm M d b t pc ls (.ref x :: st) h Q := q_astorer hd hn hok (hl ▸ kk)
theorem x_astore_nr {kf : Fin 4} {x : Nat} (hd : decode (mB M) pc = .ok (.astore_n kf, 1)) (hn : (kf : Nat) < mL M) (hok : okSt ls (kf : Nat) = true) (hl : ls.set (kf : Nat) (some (.ref x)) = ls') (kk : Wm M d b t (pc + 1) ls' st h Q) : Wm M d b t pc ls (.ref x :: st) h Q := q_astore_nr hd hn hok (hl ▸ kk)
theorem x_iinc {i : Nat} {n : Int} {x v : Int32} (hd : decode (mB M) pc = .ok (.iinc i n, 3)) (hl : ls[i]? = some (some (.int x))) (hv : x + Int32.ofInt n = v) (hok : okSt ls i = true) (hs : ls.set i (some (.int v)) = ls') (kk : Wm M d b t (pc + 3) ls' st h Q) : Wm M d b t pc ls st h Q := q_iinc hd hl hv hok (hs ▸ kk)
theorem x_toInt {x : Int32} {n : Nat} (hn : n < 2 ^ 31) (h : x.toInt = (n : Int)) : x = nI n := by
  apply Int32.toInt_inj.mp
  rw [h, nI_toInt hn]
end QF
theorem hS_sI (h : MH) (a k : Nat) (v : Int32) (b : Nat) : hS (sI h a k v) b = hS h b := rfl
theorem hS_sL (h : MH) (a k : Nat) (v : Int64) (b : Nat) : hS (sL h a k v) b = hS h b := rfl
theorem hS_sR (h : MH) (a k : Nat) (v : Option Nat) (b : Nat) : hS (sR h a k v) b = hS h b := rfl
theorem hS_rI (h : MH) (a : Nat) (f : Nat → Int32) (b : Nat) : hS (rI h a f) b = hS h b := rfl
theorem hR_sI (h : MH) (a k : Nat) (v : Int32) (b j : Nat) : hR (sI h a k v) b j = hR h b j := rfl
theorem hR_sL (h : MH) (a k : Nat) (v : Int64) (b j : Nat) : hR (sL h a k v) b j = hR h b j := rfl
theorem hR_rI (h : MH) (a : Nat) (f : Nat → Int32) (b j : Nat) : hR (rI h a f) b j = hR h b j := rfl
theorem hL_sI (h : MH) (a k : Nat) (v : Int32) (b j : Nat) : hL (sI h a k v) b j = hL h b j := rfl
theorem hL_sR (h : MH) (a k : Nat) (v : Option Nat) (b j : Nat) : hL (sR h a k v) b j = hL h b j := rfl
theorem hL_rI (h : MH) (a : Nat) (f : Nat → Int32) (b j : Nat) : hL (rI h a f) b j = hL h b j := rfl
theorem hI_sL (h : MH) (a k : Nat) (v : Int64) (b j : Nat) : hI (sL h a k v) b j = hI h b j := rfl
theorem hI_sR (h : MH) (a k : Nat) (v : Option Nat) (b j : Nat) : hI (sR h a k v) b j = hI h b j := rfl
theorem hN_sI (h : MH) (a k : Nat) (v : Int32) : hN (sI h a k v) = hN h := rfl
theorem hN_sL (h : MH) (a k : Nat) (v : Int64) : hN (sL h a k v) = hN h := rfl
theorem hN_sR (h : MH) (a k : Nat) (v : Option Nat) : hN (sR h a k v) = hN h := rfl
theorem hN_rI (h : MH) (a : Nat) (f : Nat → Int32) : hN (rI h a f) = hN h := rfl
