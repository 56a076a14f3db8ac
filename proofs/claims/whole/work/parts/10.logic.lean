/-! ===== A LIGHTER LOGIC OVER THE KIT: the heap as typed rows of numbers; a method's walk without its surroundings ===== -/
/-- the small heap: what stands at an address (kind, class number or length), its ints, longs, references; the first free address (they begin at 128; below 64: String constants, from 64 on their byte rows, at 127 the law's script) -/
abbrev MH : Type := (Nat → Nat × Nat) × (Nat → Nat → Int32) × (Nat → Nat → Int64) × (Nat → Nat → Option Nat) × Nat
def hS (h : MH) (a : Nat) : Nat × Nat := h.1 a
def hI (h : MH) (a k : Nat) : Int32 := h.2.1 a k
def hL (h : MH) (a k : Nat) : Int64 := h.2.2.1 a k
def hR (h : MH) (a k : Nat) : Option Nat := h.2.2.2.1 a k
def hN (h : MH) : Nat := h.2.2.2.2
def up2 {α : Type} (f : Nat → Nat → α) (a k : Nat) (v : α) : Nat → Nat → α := fun b j => if b = a ∧ j = k then v else f b j
def sI (h : MH) (a k : Nat) (v : Int32) : MH := (h.1, up2 h.2.1 a k v, h.2.2)
def sL (h : MH) (a k : Nat) (v : Int64) : MH := (h.1, h.2.1, up2 h.2.2.1 a k v, h.2.2.2)
def sR (h : MH) (a k : Nat) (v : Option Nat) : MH := (h.1, h.2.1, h.2.2.1, up2 h.2.2.2.1 a k v, h.2.2.2.2)
/-- a row of ints at an address put anew, whole -/
def rI (h : MH) (a : Nat) (f : Nat → Int32) : MH := (h.1, (fun b => if b = a then f else h.2.1 b), h.2.2)
def al (h : MH) (t : Nat × Nat) : MH := ((fun b => if b = hN h then t else hS h b), h.2.1, h.2.2.1, h.2.2.2.1, hN h + 1)
/-- the classes' field types, how many fields -/
def fty (c k : Nat) : FieldType := match c with
  | 0 => tyX0 k
  | 1 => tyX1 k
  | 2 => tyX2 k
  | 3 => tyX3 k
  | 4 => tyX4 k
  | 5 => tyX5 k
  | 6 => tyX6 k
  | 7 => tyX7 k
  | 8 => tyX8 k
  | 9 => tyX9 k
  | _ => tyX10 k
/-- kinds of arrays: 2 int, 3 long, 4 byte, 5 boolean, 6 State, 7 Tray, 8 Net -/
def aty (k : Nat) : FieldType := match k with
  | 2 => .int
  | 3 => .long
  | 4 => .byte
  | 5 => .boolean
  | 6 => .object RX6
  | 7 => .object RX8
  | _ => .object RX4
/-- what the small addresses stand for: classes, slots, array classes, the first address, constants, their byte rows -/
abbrev GC : Type := (Nat → ClassId) × (Nat → Nat → Nat) × (Nat → ClassId) × Nat × (Nat → Nat) × (Nat → Nat) × Option Nat
def gC (G : GC) : Nat → ClassId := G.1
def gI (G : GC) : Nat → Nat → Nat := G.2.1
def gA (G : GC) : Nat → ClassId := G.2.2.1
def gB (G : GC) : Nat := G.2.2.2.1
def gK (G : GC) : Nat → Nat := G.2.2.2.2.1
def gV (G : GC) : Nat → Nat := G.2.2.2.2.2.1
/-- a static of the JDK's, a reference or null: small values name it .retAddr -/
def gZ (G : GC) : Option Nat := G.2.2.2.2.2.2
def gad (G : GC) (a : Nat) : Nat := if a < 64 then gK G a else if a < 128 then gV G (a - 64) else gB G + (a - 128)
def vm (G : GC) : Value → Value
  | .ref a => .ref (gad G a)
  | .retAddr _ => va_rf (gZ G)
  | v => v
def rv (G : GC) : Option Nat → Value
  | some a => .ref (gad G a)
  | none => .null
def fromR : Option Nat → Value
  | some a => .ref a
  | none => .null
theorem vm_fromR (G : GC) (r : Option Nat) : vm G (fromR r) = rv G r := by cases r <;> rfl
def fv (G : GC) (ty : FieldType) (h : MH) (a k : Nat) : Value := match ty with
  | .long => .long (hL h a k)
  | .object _ => rv G (hR h a k)
  | .array _ => rv G (hR h a k)
  | _ => .int (hI h a k)
def cOK (G : GC) (h : MH) (a : Nat) (cell : Cell) : Prop :=
  ((hS h a).1 = 1 ∧ (∃ q, vwCl[(hS h a).2]? = some q ∧ cell.cls = gC G (hS h a).2 ∧ cell.vm = .none ∧ ∀ k, k < q.2.2 → cell.slots[gI G (hS h a).2 k]? = some (fv G (fty (hS h a).2 k) h a k))) ∨
  (((hS h a).1 = 2 ∨ (hS h a).1 = 4 ∨ (hS h a).1 = 5) ∧ cell = arrV (gA G (hS h a).1) (hS h a).2 (fun j => .int (hI h a j))) ∨
  ((hS h a).1 = 3 ∧ cell = arrV (gA G 3) (hS h a).2 (fun j => .long (hL h a j))) ∨
  (((hS h a).1 = 6 ∨ (hS h a).1 = 7 ∨ (hS h a).1 = 8) ∧ cell = arrV (gA G (hS h a).1) (hS h a).2 (fun j => rv G (hR h a j)))
def relH (G : GC) (h : MH) (H : Heap) : Prop :=
  128 ≤ hN h ∧ H.size = gB G + (hN h - 128) ∧ (∀ a, 128 ≤ a → a < hN h → ∃ cell, H[gB G + (a - 128)]? = some cell ∧ cOK G h a cell) ∧
  (∀ a, (hS h a).1 ≠ 0 → 128 ≤ a ∧ a < hN h) ∧ ∀ a k, hN h ≤ a → hI h a k = 0 ∧ hL h a k = 0 ∧ hR h a k = none
/-- the words that hold everywhere -/
def GW : List Cond := lw_tbl.filter goodWord
theorem gw_of {w : Cond} (i : Nat) (h : lw_tbl[i]? = some w) (hg : goodWord w = true) : w ∈ GW := List.mem_filter.mpr ⟨List.mem_of_getElem? h, hg⟩
theorem gw_good {ws : List Cond} (h : ∀ w ∈ ws, w ∈ GW) {big : List Cond} (hb : ∀ w ∈ GW, w ∈ big) : GoodIn big ws := fun w hw => ⟨hb w (h w hw), good_of_word (List.mem_filter.mp (h w hw)).2⟩
/-- a method: name, code, locals, what it answers; what else holds at its start (of the law: its script) -/
abbrev MI : Type := MethodName × ByteArray × Nat × Option FieldType × (GC → State → Prop)
def mN (M : MI) : MethodName := M.1
def mB (M : MI) : ByteArray := M.2.1
def mL (M : MI) : Nat := M.2.2.1
def mR (M : MI) : Option FieldType := M.2.2.2.1
def mX (M : MI) : GC → State → Prop := M.2.2.2.2
def noX : GC → State → Prop := fun _ _ => True
def wsM (M : MI) : List Cond := Cond.code (mN M) (mB M) (mL M) (mR M) :: GW
def gAA (G : GC) : Nat → Prop := fun q => gB G ≤ q
/-- links to a nest mate's private methods; String constants: class, entry, text -/
def nestW : List (String × Nat × MethodName × String) := [("SpareRings", 11, ⟨"SpareRings$Reader", "<init>", "()V"⟩, "SpareRings"), ("SpareRings$Reader", 27, ⟨"SpareRings$Laws", "<init>", "()V"⟩, "SpareRings"), ("SpareRings", 18, ⟨"SpareRings$Net", "<init>", "()V"⟩, "SpareRings"), ("SpareRings", 43, ⟨"SpareRings$History", "<init>", "()V"⟩, "SpareRings"), ("SpareRings$History", 9, ⟨"SpareRings", "newStates", "(I)[LSpareRings$State;"⟩, "SpareRings"), ("SpareRings", 50, ⟨"SpareRings$Switching", "<init>", "()V"⟩, "SpareRings"), ("SpareRings", 57, ⟨"SpareRings$Covering", "<init>", "()V"⟩, "SpareRings"), ("SpareRings", 64, ⟨"SpareRings$Fraction", "<init>", "()V"⟩, "SpareRings"), ("SpareRings", 86, ⟨"SpareRings$Tray", "<init>", "()V"⟩, "SpareRings"), ("SpareRings$Reader", 40, ⟨"SpareRings$Net", "<init>", "()V"⟩, "SpareRings")]
def strT : List (String × Nat × String × Nat) := [("SpareRings$Reader", 230, ";:+-*()[]=<>", 0), ("SpareRings$Reader", 65, "net", 1), ("SpareRings$Reader", 71, "nodes", 2), ("SpareRings$Reader", 77, "rate", 3), ("SpareRings$Reader", 79, ";", 4), ("SpareRings$Reader", 89, "link", 5), ("SpareRings$Reader", 116, "long", 6), ("SpareRings$Reader", 118, "work", 7), ("SpareRings$Reader", 97, "costs", 8), ("SpareRings$Reader", 128, ":", 9), ("SpareRings$Reader", 157, "not", 10), ("SpareRings$Reader", 162, "[", 11), ("SpareRings$Reader", 164, "]", 12), ("SpareRings$Reader", 184, "(", 13), ("SpareRings$Reader", 186, ")", 14), ("SpareRings$Reader", 188, "if", 15), ("SpareRings$Reader", 200, "then", 16), ("SpareRings$Reader", 202, "else", 17), ("SpareRings$Reader", 204, "end", 18), ("SpareRings$Reader", 205, "links", 19), ("SpareRings$Reader", 206, "from", 20), ("SpareRings$Reader", 208, "chords", 21), ("SpareRings$Reader", 210, "to", 22), ("SpareRings$Reader", 182, "*", 23), ("SpareRings$Reader", 175, "+", 24), ("SpareRings$Reader", 177, "-", 25), ("SpareRings$Reader", 166, "=", 26), ("SpareRings$Reader", 168, "<", 27), ("SpareRings$Reader", 170, ">", 28), ("SpareRings$Reader", 155, "and", 29), ("SpareRings$Reader", 146, "or", 30), ("SpareRings$Reader", 103, "may", 31), ("SpareRingsModel", 93, " net nodes rate link long work costs may if then else end from to links chords and or not ", 32), ("SpareRingsModel", 131, ";:+-*()[]=<>", 0)]
def strLen : List Nat := [12, 3, 5, 4, 1, 4, 4, 4, 5, 1, 3, 1, 1, 1, 1, 2, 4, 4, 3, 5, 4, 6, 2, 1, 1, 1, 1, 1, 1, 3, 2, 3, 90]
def strByt : List (List Int32) := [[59, 58, 43, 45, 42, 40, 41, 91, 93, 61, 60, 62], [110, 101, 116], [110, 111, 100, 101, 115], [114, 97, 116, 101], [59], [108, 105, 110, 107], [108, 111, 110, 103], [119, 111, 114, 107], [99, 111, 115, 116, 115], [58], [110, 111, 116], [91], [93], [40], [41], [105, 102], [116, 104, 101, 110], [101, 108, 115, 101], [101, 110, 100], [108, 105, 110, 107, 115], [102, 114, 111, 109], [99, 104, 111, 114, 100, 115], [116, 111], [42], [43], [45], [61], [60], [62], [97, 110, 100], [111, 114], [109, 97, 121], [32, 110, 101, 116, 32, 110, 111, 100, 101, 115, 32, 114, 97, 116, 101, 32, 108, 105, 110, 107, 32, 108, 111, 110, 103, 32, 119, 111, 114, 107, 32, 99, 111, 115, 116, 115, 32, 109, 97, 121, 32, 105, 102, 32, 116, 104, 101, 110, 32, 101, 108, 115, 101, 32, 101, 110, 100, 32, 102, 114, 111, 109, 32, 116, 111, 32, 108, 105, 110, 107, 115, 32, 99, 104, 111, 114, 100, 115, 32, 97, 110, 100, 32, 111, 114, 32, 110, 111, 116, 32]]
def kK (G : GC) (U : State) : Prop :=
  (∀ (c : Nat) (q : vw_C), vwCl[c]? = some q → u_Kn U q.1 q.2.1 q.2.2 (gC G c) (gI G c)) ∧
  (∀ k, 2 ≤ k → k ≤ 8 → ArrOfT U (gA G k) (aty k) ∧ va_RA U (gA G k) (aty k)) ∧
  (∀ w ∈ nestW, va_Nw (.methodLinkNest w.1 w.2.1 w.2.2.1 w.2.2.2) U) ∧
  (∀ q ∈ strT, vk_R q.1 q.2.1 q.2.2.1 (gK G q.2.2.2) U) ∧
  (∀ C ∈ [RX6, RX8, RX4], va_AO C U)
def kS (G : GC) (U : State) (H : Heap) : Prop := vk_S 33 strLen strByt (gK G) (gV G) (gAA G) U H ∧ va_Z "java/lang/String" "COMPACT_STRINGS" "Z" (.int 1) (gAA G) U H ∧ va_Z "jdk/internal/util/Preconditions" "SIOOBE_FORMATTER" "Ljava/util/function/BiFunction;" (va_rf (gZ G)) (gAA G) U H
theorem kK.warm {G : GC} {s U : State} (hW : s.WarmedH U.vm) (h : kK G s) : kK G U :=
  ⟨fun c q hq => u_Kn_moved hW.alike (h.1 c q hq), fun k h2 h8 => ⟨arrOfT_moved hW.alike (h.2.1 k h2 h8).1, (h.2.1 k h2 h8).2.moved hW.alike⟩, fun w hw => va_Nw.warmM hW (h.2.2.1 w hw), fun q hq => (h.2.2.2.1 q hq).warm hW, fun C hC => (h.2.2.2.2 C hC).moved hW.alike⟩
theorem kK.same {G : GC} {s U : State} (hv : U.vm = s.vm) (h : kK G s) : kK G U :=
  ⟨fun c q hq => u_Kn_moved (by rw [hv]; exact Vm.Alike.refl _) (h.1 c q hq), fun k h2 h8 => ⟨arrOfT_moved (by rw [hv]; exact Vm.Alike.refl _) (h.2.1 k h2 h8).1, (h.2.1 k h2 h8).2.moved (by rw [hv]; exact Vm.Alike.refl _)⟩, fun w hw => va_Nw.same rfl hv.symm (h.2.2.1 w hw), fun q hq => (h.2.2.2.1 q hq).same hv, fun C hC => (h.2.2.2.2 C hC).moved (by rw [hv]; exact Vm.Alike.refl _)⟩
theorem kS.moved {G : GC} {u U : State} {H : Heap} (hvm : u.vm.Alike U.vm) (h : kS G u H) : kS G U H := ⟨vk_S.moved hvm h.1, va_Z.moved hvm h.2.1, va_Z.moved hvm h.2.2⟩
theorem kS.kept {G : GC} {U : State} {H H1 : Heap} (h : kS G U H) (hq : ∀ a : Nat, a < H.size → ¬ gAA G a → H1[a]? = H[a]?) : kS G U H1 := ⟨h.1.kept hq, h.2.1.kept hq, h.2.2.kept hq⟩
/-- the locals: what is known of them -/
def lsOK (G : GC) (ls : List (Option Value)) (lsR : Array Slot) (nL : Nat) : Prop := lsR.size = nL ∧ lv_wf lsR ∧ ∀ (i : Nat) (v : Value), ls[i]? = some (some v) → lsR[i]? = some (.val (vm G v))
/-- what holds at a method's entry and stays: the machine, the code, the words, the tables -/
def cX (G : GC) (M : MI) (p : Program) (s : State) (m : MethodId) (args : Array Value) (meth : Method) (c : Code) : Prop :=
  p.tables.exec = Jvm.exec ∧ c.code = mB M ∧ c.maxLocals = mL M ∧ s.vm.findClass (mN M).cls = some m.cls ∧ (∀ w ∈ GW, w.before args s = true) ∧ kK G s ∧ kS G s s.heap ∧ meth.name = (mN M).name ∧ gB G ≤ s.heap.size ∧ mX M G s
/-- the instruction that gives an answer back -/
def retI (ret : Option FieldType) (v : Option Value) (i : Instr) : Prop :=
  (v = none ∧ ret = none ∧ i = .return_) ∨ (∃ x : Int32, v = some (.int x) ∧ i = .ireturn ∧ ∃ ty, ret = some ty ∧ narrow ty (.int x) = .int x) ∨ (∃ x : Int64, v = some (.long x) ∧ i = .lreturn ∧ ret = some .long) ∨
  (∃ r : Option Nat, v = some (fromR r) ∧ i = .areturn ∧ ((∃ n, ret = some (.object n)) ∨ ∃ t, ret = some (.array t)))
/-- THE WALK: from pc, with these locals, stack and heap, the method comes to its end with Q; d frames deep at most, b cells of t slots more at most -/
def Wm (M : MI) (d b t pc : Nat) (ls : List (Option Value)) (st : List Value) (h : MH) (Q : Option Value → MH → Prop) : Prop :=
  ∀ (G : GC) (p : Program) (l : Launch) (e : Env) (R : Room) (s : State) (m : MethodId) (args : Array Value) (below : List Frame) (meth : Method) (c : Code) (Z : State → Prop) (H : Heap) (locs : List Loc) (lsR : Array Slot) (k n : Nat),
    cX G M p s m args meth c → (d ≤ R.frames ∧ 64 * d ≤ R.locals ∧ k + b ≤ R.cells ∧ n + t ≤ R.slots) → relH G h H → va_S (gAA G) s.heap H locs → lsOK G ls lsR (mL M) →
    (∀ (v : Option Value) (h' : MH) (H' : Heap) (locs' : List Loc) (k' n' pc' : Nat) (lsR' : Array Slot) (i : Instr), Q v h' → relH G h' H' → va_S (gAA G) s.heap H' locs' → k' ≤ k + b → n' ≤ n + t → decode (mB M) pc' = .ok (i, 1) → retI (mR M) v i →
      W p l e R s m args below meth c H' locs' k' n' Z (F0 m pc' lsR' ((v.map (vm G)).toList))) →
    W p l e R s m args below meth c H locs k n Z (F0 m pc lsR (st.map (vm G)))
def rmR (d b t : Nat) : Room := { frames := d, cells := b, slots := t, locals := 64 * d }
def pcM (G : GC) (as : List Value) (h : MH) : Array Value → State → Prop := fun a U => a = (as.map (vm G)).toArray ∧ relH G h U.heap ∧ kK G U ∧ kS G U U.heap ∧ gB G ≤ U.heap.size
def qcM (G : GC) (Q : Option Value → MH → Prop) : Array Value → State → Outcome → State → Prop := fun _ st o t => ∃ (v : Option Value) (h' : MH), o = .returned (v.map (vm G)) ∧ Q v h' ∧ relH G h' t.heap ∧ va_F (gAA G) st t
/-- THE CONTRACT of a method at these arguments and this heap -/
def Cm (M : MI) (d mc ms : Nat) (as : List Value) (h : MH) (Q : Option Value → MH → Prop) : Prop := ∀ (G : GC) (l : Launch), Met l (mN M) (wsM M) (rmR d mc ms) (pcM G as h) (qcM G Q) mc ms (gAA G)
