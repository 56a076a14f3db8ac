/-! ===== the start: what the Statement gives, in the lighter logic's words ===== -/
/-! THE CLAIM OUT OF ONE WALK OF THE LAW'S BODY. Your part is whole_start (and what it stands on); all else here is the same for every law, but numbers. -/
def R_law : String := "SpareRingsLaw"
def lw_P (b : Addr) (xs : List Int32) (args : Array Value) (s : State) : Prop := args = #[.ref b] ∧ s.IntsAt b xs ∧ xs.length ≤ 3072 ∧ (Jvm.Cond.and given_1 narrow_1).before args s = true
def lw_Q (_ : Array Value) (s : State) (o : Outcome) (t : State) : Prop := o = .returned (some (.int 1)) ∧ Framed s o t [] 600000 7302250
def lw_Z (below : List Frame) (a : Array Value) (s : State) : State → Prop := fun t => ∃ o, t.status = .running ∧ Ended t below o ∧ lw_Q a s o t
/-- the law's own end, with 1 on the stack, nothing written that was there before, its room as the claim has it -/
theorem lw_ret {p : Program} {l : Launch} {e : Env} {s : State} {m : MethodId} {below : List Frame} {meth : Method} {c : Code} {b : Nat} (hx : p.tables.exec = Jvm.exec) (hb : c.code = code) (hr : meth.sig.returnType = ret) (hlocks : meth.locks = false) {pc : Nat} {H : Heap} {ls : Array Slot} (hdg : decode code pc = .ok (.ireturn, 1)) : W p l e room_1 s m #[Value.ref b] below meth c H [] 600000 7302250 (lw_Z below #[Value.ref b] s) (F0 m pc ls [.int 1]) := by
  intro T hT X
  obtain ⟨fs, hret, hrun, hended, hW, hframe⟩ := X.leave (v := some (.int 1)) (hlocks := hlocks) (fun h => by rw [hr] at h; cases h)
  have hmeth' : T.vm.method? m = some meth := X.method'
  refine ⟨T.setFrames fs, ?_, .returned (some (.int 1)), hrun, hended, rfl, ⟨_, rfl⟩, hW, hframe⟩
  jvm_step X.here [X.here.top, hx, hb, hdg, hmeth', hr, ret, narrow_b1]
  (try refine ⟨rfl, ?_⟩); (try refine ⟨rfl, ?_⟩)
  first | (intro acts; rw [hret _ acts rfl rfl rfl]) | rw [hret _ _ rfl rfl rfl]
  exact Steps.refl _
/-- what holds at the law's entry: the machine, the code, the tables' words (any of lw_tbl by 'hts w (by decide +kernel)'), the script of L ints xs at the cell b, what the Statement gives of the start (any of its parts by flat_of_before) -/
def lw_At (p : Program) (s : State) (m : MethodId) (meth : Method) (c : Code) (b L : Nat) (xs : Nat → Int32) : Prop :=
  p.tables.exec = Jvm.exec ∧ c.code = code ∧ meth.sig.returnType = ret ∧ c.maxLocals = 4 ∧ s.vm.findClass R_law = some m.cls ∧ (∀ w ∈ lw_tbl, w.before #[Value.ref b] s = true) ∧ va_X b L xs s s.heap ∧ b < s.heap.size ∧ meth.locks = false ∧ (Jvm.Cond.and given_1 narrow_1).before #[Value.ref b] s = true
def stEx : List Nat := [42, 58, 65, 74, 82, 87, 95, 103, 111, 120, 125, 132, 137, 142, 147, 152, 158, 166, 174, 181, 190, 198, 208, 214, 219, 224, 229, 234, 239, 244, 251, 257, 264]
def stCo : List Nat := [43, 59, 66, 75, 83, 88, 96, 104, 112, 121, 126, 133, 138, 143, 148, 153, 159, 167, 175, 182, 191, 199, 209, 215, 220, 225, 230, 235, 240, 245, 252, 258, 265]
def stAr : List Nat := [44, 60, 67, 76, 84, 89, 97, 105, 113, 122, 127, 134, 139, 144, 149, 154, 160, 168, 176, 183, 192, 200, 210, 216, 221, 226, 231, 236, 241, 246, 253, 259, 266]
def stLe : List Nat := [45, 61, 68, 77, 85, 90, 98, 106, 114, 123, 128, 135, 140, 145, 150, 155, 161, 169, 177, 184, 193, 201, 211, 217, 222, 227, 232, 237, 242, 247, 254, 260, 267]
def stEl : List (List Nat) := [[46, 47, 48, 49, 50, 51, 52, 53, 54, 55, 56, 57], [62, 63, 64], [69, 70, 71, 72, 73], [78, 79, 80, 81], [86], [91, 92, 93, 94], [99, 100, 101, 102], [107, 108, 109, 110], [115, 116, 117, 118, 119], [124], [129, 130, 131], [136], [141], [146], [151], [156, 157], [162, 163, 164, 165], [170, 171, 172, 173], [178, 179, 180], [185, 186, 187, 188, 189], [194, 195, 196, 197], [202, 203, 204, 205, 206, 207], [212, 213], [218], [223], [228], [233], [238], [243], [248, 249, 250], [255, 256], [261, 262, 263], [268, 269, 270, 271, 272, 273, 274, 275, 276, 277, 278, 279, 280, 281, 282, 283, 284, 285, 286, 287, 288, 289, 290, 291, 292, 293, 294, 295, 296, 297, 298, 299, 300, 301, 302, 303, 304, 305, 306, 307, 308, 309, 310, 311, 312, 313, 314, 315, 316, 317, 318, 319, 320, 321, 322, 323, 324, 325, 326, 327, 328, 329, 330, 331, 332, 333, 334, 335, 336, 337, 338, 339, 340, 341, 342, 343, 344, 345, 346, 347, 348, 349, 350, 351, 352, 353, 354, 355, 356, 357]]
-- same 374 compact [4] formatter [5]
def stPos : List Nat := [535, 626, 656, 661, 662, 667, 676, 677, 682, 687, 704, 713, 714, 727, 728, 729, 734, 735, 736, 741, 742, 743, 744, 745, 746, 747, 748, 749, 750, 751, 752, 757, 1534, 1540]
def nsPos : List Nat := [161, 167, 237, 347, 351, 365, 375, 422, 439, 512]

def h00 : MH := (fun _ => (0, 0), fun _ _ => 0, fun _ _ => 0, fun _ _ => none, 128)
def tmS (i : Nat) : Term := match strT[i]? with
  | some q => .string q.1 q.2.1
  | none => .string "" 0
def nFl : List Cond := flatC (Jvm.Cond.and given_1 narrow_1)
theorem st_ex : ∀ i, i < 33 → nFl[stEx.getD i 0]? = some (Cond.exactly (tmS i) "java/lang/String") := by decide +kernel
theorem st_co : ∀ i, i < 33 → nFl[stCo.getD i 0]? = some (Cond.eq (.field (tmS i) "java/lang/String" "coder" "B") (.int 0)) := by decide +kernel
theorem st_ar : ∀ i, i < 33 → nFl[stAr.getD i 0]? = some (Cond.arrayOf (.field (tmS i) "java/lang/String" "value" "[B") .byte) := by decide +kernel
theorem st_le : ∀ i, i < 33 → nFl[stLe.getD i 0]? = some (Cond.eq (.length (.field (tmS i) "java/lang/String" "value" "[B")) (.int (Int32.ofNat (strLen.getD i 0)))) := by decide +kernel
theorem st_el : ∀ i, i < 33 → ∀ j, j < strLen.getD i 0 → nFl[(stEl.getD i []).getD j 0]? = some (Cond.eq (.elem (.field (tmS i) "java/lang/String" "value" "[B") (.int (Int32.ofNat j))) (.int ((strByt.getD i []).getD j 0))) := by decide +kernel
theorem st_inj : ∀ i, i < 33 → ∀ j, j < 33 → strByt.getD i [] = strByt.getD j [] → i = j := by decide +kernel
theorem st_ref : ∀ i, i < 34 → (lw_tbl[stPos.getD i 0]? = (strT[i]?).map (fun q => Cond.stringRef q.1 q.2.1 q.2.2.1)) := by decide +kernel
theorem st_nst : ∀ i, i < 10 → (lw_tbl[nsPos.getD i 0]? = (nestW[i]?).map (fun w => Cond.methodLinkNest w.1 w.2.1 w.2.2.1 w.2.2.2)) := by decide +kernel
theorem st_num : ∀ i, i < 33 → (strT[i]?).map (fun q => q.2.2.2) = some i := by decide +kernel
theorem st_same : nFl[374]? = some (Cond.eq (.string "SpareRings$Reader" 230) (.string "SpareRingsModel" 131)) := by decide +kernel
theorem st_cs : nFl[4]? = some (Cond.eq (.static "java/lang/String" "COMPACT_STRINGS" "Z") (.int 1)) := by decide +kernel
theorem st_sf : nFl[5]? = some (Cond.isRef (.static "jdk/internal/util/Preconditions" "SIOOBE_FORMATTER" "Ljava/util/function/BiFunction;")) := by decide +kernel
theorem st_ao6 : lw_tbl[344]? = some (Cond.arrayOver (.object RX6)) := by decide +kernel
theorem st_ao8 : lw_tbl[437]? = some (Cond.arrayOver (.object RX8)) := by decide +kernel
theorem st_ao4 : lw_tbl[457]? = some (Cond.arrayOver (.object RX4)) := by decide +kernel
theorem stt_ls : lw_tbl[549]? = some (Cond.laysStatic "java/lang/String" "COMPACT_STRINGS" "Z") := by decide +kernel
theorem st_lf : lw_tbl[592]? = some (Cond.laysStatic "jdk/internal/util/Preconditions" "SIOOBE_FORMATTER" "Ljava/util/function/BiFunction;") := by decide +kernel
theorem getD_at {l : List Int32} {n : Nat} (h : n < l.length) : l.getD n 0 = l[n] := by rw [List.getD_eq_getElem?_getD, List.getElem?_eq_getElem h]; rfl
theorem st_str {args : Array Value} {s : State} {A : Nat → Prop} (hgv : (Jvm.Cond.and given_1 narrow_1).before args s = true) (hA : ∀ a : Nat, a < s.heap.size → ¬ A a) :
    ∃ adK adV : Nat → Nat, vk_S 33 strLen strByt adK adV A s s.heap ∧ ∀ i : Nat, i < 33 → (tmS i).eval args s none [] s = some (.ref (adK i)) := by
  have hf : ∀ c ∈ nFl, c.before args s = true := flat_of_before _ hgv
  have hfi : ∀ (i : Nat) (c : Cond), nFl[i]? = some c → c.before args s = true := fun i c h => hf c (List.mem_of_getElem? h)
  have h0 : ∀ i : Nat, ∃ q : Nat × Nat, i < 33 → (tmS i).eval args s none [] s = some (.ref q.1) ∧ va_O "java/lang/String" q.1 A s s.heap ∧ va_OF "java/lang/String" "coder" "B" (.int 0) q.1 A s s.heap ∧ va_OF "java/lang/String" "value" "[B" (.ref q.2) q.1 A s s.heap ∧ va_T .byte q.2 (strLen.getD i 0) (fun j => .int ((strByt.getD i []).getD j 0)) A s s.heap := by
    intro i
    by_cases hi : i < 33
    · obtain ⟨t1, t2, -⟩ := str_tab i hi
      obtain ⟨a, c, cA, kA, q1, q2, q3, q4, q5, q6, -⟩ := Cond.exactly_spec (args := args) (first := s) (o := none) (s := s) (idx := []) (t := tmS i) (cls := "java/lang/String") (hfi _ _ (st_ex i hi))
      obtain ⟨t, ht, hT⟩ := va_Tof (f := fun j => .int ((strByt.getD i []).getD j 0)) (A := A) (by omega) (hfi _ _ (st_ar i hi)) (va_eqt (hfi _ _ (st_le i hi))) (fun j hj => va_eqt (hfi _ _ (st_el i hi j hj))) hA
      exact ⟨(a, t), fun _ => ⟨q1, ⟨cA, q3, q5, by rw [q6]; exact q2, hA a (Array.getElem?_eq_some_iff.mp q3).1⟩, vk_OFof q1 (va_eqt (hfi _ _ (st_co i hi))) hA, vk_OFof q1 ht hA, hT⟩⟩
    · exact ⟨(0, 0), fun h => absurd h hi⟩
  obtain ⟨ad, had⟩ := Classical.axiomOfChoice h0
  refine ⟨fun i => (ad i).1, fun i => (ad i).2, ⟨fun i hi => (had i hi).2, fun i j hi hj e => ?_⟩, fun i hi => (had i hi).1⟩
  obtain ⟨-, -, -, ⟨cf, k, fi, f, cell, a1, a2, a3, a4, a5, a6⟩, ⟨cT, b1, b2, b3, b4, b5, b6, b7⟩⟩ := had i hi
  obtain ⟨-, -, -, ⟨cf', k', fi', f', cell', a1', a2', a3', a4', a5', a6'⟩, ⟨cT', b1', b2', b3', b4', b5', b6', b7'⟩⟩ := had j hj
  have e : (ad i).1 = (ad j).1 := e
  rw [e] at a3
  cases a3.symm.trans a3'
  cases a1.symm.trans a1'
  have hv : (ad i).2 = (ad j).2 := by
    have := a5.symm.trans a5'
    simpa using this
  rw [hv] at b1
  cases b1.symm.trans b1'
  obtain ⟨t1, t2, -⟩ := str_tab i hi
  obtain ⟨t1', t2', -⟩ := str_tab j hj
  have hl : strLen.getD i 0 = strLen.getD j 0 := (nI_eq (by omega) (by omega)).mp (b5.symm.trans b5')
  refine st_inj i hi j hj (List.ext_getElem (by omega) (fun n h1 h2 => ?_))
  have e1 := b6 n (by omega)
  have e2 := b6' n (by omega)
  have e3 := e1.symm.trans e2
  simp only [Option.some.injEq, Value.int.injEq] at e3
  rw [getD_at h1, getD_at h2] at e3
  exact e3
set_option maxHeartbeats 4000000 in
set_option maxRecDepth 100000 in
/-- the law's walk, out of one predicate over the small heap -/
theorem start_of (HP : ∀ (L : Nat) (xs : Nat → Int32), L ≤ 3072 → wL_law L xs 600000 7302250 h00 (fun r _ => r = nI 1)) {p : Program} {e : Env} {s : State} {m : MethodId} {below : List Frame} {meth : Method} {c : Code} (l : Launch) {b L : Nat} {xs : Nat → Int32} (hL : L ≤ 3072) (C0 : lw_At p s m meth c b L xs) : W p l e room_1 s m #[Value.ref b] below meth c s.heap [] 0 0 (lw_Z below #[Value.ref b] s) (entryFrame m ([Value.ref b] : List Value).toArray 4) := by
  obtain ⟨hx, hb, hr, hml, hown, hts, hX, hbl, hlocks, hgv⟩ := id C0
  have hf : ∀ c ∈ nFl, c.before #[Value.ref b] s = true := flat_of_before _ hgv
  have hfi : ∀ (i : Nat) (c : Cond), nFl[i]? = some c → c.before #[Value.ref b] s = true := fun i c h => hf c (List.mem_of_getElem? h)
  have hti : ∀ (i : Nat) (c : Cond), lw_tbl[i]? = some c → c.before #[Value.ref b] s = true := fun i c h => hts c (List.mem_of_getElem? h)
  have hgw : ∀ w ∈ GW, w.before #[Value.ref b] s = true := fun w hw => hts w (List.mem_filter.mp hw).1
  have hA : ∀ a : Nat, a < s.heap.size → ¬ (fun q : Nat => s.heap.size ≤ q) a := fun a h1 h2 => by
    have h2 : s.heap.size ≤ a := h2
    omega
  obtain ⟨adK, adV, hvk, htm⟩ := st_str (A := fun q : Nat => s.heap.size ≤ q) hgv hA
  have hcl : ∀ c : Nat, ∃ q : ClassId × (Nat → Nat), ∀ r, vwCl[c]? = some r → u_Kn s r.1 r.2.1 r.2.2 q.1 q.2 := by
    intro c
    by_cases hc : c < 11
    · have key : ∀ (r : vw_C), vwCl[c]? = some r → Cond.instantiable r.1 r.2.2 ∈ GW → ∃ q : ClassId × (Nat → Nat), ∀ r, vwCl[c]? = some r → u_Kn s r.1 r.2.1 r.2.2 q.1 q.2 := by
        intro r h1 h2
        obtain ⟨cC, iS, h3⟩ := u_known (C := r.1) (T := r.2.1) (N := r.2.2) (n := r.2.2) hgw (uws_in c r h1) (hgw _ h2)
        exact ⟨(cC, iS), fun r' h4 => by cases h1.symm.trans h4; exact h3⟩
      have h11 : c = 0 ∨ c = 1 ∨ c = 2 ∨ c = 3 ∨ c = 4 ∨ c = 5 ∨ c = 6 ∨ c = 7 ∨ c = 8 ∨ c = 9 ∨ c = 10 := by omega
      rcases h11 with rfl | rfl | rfl | rfl | rfl | rfl | rfl | rfl | rfl | rfl | rfl
      · exact key _ rfl inX0
      · exact key _ rfl inX1
      · exact key _ rfl inX2
      · exact key _ rfl inX3
      · exact key _ rfl inX4
      · exact key _ rfl inX5
      · exact key _ rfl inX6
      · exact key _ rfl inX7
      · exact key _ rfl inX8
      · exact key _ rfl inX9
      · exact key _ rfl inX10
    · exact ⟨(0, fun _ => 0), fun r h => absurd (cl_cases h) hc⟩
  obtain ⟨dc, hdc⟩ := Classical.axiomOfChoice hcl
  have har : ∀ k : Nat, ∃ cA : ClassId, 2 ≤ k → k ≤ 8 → ArrOfT s cA (aty k) ∧ va_RA s cA (aty k) := by
    intro k
    by_cases hk : 2 ≤ k ∧ k ≤ 8
    · have kp : ∀ ty : FieldType, (Cond.arrayClass ty).before #[Value.ref b] s = true → (∀ cA, s.vm.findClass ("[" ++ ty.toString) = some cA → va_RA s cA ty) → ∃ cA : ClassId, ArrOfT s cA ty ∧ va_RA s cA ty := by
        intro ty h1 h2
        obtain ⟨cA, kA, comp, f1, f2, f3⟩ := Cond.arrayClass_spec h1
        exact ⟨cA, fun n z => ⟨fun k h => (by cases h), kA, f2, comp, f3⟩, h2 cA f1⟩
      have kr : ∀ C : String, (Cond.arrayOver (.object C)).before #[Value.ref b] s = true → ∃ cA : ClassId, ArrOfT s cA (.object C) ∧ va_RA s cA (.object C) := by
        intro C h1
        obtain ⟨comp, cA, kA, f1, f2, f3, f4, f5⟩ := Cond.arrayOver_spec h1
        exact ⟨cA, fun N z => ⟨(fun k h => by cases h), kA, f3, comp, f4⟩, kA, comp, f3, f4, f1, f5⟩
      have h7 : k = 2 ∨ k = 3 ∨ k = 4 ∨ k = 5 ∨ k = 6 ∨ k = 7 ∨ k = 8 := by omega
      have done : ∃ cA : ClassId, ArrOfT s cA (aty k) ∧ va_RA s cA (aty k) := by
        rcases h7 with rfl | rfl | rfl | rfl | rfl | rfl | rfl
        · exact kp _ (hgw _ aC_int) (fun _ h => h)
        · exact kp _ (hgw _ aC_long) (fun _ h => h)
        · exact kp _ (hgw _ aC_byte) (fun _ h => h)
        · exact kp _ (hgw _ aC_boolean) (fun _ h => h)
        · exact kr _ (hti _ _ st_ao6)
        · exact kr _ (hti _ _ st_ao8)
        · exact kr _ (hti _ _ st_ao4)
      obtain ⟨cA, h1⟩ := done
      exact ⟨cA, fun _ _ => h1⟩
    · exact ⟨0, fun h1 h2 => absurd ⟨h1, h2⟩ hk⟩
  obtain ⟨da, hda⟩ := Classical.axiomOfChoice har
  have hzf : ∃ z : Option Nat, va_Z "jdk/internal/util/Preconditions" "SIOOBE_FORMATTER" "Ljava/util/function/BiFunction;" (va_rf z) (fun q : Nat => s.heap.size ≤ q) s s.heap := by
    rcases va_Zqof (hti _ _ st_lf) (hgw _ iNJ3) (hfi _ _ st_sf) hA with h | ⟨t, h⟩
    · exact ⟨none, h⟩
    · exact ⟨some t, h⟩
  obtain ⟨z, hz⟩ := hzf
  have hcs := va_Zof (hti _ _ stt_ls) (hgw _ iNJ0) (va_eqt (hfi _ _ st_cs)) hA
  generalize hG : ((fun c => (dc c).1, fun c => (dc c).2, da, s.heap.size, adK, (fun i => if i = 63 then b else adV i), z) : GC) = G
  have gB_e : gB G = s.heap.size := by rw [← hG]; rfl
  have gV_e : ∀ i, gV G i = if i = 63 then b else adV i := by intro i; rw [← hG]; rfl
  have gK_e : gK G = adK := by rw [← hG]; rfl
  have gA_e : gA G = da := by rw [← hG]; rfl
  have gZ_e : gZ G = z := by rw [← hG]; rfl
  have gC_e : ∀ c, gC G c = (dc c).1 := by intro c; rw [← hG]; rfl
  have gI_e : ∀ c, gI G c = (dc c).2 := by intro c; rw [← hG]; rfl
  have gAA_e : gAA G = fun q : Nat => s.heap.size ≤ q := by unfold gAA; rw [gB_e]
  have hkK : kK G s := by
    refine ⟨fun c q hq => by rw [gC_e, gI_e]; exact hdc c q hq, fun k h2 h8 => by rw [gA_e]; exact hda k h2 h8, fun w hw => ?_, fun q hq => ?_, fun C hC => ?_⟩
    · obtain ⟨i, hi⟩ := List.getElem?_of_mem hw
      have hi10 : i < 10 := (List.getElem?_eq_some_iff.mp hi).1
      have h1 := st_nst i hi10
      rw [hi] at h1
      exact va_Nw.of rfl (hti _ _ h1)
    · obtain ⟨i, hi⟩ := List.getElem?_of_mem hq
      have hi34 : i < 34 := (List.getElem?_eq_some_iff.mp hi).1
      have h1 := st_ref i hi34
      rw [hi] at h1
      have hw := hti _ _ h1
      rw [gK_e]
      by_cases h33 : i < 33
      · have hn := st_num i h33
        rw [hi] at hn
        have hn : q.2.2.2 = i := by simpa using hn
        have ht := htm i h33
        have etm : tmS i = .string q.1 q.2.1 := by unfold tmS; rw [hi]
        rw [etm] at ht
        rw [hn]
        exact vk_R.of hw ht
      · have h33 : i = 33 := by omega
        subst h33
        have eq33 : strT[33]? = some ("SpareRingsModel", 131, ";:+-*()[]=<>", 0) := by decide +kernel
        cases hi.symm.trans eq33
        have ht := htm 0 (by decide)
        have etm : tmS 0 = .string "SpareRings$Reader" 230 := by decide +kernel
        rw [etm] at ht
        refine vk_R.of hw ?_
        have hsm := hfi _ _ st_same
        cases hv : (Term.string "SpareRingsModel" 131).eval #[Value.ref b] s none [] s with
        | none => simp [Cond.before, Cond.holds, Cond.value, hv, ht] at hsm
        | some w =>
          have : w = .ref (adK 0) := by
            simp only [Cond.before, Cond.holds, Cond.value, hv, ht] at hsm
            cases w <;> simp at hsm
            rw [hsm]
          rw [this]
    · simp only [List.mem_cons, List.not_mem_nil, or_false] at hC
      rcases hC with rfl | rfl | rfl
      · exact va_AO.of (hti _ _ st_ao6)
      · exact va_AO.of (hti _ _ st_ao8)
      · exact va_AO.of (hti _ _ st_ao4)
  have hkS : kS G s s.heap := by
    unfold kS
    rw [gAA_e, gK_e, gZ_e]
    refine ⟨⟨fun i hi => ?_, hvk.2⟩, hcs, hz⟩
    have h1 := hvk.1 i hi
    rw [gV_e, if_neg (by omega)]
    exact h1
  have hcX : cX G (ML_law meth.name L xs) p s m #[Value.ref b] meth c := by
    refine ⟨hx, hb, hml, hown, hgw, hkK, hkS, rfl, by rw [gB_e]; exact Nat.le_refl _, ?_⟩
    show sX L xs G s
    unfold sX
    rw [gV_e, if_pos rfl, gAA_e]
    exact ⟨hX, hbl, Nat.not_le.mpr hbl⟩
  have hrel : relH G h00 s.heap := by
    refine ⟨Nat.le_refl _, by rw [gB_e]; rfl, fun a h1 h2 => ?_, fun a h => absurd rfl h, fun a k _ => ⟨rfl, rfl, rfl⟩⟩
    have h2 : a < 128 := h2
    omega
  have hl := lv_entry ([.ref b]) (n := 4) (Nat.le_of_ble_eq_true rfl)
  rw [lg_entry_eq]
  generalize (lg_sl ([.ref b]) ++ List.replicate (4 - (lg_sl ([.ref b])).length) Slot.unset).toArray = ls at hl ⊢
  have hlo : lsOK G [some (.ref 127), none, none, none] ls 4 := by
    refine ⟨hl.1, hl.2.1, fun i v hv => ?_⟩
    match i, hv with
    | 0, hv =>
      simp at hv
      subst hv
      have h1 := hl.2.2 (0, .ref b) (by simp [lv_args])
      have e1 : vm G (.ref 127) = .ref b := by
        show Value.ref (gad G 127) = _
        rw [gad_scr, gV_e, if_pos rfl]
      rw [e1]
      exact h1
    | 1, hv => simp at hv
    | 2, hv => simp at hv
    | 3, hv => simp at hv
    | i + 4, hv => simp at hv
  have hw := gL_law (nm := meth.name) 600000 7302250 h00 _ (HP L xs hL)
  refine hw G p l e room_1 s m #[Value.ref b] below meth c (lw_Z below #[Value.ref b] s) s.heap [] ls 0 0 hcX ⟨by decide, by decide, Nat.le_of_ble_eq_true rfl, Nat.le_of_ble_eq_true rfl⟩ hrel va_S.rf hlo ?_
  intro v h' H' locs' k' n' pc' lsR' i hq hH' hS' hk' hn' hd hi
  obtain ⟨r, rfl, hr1⟩ := hq
  subst hr1
  have hi1 : i = .ireturn := by
    rcases hi with ⟨h1, -⟩ | ⟨x, -, h1, -⟩ | ⟨x, h1, -⟩ | ⟨r, h1, -⟩
    · cases h1
    · exact h1
    · cases h1
    · cases r <;> cases h1
  subst hi1
  refine W.widen (k := 600000) (n := 7302250) (by omega) (by omega) ?_
  have hloc : ∀ q ∈ locs', s.heap.size ≤ q.base := fun q hq => by
    have := hS'.2.2 q hq
    rw [gAA_e] at this
    exact this
  have hfin : W p l e room_1 s m #[Value.ref b] below meth c H' ([] ++ locs') 600000 7302250 (lw_Z below #[Value.ref b] s) (F0 m pc' lsR' [.int 1]) := W.forget hloc (lw_ret hx hb hr hlocks hd)
  exact hfin
