/-! ===== feed, the reference's side; the two tapes agree ===== -/
/-- the reference's heap with another tape -/
def mtH (h : MH) (f : Nat → Int32) (n : Nat) : MH := sI (rI h 226 f) 223 5 (nI n)
theorem mtH_I (h : MH) (f : Nat → Int32) (n b j : Nat) : hI (mtH h f n) b j = if b = 223 ∧ j = 5 then nI n else if b = 226 then f j else hI h b j := by
  unfold mtH
  rw [hI_sI, hI_rI]
theorem mtH_n (h : MH) (f : Nat → Int32) (n : Nat) : hI (mtH h f n) 223 5 = nI n := by rw [mtH_I, if_pos ⟨rfl, rfl⟩]
theorem mtH_self {h : MH} {n : Nat} (e : hI h 223 5 = nI n) : mtH h (hI h 226) n = h := by
  refine mh_ext (fun _ => rfl) (fun a k => ?_) (fun _ _ => rfl) (fun _ _ => rfl) rfl
  rw [mtH_I]
  split
  · rename_i c; rw [c.1, c.2, e]
  · split
    · rename_i c; rw [c]
    · rfl
theorem mtH_step (h : MH) (f : Nat → Int32) (n : Nat) (v : Int32) : sI (sI (mtH h f n) 226 n v) 223 5 (nI (n + 1)) = mtH h (up1 f n v) (n + 1) := by
  refine mh_ext (fun _ => rfl) (fun a k => ?_) (fun _ _ => rfl) (fun _ _ => rfl) rfl
  rw [hI_sI, hI_sI, mtH_I, mtH_I]
  unfold up1
  by_cases c : a = 223 ∧ k = 5
  · rw [if_pos c, if_pos c]
  · rw [if_neg c, if_neg c, if_neg c]
    by_cases c2 : a = 226
    · rw [if_pos c2, if_pos c2]
      by_cases c3 : k = n
      · rw [if_pos ⟨c2, c3⟩, if_pos c3]
      · rw [if_neg (fun q => c3 q.2), if_neg c3]
    · rw [if_neg c2, if_neg c2, if_neg (fun q => c2 q.1)]
theorem LX_mtH {h : MH} {f : Nat → Int32} {n : Nat} (hl : LX h) : LX (mtH h f n) := LX_sI (LX_rI hl)
/-- the byte that the reference puts down -/
def mB8 (x s : Int32) : Int32 := (x >>> (s &&& 31)) &&& nI 255
def sel5 (a b c d e x : Int32) : Int32 := if nI 4 ≤ x then (if nI 8 ≤ x then (if nI 12 ≤ x then (if nI 16 ≤ x then e else d) else c) else b) else a
theorem u_mf1 {Q : Int32 → MH → Prop} {h : MH} {f : Nat → Int32} {n m i : Nat} {a b c d e s v : Int32} (hl : LX h) (hn : n < 900) (hi : i < 20) (hs : nI 24 - (nI 8 * (nI i - nI i / nI 4 * nI 4)) = s) (hv : sel5 a b c d e (nI i) = v) (kk : wX10_feed_24 Q m 223 a b c d e (nI (i + 1)) (mtH h (up1 f n (mB8 v s)) (n + 1))) : wX10_feed_24 Q (m + 1) 223 a b c d e (nI i) (mtH h f n) := by
  unfold wX10_feed_24
  refine ⟨fun q => absurd q (nI_ge (by omega) (by omega)), fun _ => ?_⟩
  show wX10_feed_77 Q (wX10_feed_24 Q m) 223 a b c d e (nI i) (sel5 a b c d e (nI i)) (mtH h f n)
  rw [hv]
  unfold wX10_feed_77
  refine ⟨S_223 (LX_mtH hl), 226, R_223_3 (LX_mtH hl), by decide, 900, S_226 (LX_mtH hl), ?_, fun _ e1 => ?_⟩
  · rw [mtH_n]; exact vp_in_nI hn (by omega)
  · intro _ e2
    rw [mtH_n, nI_clamp (by omega), hs] at e1
    subst e1
    rw [hI_sI, if_neg (by omega), mtH_n, show nI n + nI 1 = nI (n + 1) from nI_add n 1] at e2
    replace e2 := e2.trans (mtH_step h f n _)
    subst e2
    rw [show nI i + nI 1 = nI (i + 1) from nI_add i 1]
    exact kk
def mput4 (f : Nat → Int32) (n : Nat) (x : Int32) : Nat → Int32 := up1 (up1 (up1 (up1 f n (mB8 x (nI 24))) (n + 1) (mB8 x (nI 16))) (n + 2) (mB8 x (nI 8))) (n + 3) (mB8 x (nI 0))
def mput20 (f : Nat → Int32) (n : Nat) (a b c d e : Int32) : Nat → Int32 := mput4 (mput4 (mput4 (mput4 (mput4 f n a) (n + 4) b) (n + 8) c) (n + 12) d) (n + 16) e
theorem u_mf20 {Q : Int32 → MH → Prop} {h : MH} {f : Nat → Int32} {n : Nat} {a b c d e : Int32} (hl : LX h) (hn : n + 20 ≤ 900) (kk : Q (nI (n + 20)) (mtH h (mput20 f n a b c d e) (n + 20))) : wX10_feed_24 Q 21 223 a b c d e (nI 0) (mtH h f n) := by
  refine u_mf1 (i := 0) (v := a) (s := nI 24) hl (by omega) (by omega) (by decide) rfl ?_
  refine u_mf1 (i := 1) (v := a) (s := nI 16) hl (by omega) (by omega) (by decide) rfl ?_
  refine u_mf1 (i := 2) (v := a) (s := nI 8) hl (by omega) (by omega) (by decide) rfl ?_
  refine u_mf1 (i := 3) (v := a) (s := nI 0) hl (by omega) (by omega) (by decide) rfl ?_
  refine u_mf1 (i := 4) (v := b) (s := nI 24) hl (by omega) (by omega) (by decide) rfl ?_
  refine u_mf1 (i := 5) (v := b) (s := nI 16) hl (by omega) (by omega) (by decide) rfl ?_
  refine u_mf1 (i := 6) (v := b) (s := nI 8) hl (by omega) (by omega) (by decide) rfl ?_
  refine u_mf1 (i := 7) (v := b) (s := nI 0) hl (by omega) (by omega) (by decide) rfl ?_
  refine u_mf1 (i := 8) (v := c) (s := nI 24) hl (by omega) (by omega) (by decide) rfl ?_
  refine u_mf1 (i := 9) (v := c) (s := nI 16) hl (by omega) (by omega) (by decide) rfl ?_
  refine u_mf1 (i := 10) (v := c) (s := nI 8) hl (by omega) (by omega) (by decide) rfl ?_
  refine u_mf1 (i := 11) (v := c) (s := nI 0) hl (by omega) (by omega) (by decide) rfl ?_
  refine u_mf1 (i := 12) (v := d) (s := nI 24) hl (by omega) (by omega) (by decide) rfl ?_
  refine u_mf1 (i := 13) (v := d) (s := nI 16) hl (by omega) (by omega) (by decide) rfl ?_
  refine u_mf1 (i := 14) (v := d) (s := nI 8) hl (by omega) (by omega) (by decide) rfl ?_
  refine u_mf1 (i := 15) (v := d) (s := nI 0) hl (by omega) (by omega) (by decide) rfl ?_
  refine u_mf1 (i := 16) (v := e) (s := nI 24) hl (by omega) (by omega) (by decide) rfl ?_
  refine u_mf1 (i := 17) (v := e) (s := nI 16) hl (by omega) (by omega) (by decide) rfl ?_
  refine u_mf1 (i := 18) (v := e) (s := nI 8) hl (by omega) (by omega) (by decide) rfl ?_
  refine u_mf1 (i := 19) (v := e) (s := nI 0) hl (by omega) (by omega) (by decide) rfl ?_
  unfold wX10_feed_24
  refine ⟨fun _ => ⟨S_223 (LX_mtH hl), ?_⟩, fun q => absurd (nI_le (by omega) (by omega)) q⟩
  rw [mtH_n]
  exact kk
/-- feed, the reference's side -/
theorem u_X10_feed {Q : Int32 → MH → Prop} {h : MH} {n : Nat} {a b c d e : Int32} (hl : LX h) (hn : n ≤ 900) (h0 : hI h 223 5 = nI n) (k1 : n + 20 ≤ 900 → Q (nI (n + 20)) (mtH (sI h 223 0 (nI 0)) (mput20 (hI h 226) n a b c d e) (n + 20))) (k2 : ¬ n + 20 ≤ 900 → Q (-5) (sI h 223 0 (nI 0))) : wX10_feed 223 a b c d e h Q := by
  unfold wX10_feed
  refine ⟨S_223 hl, fun _ e => ?_⟩
  subst e
  have h1 : hI (sI h 223 0 (nI 0)) 223 5 = nI n := by rw [hI_sI, if_neg (by omega)]; exact h0
  have h2 : hI (sI h 223 0 (nI 0)) 226 = hI h 226 := hI_sI_row (by omega)
  refine ⟨fun q => ⟨21, ?_⟩, fun q => ?_⟩
  · rw [h1, show nI n + nI 20 = nI (n + 20) from nI_add n 20, nI_leI (by omega) (by omega)] at q
    have hh := mtH_self h1
    rw [h2] at hh
    have hw := u_mf20 (Q := Q) (h := sI h 223 0 (nI 0)) (f := hI h 226) (n := n) (LX_sI hl) q (k1 q)
    rw [hh] at hw
    exact hw
  · rw [h1, show nI n + nI 20 = nI (n + 20) from nI_add n 20, nI_leI (by omega) (by omega)] at q
    exact k2 q
/-- one byte: the class keeps it with a sign -/
def sgn8 (x : Int32) : Int32 := x.toInt8.toInt32
theorem sx8 (x : BitVec 32) (n : Nat) (hn : n + 8 ≤ 32) : BitVec.signExtend 8 (x >>> n) = BitVec.signExtend 8 (x.sshiftRight n) &&& 255#8 := by
  rw [show 255#8 = BitVec.allOnes 8 from by decide, BitVec.and_allOnes]
  apply BitVec.eq_of_getLsbD_eq
  intro i hi
  rw [BitVec.getLsbD_signExtend, BitVec.getLsbD_signExtend, if_pos (by omega), if_pos (by omega), BitVec.getLsbD_ushiftRight, BitVec.getLsbD_sshiftRight, if_pos (by omega)]
  simp only [show ¬ 32 ≤ i from by omega, decide_false, Bool.not_false, Bool.true_and]
theorem cB_24 (x : Int32) : cB x (nI 24) = sgn8 (mB8 x (nI 24)) := by
  unfold cB sgn8 mB8
  have key : (((x).toUInt32 >>> ((nI 24).toUInt32 &&& Int32.toUInt32 31)).toInt32).toInt8 = ((x >>> (nI 24 &&& 31)) &&& nI 255).toInt8 := by
    apply Int8.toBitVec_inj.mp
    have e1 : ((nI 24).toUInt32 &&& Int32.toUInt32 31) = 24 := by decide
    have e2 : (nI 24 &&& 31) = 24 := by decide
    rw [e1, e2]
    have q := sx8 x.toBitVec 24 (by omega)
    simp [nI] at q ⊢
    exact q
  rw [key]
  simp
theorem cB_16 (x : Int32) : cB x (nI 16) = sgn8 (mB8 x (nI 16)) := by
  unfold cB sgn8 mB8
  have key : (((x).toUInt32 >>> ((nI 16).toUInt32 &&& Int32.toUInt32 31)).toInt32).toInt8 = ((x >>> (nI 16 &&& 31)) &&& nI 255).toInt8 := by
    apply Int8.toBitVec_inj.mp
    have e1 : ((nI 16).toUInt32 &&& Int32.toUInt32 31) = 16 := by decide
    have e2 : (nI 16 &&& 31) = 16 := by decide
    rw [e1, e2]
    have q := sx8 x.toBitVec 16 (by omega)
    simp [nI] at q ⊢
    exact q
  rw [key]
  simp
theorem cB_8 (x : Int32) : cB x (nI 8) = sgn8 (mB8 x (nI 8)) := by
  unfold cB sgn8 mB8
  have key : (((x).toUInt32 >>> ((nI 8).toUInt32 &&& Int32.toUInt32 31)).toInt32).toInt8 = ((x >>> (nI 8 &&& 31)) &&& nI 255).toInt8 := by
    apply Int8.toBitVec_inj.mp
    have e1 : ((nI 8).toUInt32 &&& Int32.toUInt32 31) = 8 := by decide
    have e2 : (nI 8 &&& 31) = 8 := by decide
    rw [e1, e2]
    have q := sx8 x.toBitVec 8 (by omega)
    simp [nI] at q ⊢
    exact q
  rw [key]
  simp
theorem cB_0 (x : Int32) : cB x (nI 0) = sgn8 (mB8 x (nI 0)) := by
  unfold cB sgn8 mB8
  have key : (((x).toUInt32 >>> ((nI 0).toUInt32 &&& Int32.toUInt32 31)).toInt32).toInt8 = ((x >>> (nI 0 &&& 31)) &&& nI 255).toInt8 := by
    apply Int8.toBitVec_inj.mp
    have e1 : ((nI 0).toUInt32 &&& Int32.toUInt32 31) = 0 := by decide
    have e2 : (nI 0 &&& 31) = 0 := by decide
    rw [e1, e2]
    have q := sx8 x.toBitVec 0 (by omega)
    simp [nI] at q ⊢
    first | exact q | done
  rw [key]
  simp
