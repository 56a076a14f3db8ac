/-! ===== small questions to the class's net ===== -/
theorem u_ringCount {Q : Int32 → MH → Prop} {h : MH} {a w m t : Nat} (hs : hS h a = (1, 4)) (hw : hR h a 9 = some w) (hw2 : hS h w = (3, 10)) (ht : t < 10) (hm : hL h w t = lN m) (hm2 : m < 2 ^ 63) (hq : Q (nI (bcN m 64)) h) : wX4_ringCount a (nI t) h Q := by
  unfold wX4_ringCount
  refine ⟨hs, w, hw, 10, hw2, vp_in_nI (by omega) (by omega), ?_⟩
  rw [nI_clamp (by omega), hm]
  exact u_lbitCount hm2 hq
theorem u_cuse {Q : Int32 → MH → Prop} {h : MH} {a o d n c l s x : Nat} (hs : hS h a = (1, 4)) (ho : hR h a 11 = some o) (ho2 : hS h o = (2, n)) (hd : hR h a 13 = some d) (hd2 : hS h d = (2, n)) (hn : n < 2 ^ 30) (hc : c < n) (es : hI h o c = nI s) (ex : hI h d c = nI x) (ls : s < 2 ^ 31) (lx : x < 2 ^ 31) (hl : l < 32) (hq : Q (nI (bt s l + 2 * bt x l)) h) : wX4_useOf a (nI c) (nI l) h Q := by
  unfold wX4_useOf
  rw [nI_clamp (by omega)]
  refine ⟨hs, o, ho, n, ho2, vp_in_nI hc (by omega), d, hd, n, hd2, vp_in_nI hc (by omega), ?_⟩
  rw [es, ex, nI_bit ls hl, nI_bit lx hl, show nI 2 * nI (bt x l) = nI (2 * bt x l) from (Int32.ofNat_mul _ _).symm, nI_add]
  exact hq
theorem u_callUses {Q : Int32 → MH → Prop} {h : MH} {a o d n c s x : Nat} (hs : hS h a = (1, 4)) (ho : hR h a 11 = some o) (ho2 : hS h o = (2, n)) (hd : hR h a 13 = some d) (hd2 : hS h d = (2, n)) (hn : n < 2 ^ 30) (hc : c < n) (es : hI h o c = nI s) (ex : hI h d c = nI x) (ls : s < 1024) (lx : x < 1024) (hq : Q (nI (bcN s 10 + 2 * bcN x 10)) h) : wX4_allUses a (nI c) h Q := by
  unfold wX4_allUses
  rw [nI_clamp (by omega)]
  refine ⟨hs, o, ho, n, ho2, vp_in_nI hc (by omega), ?_⟩
  rw [es]
  refine u_bitCount ls ⟨hs, d, hd, n, hd2, vp_in_nI hc (by omega), ?_⟩
  rw [ex]
  refine u_bitCount lx ?_
  rw [show nI 2 * nI (bcN x 10) = nI (2 * bcN x 10) from (Int32.ofNat_mul _ _).symm, nI_add]
  exact hq
theorem u_priceOf_loop {Q : Int32 → MH → Prop} {h : MH} {a o w n c s r l : Nat} {f : Nat → Nat} (hs : hS h a = (1, 4)) (hl : l ≤ 10) (e : hI h a 3 = nI l) (ho : hR h a 11 = some o) (ho2 : hS h o = (2, n)) (hn : n < 2 ^ 30) (hc : c < n) (es : hI h o c = nI s) (ls : s < 2 ^ 31) (hw : hR h a 8 = some w) (hw2 : hS h w = (2, 100)) (hr : r < 10) (hf : ∀ k, k < l → hI h w (r * 10 + k) = nI (f k)) (hq : Q (nI (smN f s l)) h) : ∀ j i, i + j = l → wX4_priceOf_5 Q (j + 1) a (nI c) (nI r) (nI (smN f s i)) (nI i) h := by
  intro j
  induction j with
  | zero =>
    intro i hi
    have hi : i = l := by omega
    subst hi
    unfold wX4_priceOf_5
    rw [e]
    exact ⟨hs, fun _ => hq, fun c => absurd (nI_le (by omega) (by omega)) c⟩
  | succ j ih =>
    intro i hi
    have e0 : nI r * nI 10 + nI i = nI (r * 10 + i) := by
      rw [show nI r * nI 10 = nI (r * 10) from (Int32.ofNat_mul _ _).symm, nI_add]
    unfold wX4_priceOf_5
    rw [e, e0, nI_clamp (show c < 2 ^ 31 by omega), nI_clamp (show r * 10 + i < 2 ^ 31 by omega)]
    refine ⟨hs, fun c => absurd c (nI_ge (by omega) (by omega)), fun _ => ⟨o, ho, n, ho2, vp_in_nI hc (by omega), w, hw, 100, hw2, vp_in_nI (by omega) (by omega), fun _ e2 => ?_⟩⟩
    rw [es, hf i (by omega), nI_bit ls (by omega), show nI (bt s i) * nI (f i) = nI (bt s i * f i) from (Int32.ofNat_mul _ _).symm, nI_add] at e2
    subst e2
    rw [nI_add]
    exact ih (i + 1) (by omega)
theorem u_priceOf {Q : Int32 → MH → Prop} {h : MH} {a o w n c s r l : Nat} {f : Nat → Nat} (hs : hS h a = (1, 4)) (hl : l ≤ 10) (e : hI h a 3 = nI l) (ho : hR h a 11 = some o) (ho2 : hS h o = (2, n)) (hn : n < 2 ^ 30) (hc : c < n) (es : hI h o c = nI s) (ls : s < 2 ^ 31) (hw : hR h a 8 = some w) (hw2 : hS h w = (2, 100)) (hr : r < 10) (hf : ∀ k, k < l → hI h w (r * 10 + k) = nI (f k)) (hq : Q (nI (smN f s l)) h) : wX4_priceOf a (nI c) (nI r) h Q :=
  ⟨l + 1, u_priceOf_loop hs hl e ho ho2 hn hc es ls hw hw2 hr hf hq l 0 (by omega)⟩
