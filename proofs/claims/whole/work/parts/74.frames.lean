/-! ===== frames; a net's value; the class's net ===== -/
/-- h1 is h but for the ints of addresses in S -/
def Fr (S : Nat → Prop) (h h1 : MH) : Prop := hN h1 = hN h ∧ hS h1 = hS h ∧ hL h1 = hL h ∧ hR h1 = hR h ∧ ∀ b, ¬ S b → hI h1 b = hI h b
theorem Fr_rfl (S : Nat → Prop) (h : MH) : Fr S h h := ⟨rfl, rfl, rfl, rfl, fun _ _ => rfl⟩
theorem Fr_trans {S : Nat → Prop} {h h1 h2 : MH} (p : Fr S h h1) (q : Fr S h1 h2) : Fr S h h2 := ⟨q.1.trans p.1, q.2.1.trans p.2.1, q.2.2.1.trans p.2.2.1, q.2.2.2.1.trans p.2.2.2.1, fun b hb => (q.2.2.2.2 b hb).trans (p.2.2.2.2 b hb)⟩
theorem Fr_mono {S T : Nat → Prop} {h h1 : MH} (hst : ∀ b, S b → T b) (p : Fr S h h1) : Fr T h h1 := ⟨p.1, p.2.1, p.2.2.1, p.2.2.2.1, fun b hb => p.2.2.2.2 b (fun q => hb (hst b q))⟩
theorem Fr_sI {S : Nat → Prop} {h : MH} {a k : Nat} {v : Int32} (ha : S a) : Fr S h (sI h a k v) := ⟨rfl, rfl, rfl, rfl, fun b hb => hI_sI_row (fun e => hb (e ▸ ha))⟩
theorem Fr_rI {S : Nat → Prop} {h : MH} {a : Nat} {f : Nat → Int32} (ha : S a) : Fr S h (rI h a f) := ⟨rfl, rfl, rfl, rfl, fun b hb => by
  funext j
  rw [hI_rI, if_neg (fun (e : b = a) => hb (e ▸ ha))]⟩
theorem LX_Fr {S : Nat → Prop} {h h1 : MH} (p : Fr S h h1) (hl : LX h) : LX h1 := by
  unfold LX
  rw [p.1, p.2.1, p.2.2.2.1]
  exact hl
theorem Fr_I {S : Nat → Prop} {h h1 : MH} (p : Fr S h h1) {b : Nat} (hb : ¬ S b) (k : Nat) : hI h1 b k = hI h b k := by rw [p.2.2.2.2 b hb]
/-- a net's value: (nodes, links, lines, cycles), (from, to, long, work), (links, nodes, chords of a cycle), paths, prices by rate, cycles that may be by rate -/
abbrev NV : Type := (Nat × Nat × Nat × Nat) × ((Nat → Nat) × (Nat → Nat) × (Nat → Nat) × (Nat → Nat)) × ((Nat → Nat) × (Nat → Nat) × (Nat → Nat)) × (Nat → Nat → Nat → Nat) × (Nat → Nat → Nat) × (Nat → Nat)
def nvK (v : NV) : Nat := v.1.1
def nvL (v : NV) : Nat := v.1.2.1
def nvN (v : NV) : Nat := v.1.2.2.1
def nvC (v : NV) : Nat := v.1.2.2.2
def nvF (v : NV) : Nat → Nat := v.2.1.1
def nvT (v : NV) : Nat → Nat := v.2.1.2.1
def nvO (v : NV) : Nat → Nat := v.2.1.2.2.1
def nvW (v : NV) : Nat → Nat := v.2.1.2.2.2
def nvOn (v : NV) : Nat → Nat := v.2.2.1.1
def nvNd (v : NV) : Nat → Nat := v.2.2.1.2.1
def nvCh (v : NV) : Nat → Nat := v.2.2.1.2.2
def nvPa (v : NV) : Nat → Nat → Nat → Nat := v.2.2.2.1
def nvPr (v : NV) : Nat → Nat → Nat := v.2.2.2.2.1
def nvMy (v : NV) : Nat → Nat := v.2.2.2.2.2
def nvPc (v : NV) (r c : Nat) : Nat := smN (nvPr v r) (nvOn v c) (nvL v)
/-- the paths of a cycle for a link: on it, across it, apart from it -/
def paOK (v : NV) (c l : Nat) : Prop :=
  (bt (nvOn v c) l = 1 ∧ bt (nvCh v c) l = 0 ∧ nvPa v c l 0 = nvOn v c - 2 ^ l ∧ 0 < nvPa v c l 0 ∧ nvPa v c l 0 < 1024 ∧ nvPa v c l 1 = 0) ∨
  (bt (nvOn v c) l = 0 ∧ bt (nvCh v c) l = 1 ∧ 0 < nvPa v c l 0 ∧ nvPa v c l 0 < nvPa v c l 1 ∧ nvPa v c l 1 < 1024) ∨
  (bt (nvOn v c) l = 0 ∧ bt (nvCh v c) l = 0 ∧ nvPa v c l 0 = 0 ∧ nvPa v c l 1 = 0)
def NvOK (v : NV) : Prop :=
  (1 ≤ nvK v ∧ nvK v ≤ 8 ∧ nvL v ≤ 10 ∧ nvN v ≤ 1000 ∧ nvC v ≤ 40) ∧
  (∀ l, l < nvL v → nvF v l < nvK v ∧ nvT v l < nvK v ∧ nvF v l ≠ nvT v l ∧ nvO v l ≤ 9 ∧ nvW v l ≤ 2) ∧
  (∀ c, c < nvC v → 0 < nvOn v c ∧ nvOn v c < 2 ^ nvL v ∧ nvNd v c < 256 ∧ nvCh v c < 2 ^ nvL v) ∧
  (∀ c d, c < d → d < nvC v → nvOn v c < nvOn v d) ∧
  (∀ c l, c < nvC v → l < nvL v → paOK v c l) ∧
  (∀ r l, r < 10 → l < nvL v → 1 ≤ nvPr v r l ∧ nvPr v r l ≤ 99) ∧
  (∀ r, r < 10 → nvMy v r < 2 ^ nvC v)
/-- where a net's objects may lie -/
def NA (h : MH) (b : Nat) : Prop := (135 ≤ b ∧ b ≤ 145) ∨ (244 ≤ b ∧ b < hN h)
def NetP (h : MH) (a : Nat) (v : NV) (p : Nat → Nat) : Prop :=
  (∀ k, 4 ≤ k → k ≤ 14 → k ≠ 10 → hR h a k = some (p k) ∧ NA h (p k)) ∧
  (hS h (p 4) = (2, 10) ∧ hS h (p 5) = (2, 10) ∧ hS h (p 6) = (2, 10) ∧ hS h (p 7) = (2, 10) ∧ hS h (p 8) = (2, 100) ∧ hS h (p 9) = (3, 10) ∧ hS h (p 11) = (2, nvC v) ∧ hS h (p 12) = (2, nvC v) ∧ hS h (p 13) = (2, nvC v) ∧ hS h (p 14) = (2, 20 * nvC v)) ∧
  (∀ l, l < nvL v → hI h (p 4) l = nI (nvF v l) ∧ hI h (p 5) l = nI (nvT v l) ∧ hI h (p 6) l = nI (nvO v l) ∧ hI h (p 7) l = nI (nvW v l)) ∧
  (∀ r l, r < 10 → l < nvL v → hI h (p 8) (r * 10 + l) = nI (nvPr v r l)) ∧
  (∀ r, r < 10 → hL h (p 9) r = lN (nvMy v r)) ∧
  (∀ c, c < nvC v → hI h (p 11) c = nI (nvOn v c) ∧ hI h (p 12) c = nI (nvNd v c) ∧ hI h (p 13) c = nI (nvCh v c)) ∧
  (∀ c l s, c < nvC v → l < nvL v → s < 2 → hI h (p 14) ((c * 10 + l) * 2 + s) = nI (nvPa v c l s))
def NetV (h : MH) (a : Nat) (v : NV) : Prop := NvOK v ∧ hS h a = (1, 4) ∧ NA h a ∧ hI h a 0 = nI (nvK v) ∧ hI h a 2 = nI (nvN v) ∧ hI h a 3 = nI (nvL v) ∧ hI h a 10 = nI (nvC v) ∧ ∃ p, NetP h a v p
/-- what leaves every net as it is -/
def NetEq (h h1 : MH) : Prop := hN h ≤ hN h1 ∧ ∀ b, NA h b → hS h1 b = hS h b ∧ hI h1 b = hI h b ∧ hR h1 b = hR h b ∧ (hS h b = (3, 10) → hL h1 b = hL h b)
theorem NA_keep {h h1 : MH} (q : hN h ≤ hN h1) {b : Nat} (p : NA h b) : NA h1 b := by
  unfold NA at *
  omega
theorem NetV_keep {h h1 : MH} {a : Nat} {v : NV} (q : NetEq h h1) (p : NetV h a v) : NetV h1 a v := by
  obtain ⟨p0, p1, p2, p3, p4, p5, p6, w, w1, w2, w3, w4, w5, w6, w7⟩ := p
  obtain ⟨q1, q2⟩ := q
  have ea := q2 a p2
  have e : ∀ k, 4 ≤ k → k ≤ 14 → k ≠ 10 → hS h1 (w k) = hS h (w k) ∧ hI h1 (w k) = hI h (w k) ∧ hR h1 (w k) = hR h (w k) ∧ (hS h (w k) = (3, 10) → hL h1 (w k) = hL h (w k)) := fun k k1 k2 k3 => q2 _ (w1 k k1 k2 k3).2
  refine ⟨p0, by rw [ea.1]; exact p1, NA_keep q1 p2, by rw [ea.2.1]; exact p3, by rw [ea.2.1]; exact p4, by rw [ea.2.1]; exact p5, by rw [ea.2.1]; exact p6, w, fun k k1 k2 k3 => ⟨by rw [ea.2.2.1]; exact (w1 k k1 k2 k3).1, NA_keep q1 (w1 k k1 k2 k3).2⟩, ?_, ?_, ?_, ?_, ?_, ?_⟩
  · rw [(e 4 (by omega) (by omega) (by omega)).1, (e 5 (by omega) (by omega) (by omega)).1, (e 6 (by omega) (by omega) (by omega)).1, (e 7 (by omega) (by omega) (by omega)).1, (e 8 (by omega) (by omega) (by omega)).1, (e 9 (by omega) (by omega) (by omega)).1, (e 11 (by omega) (by omega) (by omega)).1, (e 12 (by omega) (by omega) (by omega)).1, (e 13 (by omega) (by omega) (by omega)).1, (e 14 (by omega) (by omega) (by omega)).1]
    exact w2
  · rw [(e 4 (by omega) (by omega) (by omega)).2.1, (e 5 (by omega) (by omega) (by omega)).2.1, (e 6 (by omega) (by omega) (by omega)).2.1, (e 7 (by omega) (by omega) (by omega)).2.1]
    exact w3
  · rw [(e 8 (by omega) (by omega) (by omega)).2.1]
    exact w4
  · rw [(e 9 (by omega) (by omega) (by omega)).2.2.2 w2.2.2.2.2.2.1]
    exact w5
  · rw [(e 11 (by omega) (by omega) (by omega)).2.1, (e 12 (by omega) (by omega) (by omega)).2.1, (e 13 (by omega) (by omega) (by omega)).2.1]
    exact w6
  · rw [(e 14 (by omega) (by omega) (by omega)).2.1]
    exact w7
theorem NetEq_rfl (h : MH) : NetEq h h := ⟨Nat.le_refl _, fun _ _ => ⟨rfl, rfl, rfl, fun _ => rfl⟩⟩
theorem NetEq_trans {h h1 h2 : MH} (p : NetEq h h1) (q : NetEq h1 h2) : NetEq h h2 := by
  refine ⟨Nat.le_trans p.1 q.1, fun b hb => ?_⟩
  have e1 := p.2 b hb
  have e2 := q.2 b (NA_keep p.1 hb)
  exact ⟨e2.1.trans e1.1, e2.2.1.trans e1.2.1, e2.2.2.1.trans e1.2.2.1, fun z => (e2.2.2.2 (by rw [e1.1]; exact z)).trans (e1.2.2.2 z)⟩
theorem NetEq_Fr {S : Nat → Prop} {h h1 : MH} (hS : ∀ b, S b → 146 ≤ b ∧ b < 244) (p : Fr S h h1) : NetEq h h1 := by
  refine ⟨Nat.le_of_eq p.1.symm, fun b hb => ⟨by rw [p.2.1], p.2.2.2.2 b (fun q => ?_), by rw [p.2.2.2.1], fun _ => by rw [p.2.2.1]⟩⟩
  have := hS b q
  unfold NA at hb
  omega
/-! ===== the class's net asked ===== -/
theorem lt_of_pow {a n : Nat} (h : a < 2 ^ n) (hn : n ≤ 10) : a < 1024 := Nat.lt_of_lt_of_le h (Nat.pow_le_pow_right (by omega) hn)
theorem lt_of_pow40 {a n : Nat} (h : a < 2 ^ n) (hn : n ≤ 40) : a < 2 ^ 63 := Nat.lt_of_lt_of_le h (Nat.pow_le_pow_right (by omega) (by omega))
theorem n_hasLink {Q : Int32 → MH → Prop} {h : MH} {a : Nat} {v : NV} {x : Int32} (p : NetV h a v) (k1 : ∀ l, l < nvL v → x = nI l → Q (nI 1) h) (k2 : ¬ (0 ≤ x.toInt ∧ x.toInt ≤ (nvL v : Int) - 1) → Q (nI 0) h) : wX4_hasLink a x h Q :=
  u_hasLink p.2.1 (by have := p.1.1; omega) p.2.2.2.2.2.1 k1 k2
theorem n_cycleOf {Q : Int32 → MH → Prop} {h : MH} {a t : Nat} {v : NV} {x : Int32} (p : NetV h a v) (ht : t < 10) (k1 : ∀ c, c < nvC v → bt (nvMy v t) c = 1 → x = nI (bcN (nvMy v t) c) → Q (nI c) h) (k2 : (∀ c, c < nvC v → bt (nvMy v t) c = 1 → x ≠ nI (bcN (nvMy v t) c)) → Q (-1) h) : wX4_cycleOf a (nI t) x h Q := by
  obtain ⟨p0, p1, p2, p3, p4, p5, p6, w, w1, w2, w3, w4, w5, w6, w7⟩ := p
  have c0 := p0.1
  exact u_cycleOf p1 (by omega) p6 (w1 9 (by omega) (by omega) (by omega)).1 w2.2.2.2.2.2.1 ht (w5 t ht) (lt_of_pow40 (p0.2.2.2.2.2.2 t ht) (by omega)) k1 k2
theorem btz_hi {m c n : Nat} (h : m < 2 ^ n) (hc : n ≤ c) : bt m c = 0 := by
  unfold bt
  rw [Nat.div_eq_of_lt (Nat.lt_of_lt_of_le h (Nat.pow_le_pow_right (by omega) hc))]
theorem bcz_hi {m n : Nat} (h : m < 2 ^ n) : ∀ k, bcN m (n + k) = bcN m n
  | 0 => rfl
  | k + 1 => by
    show bcN m (n + k) + bt m (n + k) = bcN m n
    rw [bcz_hi h k, btz_hi h (by omega)]
    rfl
theorem n_ringCount {Q : Int32 → MH → Prop} {h : MH} {a t : Nat} {v : NV} (p : NetV h a v) (ht : t < 10) (hq : Q (nI (bcN (nvMy v t) (nvC v))) h) : wX4_ringCount a (nI t) h Q := by
  obtain ⟨p0, p1, p2, p3, p4, p5, p6, w, w1, w2, w3, w4, w5, w6, w7⟩ := p
  have c0 := p0.1
  refine u_ringCount p1 (w1 9 (by omega) (by omega) (by omega)).1 w2.2.2.2.2.2.1 ht (w5 t ht) (lt_of_pow40 (p0.2.2.2.2.2.2 t ht) (by omega)) ?_
  have e := bcz_hi (p0.2.2.2.2.2.2 t ht) (64 - nvC v)
  rw [show nvC v + (64 - nvC v) = 64 from by omega] at e
  rw [e]
  exact hq
theorem n_useOf {Q : Int32 → MH → Prop} {h : MH} {a c l : Nat} {v : NV} (p : NetV h a v) (hc : c < nvC v) (hl : l < 32) (hq : Q (nI (bt (nvOn v c) l + 2 * bt (nvCh v c) l)) h) : wX4_useOf a (nI c) (nI l) h Q := by
  obtain ⟨p0, p1, p2, p3, p4, p5, p6, w, w1, w2, w3, w4, w5, w6, w7⟩ := p
  have c0 := p0.1
  have c1 := p0.2.2.1 c hc
  exact u_cuse p1 (w1 11 (by omega) (by omega) (by omega)).1 w2.2.2.2.2.2.2.1 (w1 13 (by omega) (by omega) (by omega)).1 w2.2.2.2.2.2.2.2.2.1 (by omega) hc (w6 c hc).1 (w6 c hc).2.2 (by have := lt_of_pow c1.2.1 (by omega); omega) (by have := lt_of_pow c1.2.2.2 (by omega); omega) hl hq
theorem n_allUses {Q : Int32 → MH → Prop} {h : MH} {a c : Nat} {v : NV} (p : NetV h a v) (hc : c < nvC v) (hq : Q (nI (bcN (nvOn v c) 10 + 2 * bcN (nvCh v c) 10)) h) : wX4_allUses a (nI c) h Q := by
  obtain ⟨p0, p1, p2, p3, p4, p5, p6, w, w1, w2, w3, w4, w5, w6, w7⟩ := p
  have c0 := p0.1
  have c1 := p0.2.2.1 c hc
  exact u_callUses p1 (w1 11 (by omega) (by omega) (by omega)).1 w2.2.2.2.2.2.2.1 (w1 13 (by omega) (by omega) (by omega)).1 w2.2.2.2.2.2.2.2.2.1 (by omega) hc (w6 c hc).1 (w6 c hc).2.2 (lt_of_pow c1.2.1 (by omega)) (lt_of_pow c1.2.2.2 (by omega)) hq
theorem n_priceOf {Q : Int32 → MH → Prop} {h : MH} {a c r : Nat} {v : NV} (p : NetV h a v) (hc : c < nvC v) (hr : r < 10) (hq : Q (nI (nvPc v r c)) h) : wX4_priceOf a (nI c) (nI r) h Q := by
  obtain ⟨p0, p1, p2, p3, p4, p5, p6, w, w1, w2, w3, w4, w5, w6, w7⟩ := p
  have c0 := p0.1
  have c1 := p0.2.2.1 c hc
  exact u_priceOf p1 (by omega) p5 (w1 11 (by omega) (by omega) (by omega)).1 w2.2.2.2.2.2.2.1 (by omega) hc (w6 c hc).1 (by have := lt_of_pow c1.2.1 (by omega); omega) (w1 8 (by omega) (by omega) (by omega)).1 w2.2.2.2.2.1 hr (fun k hk => w4 r k hr hk) hq
