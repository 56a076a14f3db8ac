/-! ===== rings by number; the reference's small questions over the relation ===== -/
theorem bcN_mono (m : Nat) {c d : Nat} (h : c ≤ d) : bcN m c ≤ bcN m d := by
  obtain ⟨k, rfl⟩ := Nat.exists_eq_add_of_le h
  clear h
  induction k with
  | zero => exact Nat.le_refl _
  | succ k ih => exact Nat.le_trans ih (Nat.le_add_right _ _)
theorem bcN_lt {m c n : Nat} (h : c < n) (hb : bt m c = 1) : bcN m c < bcN m n := by
  have h1 : bcN m (c + 1) ≤ bcN m n := bcN_mono m h
  have h2 : bcN m (c + 1) = bcN m c + bt m c := rfl
  omega
theorem ring_ex {m : Nat} : ∀ {n r : Nat}, r < bcN m n → ∃ c, c < n ∧ bt m c = 1 ∧ bcN m c = r
  | 0, r, h => absurd h (Nat.not_lt_zero _)
  | n + 1, r, h => by
    by_cases q : r < bcN m n
    · obtain ⟨c, h1, h2, h3⟩ := ring_ex q
      exact ⟨c, by omega, h2, h3⟩
    · have e : bcN m (n + 1) = bcN m n + bt m n := rfl
      have b := bt_lt m n
      exact ⟨n, by omega, by omega, by omega⟩
theorem ring_inj {m c d : Nat} (h1 : bt m c = 1) (h2 : bt m d = 1) (e : bcN m c = bcN m d) : c = d := by
  rcases Nat.lt_trichotomy c d with q | q | q
  · have := bcN_lt q h1; omega
  · exact q
  · have := bcN_lt q h2; omega
theorem bt01 (s k : Nat) : bt s k = 0 ∨ bt s k = 1 := by have := bt_lt s k; omega
/-- x is the number of cycle c as a ring -/
def isRg (v : NV) (r : Nat) (x : Int32) (c : Nat) : Prop := c < nvC v ∧ bt (nvMy v r) c = 1 ∧ x = nI (bcN (nvMy v r) c)
theorem isRg_lt {v : NV} {r c : Nat} {x : Int32} (hv : NvOK v) (p : isRg v r x c) : bcN (nvMy v r) c < bcN (nvMy v r) (nvC v) ∧ bcN (nvMy v r) c < 40 := by
  have h1 := bcN_lt p.1 p.2.1
  have h2 := bcN_le (nvMy v r) c
  have h3 := p.1
  have h4 := hv.1
  omega
theorem n_cycleOf1 {Q : Int32 → MH → Prop} {h : MH} {a t c : Nat} {v : NV} {x : Int32} (p : NetV h a v) (ht : t < 10) (hx : isRg v t x c) (hq : Q (nI c) h) : wX4_cycleOf a (nI t) x h Q := by
  have hlt := isRg_lt p.1 hx
  refine n_cycleOf p ht (fun d hd hb e => ?_) (fun k => absurd hx.2.2 (k c hx.1 hx.2.1))
  have hd2 := isRg_lt (x := x) p.1 ⟨hd, hb, e⟩
  have e2 : bcN (nvMy v t) c = bcN (nvMy v t) d := (nI_eq (by omega) (by omega)).mp (hx.2.2.symm.trans e)
  rw [← ring_inj hx.2.1 hb e2]
  exact hq
theorem n_cycleOf0 {Q : Int32 → MH → Prop} {h : MH} {a t : Nat} {v : NV} {x : Int32} (p : NetV h a v) (ht : t < 10) (hx : ¬ ∃ c, isRg v t x c) (hq : Q (-1) h) : wX4_cycleOf a (nI t) x h Q :=
  n_cycleOf p ht (fun d hd hb e => absurd ⟨d, hd, hb, e⟩ hx) (fun _ => hq)
theorem m_isRing1 {Q : Int32 → MH → Prop} {h : MH} {v : NV} {t c : Nat} {x : Int32} (hl : LX h) (hv : NvOK v) (p : RgV h v t) (hx : isRg v t x c) (hq : Q (nI 1) h) : wX10_isRing 223 x.toInt64 h Q := by
  have hlt := isRg_lt hv hx
  have h1 := bcN_le (nvMy v t) (nvC v)
  have h4 := hv.1
  refine u_isRing hl (by omega) p.1 (fun _ _ _ => hq) (fun k => absurd ?_ k)
  rw [hx.2.2, nI_toInt (by omega)]
  omega
theorem m_isRing0 {Q : Int32 → MH → Prop} {h : MH} {v : NV} {t : Nat} {x : Int32} (hl : LX h) (hv : NvOK v) (p : RgV h v t) (hx : ¬ ∃ c, isRg v t x c) (hq : Q (nI 0) h) : wX10_isRing 223 x.toInt64 h Q := by
  have h1 := bcN_le (nvMy v t) (nvC v)
  have h4 := hv.1
  refine u_isRing hl (by omega) p.1 (fun l hl2 e => ?_) (fun _ => hq)
  obtain ⟨c, c1, c2, c3⟩ := ring_ex hl2
  exact absurd ⟨c, c1, c2, by rw [c3]; exact e⟩ hx
def isLk (v : NV) (x : Int32) (l : Nat) : Prop := l < nvL v ∧ x = nI l
theorem isLk_no {v : NV} {x : Int32} (hv : nvL v ≤ 10) (hx : ¬ ∃ l, isLk v x l) : ¬ (0 ≤ x.toInt ∧ x.toInt ≤ (nvL v : Int) - 1) := by
  intro k
  refine hx ⟨x.toInt.toNat, by omega, ?_⟩
  apply Int32.toInt_inj.mp
  rw [nI_toInt (by omega)]
  omega
theorem n_hasLink1 {Q : Int32 → MH → Prop} {h : MH} {a l : Nat} {v : NV} {x : Int32} (p : NetV h a v) (hx : isLk v x l) (hq : Q (nI 1) h) : wX4_hasLink a x h Q := by
  have h4 := p.1.1
  have h5 := hx.1
  refine n_hasLink p (fun _ _ _ => hq) (fun k => absurd ?_ k)
  rw [hx.2, nI_toInt (by omega)]
  omega
theorem n_hasLink0 {Q : Int32 → MH → Prop} {h : MH} {a : Nat} {v : NV} {x : Int32} (p : NetV h a v) (hx : ¬ ∃ l, isLk v x l) (hq : Q (nI 0) h) : wX4_hasLink a x h Q :=
  n_hasLink p (fun l h1 h2 => absurd ⟨l, h1, h2⟩ hx) (fun _ => hq)
theorem m_isLink1 {Q : Int32 → MH → Prop} {h : MH} {l : Nat} {v : NV} {x : Int32} (hl : LX h) (hv : nvL v ≤ 10) (p : MNet (hI h 224) v) (hx : isLk v x l) (hq : Q (nI 1) h) : wX10_isLink 223 x.toInt64 h Q := by
  have h5 := hx.1
  refine u_isLink hl (by omega) p.2.2.1 (fun _ _ _ => hq) (fun k => absurd ?_ k)
  rw [hx.2, nI_toInt (by omega)]
  omega
theorem m_isLink0 {Q : Int32 → MH → Prop} {h : MH} {v : NV} {x : Int32} (hl : LX h) (hv : nvL v ≤ 10) (p : MNet (hI h 224) v) (hx : ¬ ∃ l, isLk v x l) (hq : Q (nI 0) h) : wX10_isLink 223 x.toInt64 h Q :=
  u_isLink hl (by omega) p.2.2.1 (fun l h1 h2 => absurd ⟨l, h1, h2⟩ hx) (fun _ => hq)
/-- how much use a cycle has for a link -/
def usN (v : NV) (c l : Nat) : Nat := bt (nvOn v c) l + 2 * bt (nvCh v c) l
theorem m_useOf {Q : Int32 → MH → Prop} {h : MH} {v : NV} {t c l : Nat} (hl : LX h) (hv : NvOK v) (p : RgV h v t) (hc : c < nvC v) (hb : bt (nvMy v t) c = 1) (hl2 : l < nvL v) (hq : Q (nI (usN v c l)) h) : wX10_useOf 223 (nI (bcN (nvMy v t) c)) (nI l) h Q := by
  have hlt := isRg_lt (x := nI (bcN (nvMy v t) c)) hv ⟨hc, hb, rfl⟩
  have h4 := hv.1
  have c1 := hv.2.2.1 c hc
  have o1 := lt_of_pow c1.2.1 (by omega)
  have o2 := lt_of_pow c1.2.2.2 (by omega)
  obtain ⟨e1, e2, e3, e4⟩ := p.2 c hc hb
  unfold wX10_useOf
  rw [nI_clamp (by omega)]
  refine ⟨S_223 hl, 230, R_223_18 hl, 64, S_230 hl, vp_in_nI (by omega) (by omega), ?_⟩
  rw [e1]
  refine u_isIn (by omega) (by omega) ?_
  have pa := hv.2.2.2.2.1 c l hc hl2
  unfold usN at hq
  rcases pa with q | q | q
  · rw [q.1, q.2.1] at hq
    rw [q.1]
    exact ⟨fun z => absurd z (by decide), fun _ => hq⟩
  · rw [q.1, q.2.1] at hq
    rw [q.1]
    refine ⟨fun _ => ⟨S_223 hl, 231, R_223_19 hl, 64, S_231 hl, vp_in_nI (by omega) (by omega), ?_⟩, fun z => absurd nI_0 z⟩
    rw [e2]
    refine u_isIn (by omega) (by omega) ?_
    rw [q.2.1]
    exact hq
  · rw [q.1, q.2.1] at hq
    rw [q.1]
    refine ⟨fun _ => ⟨S_223 hl, 231, R_223_19 hl, 64, S_231 hl, vp_in_nI (by omega) (by omega), ?_⟩, fun z => absurd nI_0 z⟩
    rw [e2]
    refine u_isIn (by omega) (by omega) ?_
    rw [q.2.1]
    exact hq
theorem m_usesOf {Q : Int32 → MH → Prop} {h : MH} {v : NV} {t c : Nat} (hl : LX h) (hv : NvOK v) (p : RgV h v t) (hc : c < nvC v) (hb : bt (nvMy v t) c = 1) (hq : Q (nI (bcN (nvOn v c) 10 + 2 * bcN (nvCh v c) 10)) h) : wX10_usesOf 223 (nI (bcN (nvMy v t) c)) h Q := by
  have hlt := isRg_lt (x := nI (bcN (nvMy v t) c)) hv ⟨hc, hb, rfl⟩
  have h4 := hv.1
  have c1 := hv.2.2.1 c hc
  have o1 := lt_of_pow c1.2.1 (by omega)
  have o2 := lt_of_pow c1.2.2.2 (by omega)
  obtain ⟨e1, e2, e3, e4⟩ := p.2 c hc hb
  unfold wX10_usesOf
  rw [nI_clamp (by omega)]
  refine ⟨S_223 hl, 230, R_223_18 hl, 64, S_230 hl, vp_in_nI (by omega) (by omega), ?_⟩
  rw [e1]
  refine u_bitsOf (by omega) ⟨S_223 hl, 231, R_223_19 hl, 64, S_231 hl, vp_in_nI (by omega) (by omega), ?_⟩
  rw [e2]
  refine u_bitsOf (by omega) ?_
  rw [show nI 2 * nI (bcN (nvCh v c) 10) = nI (2 * bcN (nvCh v c) 10) from (Int32.ofNat_mul _ _).symm, nI_add]
  exact hq
/-- the uses of all copies for a link: a sum over the first n cycles -/
def sumC (f : Nat → Nat) : Nat → Nat
  | 0 => 0
  | n + 1 => sumC f n + f n
theorem m_usedFor_loop {Q : Int32 → MH → Prop} {h : MH} {v : NV} {s : AS} {l : Nat} (hl : LX h) (hv : NvOK v) (ok : AsOK v s) (p : RgV h v (asR s)) (ps : StM v s (fun k => hI h 224 (49 + k))) (hl2 : l < nvL v) (hq : Q (nI (sumC (fun c => asC s c * usN v c l) (nvC v))) h) : ∀ n c, c + n = nvC v → wX10_usedFor_4 Q (bcN (asM v s) (nvC v) - bcN (asM v s) c + 1) 223 (nI l) (nI (sumC (fun c => asC s c * usN v c l) c)) (nI (bcN (asM v s) c)) h := by
  have h4 := hv.1
  have hC := bcN_le (asM v s) (nvC v)
  have p1 : hI h 223 23 = nI (bcN (asM v s) (nvC v)) := p.1
  intro n
  induction n with
  | zero =>
    intro c hc
    have hc : c = nvC v := by omega
    subst hc
    rw [Nat.sub_self]
    unfold wX10_usedFor_4
    rw [p1]
    exact ⟨S_223 hl, fun _ => hq, fun z => absurd (nI_le (Nat.le_refl _) (by omega)) z⟩
  | succ n ih =>
    intro c hc
    have g := ih (c + 1) (by omega)
    have e1 : bcN (asM v s) (c + 1) = bcN (asM v s) c + bt (asM v s) c := rfl
    have e2 : sumC (fun c => asC s c * usN v c l) (c + 1) = sumC (fun c => asC s c * usN v c l) c + asC s c * usN v c l := rfl
    rcases bt01 (asM v s) c with b | b
    · have z := (ok.2.2.1 c (by omega)).2 b
      rw [e1, b, e2, z, Nat.zero_mul, Nat.add_zero, Nat.add_zero] at g
      exact g
    · have hlt := bcN_lt (show c < nvC v by omega) b
      have hlt2 := bcN_le (asM v s) c
      rw [e1, b, e2] at g
      rw [show bcN (asM v s) (nvC v) - bcN (asM v s) c + 1 = (bcN (asM v s) (nvC v) - (bcN (asM v s) c + 1) + 1) + 1 from by omega]
      unfold wX10_usedFor_4
      rw [p1, nI_add, nI_add, nI_clamp (by omega)]
      refine ⟨S_223 hl, fun z => absurd z (nI_ge hlt (by omega)), fun _ => ⟨224, R_223_1 hl, 7011, S_224 hl, vp_in_nI (by omega) (by omega), m_useOf hl hv p (by omega) b hl2 (fun _ e => ?_)⟩⟩
      have es := ps.1 c (by omega) b
      rw [show hI h 224 (49 + bcN (asM v s) c) = nI (asC s c) from es, show nI (asC s c) * nI (usN v c l) = nI (asC s c * usN v c l) from (Int32.ofNat_mul _ _).symm, nI_add] at e
      subst e
      exact g
def usedN (v : NV) (s : AS) (l : Nat) : Nat := sumC (fun c => asC s c * usN v c l) (nvC v)
theorem m_usedFor {Q : Int32 → MH → Prop} {h : MH} {v : NV} {s : AS} {l : Nat} (hl : LX h) (hv : NvOK v) (ok : AsOK v s) (p : RgV h v (asR s)) (ps : StM v s (fun k => hI h 224 (49 + k))) (hl2 : l < nvL v) (hq : Q (nI (usedN v s l)) h) : wX10_usedFor 223 (nI l) h Q :=
  ⟨_, m_usedFor_loop hl hv ok p ps hl2 hq (nvC v) 0 (by omega)⟩
theorem n_usesLaid_loop {Q : Int32 → MH → Prop} {h : MH} {v : NV} {s : AS} {a b l : Nat} (hl : LX h) (p : NetV h a v) (hb : b ∈ stL) (ps : StV h b (encS s)) (hl2 : l < nvL v) (hq : Q (nI (usedN v s l)) h) : ∀ n c, c + n = nvC v → wX4_usesLaid_5 Q (n + 1) a b (nI l) (nI (sumC (fun c => asC s c * usN v c l) c)) (nI c) h := by
  have h4 := p.1.1
  intro n
  induction n with
  | zero =>
    intro c hc
    have hc : c = nvC v := by omega
    subst hc
    unfold wX4_usesLaid_5
    rw [p.2.2.2.2.2.2.1]
    exact ⟨p.2.1, fun _ => hq, fun z => absurd (nI_le (Nat.le_refl _) (by omega)) z⟩
  | succ n ih =>
    intro c hc
    have g := ih (c + 1) (by omega)
    have st := st_S hl hb
    unfold wX4_usesLaid_5
    rw [p.2.2.2.2.2.2.1, nI_clamp (by omega)]
    refine ⟨p.2.1, fun z => absurd z (nI_ge (by omega) (by omega)), fun _ => ⟨st.1, b + 1, st.2.2.2.1, 40, st.2.1, vp_in_nI (by omega) (by omega), n_useOf p (by omega) (by omega) ?_⟩⟩
    have es : hI h (b + 1) c = nI (asC s c) := ps.2.2.1 c (by omega)
    rw [es, show nI (asC s c) * nI (bt (nvOn v c) l + 2 * bt (nvCh v c) l) = nI (asC s c * usN v c l) from (Int32.ofNat_mul _ _).symm, nI_add, nI_add]
    exact g
theorem n_usesLaid {Q : Int32 → MH → Prop} {h : MH} {v : NV} {s : AS} {a b l : Nat} (hl : LX h) (p : NetV h a v) (hb : b ∈ stL) (ps : StV h b (encS s)) (hl2 : l < nvL v) (hq : Q (nI (usedN v s l)) h) : wX4_usesLaid a b (nI l) h Q :=
  ⟨_, n_usesLaid_loop hl p hb ps hl2 hq (nvC v) 0 (by omega)⟩
