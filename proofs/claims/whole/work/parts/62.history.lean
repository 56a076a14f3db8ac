/-! ===== the class's history: a ring of ten states ===== -/
theorem nI_subN {a n : Nat} (h : n ≤ a) : nI a - nI n = nI (a - n) := by
  rw [show nI a = nI (a - n) + nI n from by rw [nI_add, Nat.sub_add_cancel h]]
  exact Int32.add_sub_cancel _ _
theorem nI_mod10 : ∀ a, a < 20 → nI a - nI a / nI 10 * nI 10 = nI (a % 10) := by decide
theorem hi_mem : ∀ p, p < 10 → 167 + 3 * p ∈ stL := by decide
theorem hi_R {h : MH} {p : Nat} (hl : LX h) (hp : p < 10) : hR h 166 p = some (167 + 3 * p) := by
  have t1 : ∀ p, p < 10 → (166, p, 167 + 3 * p) ∈ tabR := by decide +kernel
  exact hl.2.2 _ (t1 p hp)
/-- the history holds these states, the latest first; the next goes to place p -/
def HiV (h : MH) (p : Nat) (l : List (Int32 × Int32 × (Nat → Int32) × (Nat → Int32))) : Prop := p < 10 ∧ l.length ≤ 10 ∧ hI h 165 1 = nI p ∧ hI h 165 2 = nI l.length ∧ ∀ i v, l[i]? = some v → StV h (167 + 3 * ((p + 9 - i) % 10)) v
def kpH (h : MH) (p n b : Nat) : MH := sI (sI (cpS h (167 + 3 * p) b) 165 1 (nI ((p + 1) % 10))) 165 2 (nI (min (n + 1) 10))
theorem LX_kpH {h : MH} {p n b : Nat} (hl : LX h) : LX (kpH h p n b) := LX_sI (LX_sI (LX_cpS hl))
theorem u_keep {Q : MH → Prop} {h : MH} {p b : Nat} {l : List (Int32 × Int32 × (Nat → Int32) × (Nat → Int32))} (hl : LX h) (hv : HiV h p l) (hb : b ∈ stL) (hb2 : 167 + 3 * p ≠ b) (hq : Q (kpH h p l.length b)) : wX2_keep 165 b h Q := by
  obtain ⟨hp, hn, e1, e2, _⟩ := hv
  unfold wX2_keep
  rw [e1, nI_clamp (by omega)]
  refine ⟨S_165 hl, 166, R_165_0 hl, 10, S_166 hl, vp_in_nI (by omega) (by omega), _, hi_R hl hp, (st_S hl (hi_mem p hp)).1, u_copyFrom hl (hi_mem p hp) hb hb2 ?_⟩
  have r1 : hI (cpS h (167 + 3 * p) b) 165 = hI h 165 := cpS_row (by omega)
  refine ⟨S_165 (LX_cpS hl), by decide, fun _ e => ?_⟩
  rw [r1, e1, show nI p + nI 1 = nI (p + 1) from nI_add p 1, nI_mod10 (p + 1) (by omega)] at e
  subst e
  intro _ e
  have r2 : hI (sI (cpS h (167 + 3 * p) b) 165 1 (nI ((p + 1) % 10))) 165 2 = nI l.length := by rw [hI_sI, if_neg (by omega), r1]; exact e2
  rw [r2, show nI l.length + nI 1 = nI (l.length + 1) from nI_add _ 1] at e
  have e3 : (if nI 10 < nI (l.length + 1) then nI 10 else nI (l.length + 1)) = nI (min (l.length + 1) 10) := by
    by_cases c : 10 < l.length + 1
    · rw [if_pos (nI_lt c (by omega)), Nat.min_eq_right (by omega)]
    · rw [if_neg (nI_nlt (by omega) (by omega)), Nat.min_eq_left (by omega)]
  rw [e3] at e
  subst e
  exact hq
theorem kpH_row {h : MH} {p n b c : Nat} (hc : c < 167 + 3 * p ∨ 169 + 3 * p < c) (h2 : c ≠ 165) : hI (kpH h p n b) c = hI h c := (hI_sI_row h2).trans ((hI_sI_row h2).trans (cpS_row (by omega)))
theorem kpH_V {h : MH} {p b : Nat} {l : List (Int32 × Int32 × (Nat → Int32) × (Nat → Int32))} {v : Int32 × Int32 × (Nat → Int32) × (Nat → Int32)} (hv : HiV h p l) (pb : StV h b v) : HiV (kpH h p l.length b) ((p + 1) % 10) ((v :: l).take 10) := by
  obtain ⟨hp, hn, e1, e2, e3⟩ := hv
  refine ⟨by omega, by rw [List.length_take]; omega, ?_, ?_, fun i w hw => ?_⟩
  · unfold kpH
    rw [hI_sI, if_neg (by omega), hI_sI, if_pos ⟨rfl, rfl⟩]
  · unfold kpH
    rw [hI_sI, if_pos ⟨rfl, rfl⟩, List.length_take, List.length_cons, Nat.min_comm]
  · rw [List.getElem?_take] at hw
    split at hw
    · rename_i hi
      cases i with
      | zero =>
        rw [List.getElem?_cons_zero] at hw
        injection hw with hw
        subst hw
        rw [show ((p + 1) % 10 + 9 - 0) % 10 = p from by omega]
        refine StV_row ?_ ?_ ?_ (cpS_new (a := 167 + 3 * p) pb)
        · exact (hI_sI_row (by omega)).trans (hI_sI_row (by omega))
        · exact (hI_sI_row (by omega)).trans (hI_sI_row (by omega))
        · exact (hI_sI_row (by omega)).trans (hI_sI_row (by omega))
      | succ i =>
        rw [List.getElem?_cons_succ] at hw
        have q := e3 i w hw
        rw [show ((p + 1) % 10 + 9 - (i + 1)) % 10 = (p + 9 - i) % 10 from by omega]
        have g : (p + 9 - i) % 10 ≠ p := by omega
        exact StV_row (kpH_row (by omega) (by omega)) (kpH_row (by omega) (by omega)) (kpH_row (by omega) (by omega)) q
    · exact absurd hw (by simp)
def bbH (h : MH) (p n m a : Nat) : MH := sI (cpS (sI h 165 1 (nI ((p + 10 - n) % 10))) a (167 + 3 * ((p + 10 - n) % 10))) 165 2 (nI (m - n))
theorem LX_bbH {h : MH} {p n m a : Nat} (hl : LX h) : LX (bbH h p n m a) := LX_sI (LX_cpS (LX_sI hl))
theorem u_bringBack {Q : MH → Prop} {h : MH} {p n a : Nat} {l : List (Int32 × Int32 × (Nat → Int32) × (Nat → Int32))} (hl : LX h) (hv : HiV h p l) (hn1 : 1 ≤ n) (hn2 : n ≤ l.length) (ha : a ∈ stL) (ha2 : a < 165 ∨ 196 < a) (hq : Q (bbH h p n l.length a)) : wX2_bringBack 165 (nI n) a h Q := by
  obtain ⟨hp, hn, e1, e2, _⟩ := hv
  have hg := stL_rng a ha
  have hg2 : a + 2 < 165 ∨ 165 < a := by
    have t : ∀ a ∈ stL, a + 2 < 165 ∨ 165 < a := by decide
    exact t a ha
  unfold wX2_bringBack
  have e4 : nI p + nI 10 - nI n = nI (p + 10 - n) := by rw [nI_add, nI_subN (by omega)]
  rw [e1, e4, nI_mod10 _ (by omega)]
  refine ⟨S_165 hl, by decide, fun _ e => ?_⟩
  subst e
  have hl1 : LX (sI h 165 1 (nI ((p + 10 - n) % 10))) := LX_sI hl
  rw [hI_sI, if_pos ⟨rfl, rfl⟩, nI_clamp (by omega)]
  refine ⟨166, R_165_0 hl1, 10, S_166 hl1, vp_in_nI (by omega) (by omega), _, hi_R hl1 (by omega), (st_S hl1 ha).1, u_copyFrom hl1 ha (hi_mem _ (by omega)) (by omega) ?_⟩
  refine ⟨S_165 (LX_cpS hl1), fun _ e => ?_⟩
  rw [cpS_row (by omega), hI_sI, if_neg (by omega), e2, nI_subN hn2] at e
  subst e
  exact hq
theorem bbH_row {h : MH} {p n m a c : Nat} (hc : c < a ∨ a + 2 < c) (h2 : c ≠ 165) : hI (bbH h p n m a) c = hI h c := (hI_sI_row h2).trans ((cpS_row hc).trans (hI_sI_row h2))
theorem bbH_V {h : MH} {p n a : Nat} {l : List (Int32 × Int32 × (Nat → Int32) × (Nat → Int32))} (hv : HiV h p l) (hn1 : 1 ≤ n) (hn2 : n ≤ l.length) (ha2 : a + 2 < 165 ∨ 196 < a) : HiV (bbH h p n l.length a) ((p + 10 - n) % 10) (l.drop n) := by
  obtain ⟨hp, hn, e1, e2, e3⟩ := hv
  refine ⟨by omega, by rw [List.length_drop]; omega, ?_, ?_, fun i w hw => ?_⟩
  · unfold bbH
    rw [hI_sI, if_neg (by omega), cpS_row (by omega), hI_sI, if_pos ⟨rfl, rfl⟩]
  · unfold bbH
    rw [hI_sI, if_pos ⟨rfl, rfl⟩, List.length_drop]
  · rw [List.getElem?_drop] at hw
    have q := e3 (n + i) w hw
    have hlt : n + i < l.length := (List.getElem?_eq_some_iff.mp hw).1
    rw [show ((p + 10 - n) % 10 + 9 - i) % 10 = (p + 9 - (n + i)) % 10 from by omega]
    exact StV_row (bbH_row (by omega) (by omega)) (bbH_row (by omega) (by omega)) (bbH_row (by omega) (by omega)) q
theorem bbH_new {h : MH} {p n a : Nat} {l : List (Int32 × Int32 × (Nat → Int32) × (Nat → Int32))} {v : Int32 × Int32 × (Nat → Int32) × (Nat → Int32)} (hv : HiV h p l) (hn1 : 1 ≤ n) (hw : l[n - 1]? = some v) (ha2 : a + 2 < 165 ∨ 196 < a) : StV (bbH h p n l.length a) a v := by
  obtain ⟨hp, hn, e1, e2, e3⟩ := hv
  have q := e3 (n - 1) v hw
  have hlt : n - 1 < l.length := (List.getElem?_eq_some_iff.mp hw).1
  rw [show (p + 9 - (n - 1)) % 10 = (p + 10 - n) % 10 from by omega] at q
  have q2 : StV (sI h 165 1 (nI ((p + 10 - n) % 10))) (167 + 3 * ((p + 10 - n) % 10)) v := StV_row (hI_sI_row (by omega)) (hI_sI_row (by omega)) (hI_sI_row (by omega)) q
  exact StV_row (hI_sI_row (by omega)) (hI_sI_row (by omega)) (hI_sI_row (by omega)) (cpS_new (a := a) q2)
theorem u_forget {Q : MH → Prop} {h : MH} (hl : LX h) (hq : Q (sI h 165 2 (nI 0))) : wX2_forget 165 h Q := by
  unfold wX2_forget
  exact ⟨S_165 hl, fun _ e => by subst e; exact hq⟩
theorem forget_V {h : MH} {p : Nat} {l : List (Int32 × Int32 × (Nat → Int32) × (Nat → Int32))} (hv : HiV h p l) : HiV (sI h 165 2 (nI 0)) p [] := by
  obtain ⟨hp, hn, e1, e2, e3⟩ := hv
  refine ⟨hp, by simp, ?_, ?_, fun i w hw => absurd hw (by simp)⟩
  · rw [hI_sI, if_neg (by omega)]; exact e1
  · rw [hI_sI, if_pos ⟨rfl, rfl⟩]; rfl
