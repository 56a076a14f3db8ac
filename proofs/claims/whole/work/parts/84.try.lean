/-! ===== the class tries lost units ===== -/
def BzI (h : MH) (s : AS) (n : Nat) : Prop := ∀ c k, c < 40 → k < 9 → hI h 198 (c * 9 + k) = nI (bzN s c k n)
theorem stL_198 : ∀ b ∈ stL, b ≠ 198 ∧ b + 1 ≠ 198 ∧ b + 2 ≠ 198 ∧ 146 ≤ b ∧ b + 2 < 223 := by decide
theorem nI_eq0 {n : Nat} (h : n < 2 ^ 31) : nI n = 0 ↔ n = 0 := ⟨fun e => (nI_eq h (by omega)).mp (e.trans nI_0.symm), fun e => by rw [e]; exact nI_0⟩
theorem place_eq {z p : Nat} (hz : z < 360) (hp : p < 1024) : (nI z <<< (nI 10 &&& 31)) ||| nI p = nI (z * 1024 + p) := by
  rw [pk_shlN _ 10 (sh31 10 (by omega)) (by omega), nI_or (by omega) (by omega)]
  have e := Nat.two_pow_add_eq_or_of_lt (i := 10) (b := p) (by omega) z
  have e2 : z * 2 ^ 10 ||| p = z * 1024 + p := by
    rw [Nat.mul_comm z (2 ^ 10), ← e]
  rw [e2]
section FF
variable {Q : Int32 → MH → Prop} {h : MH} {v : NV} {s : AS} {a b l : Nat}
theorem ff59 {K3 : Nat → Nat → Nat → Int32 → Int32 → MH → Prop} {K39 : Nat → Nat → Nat → Int32 → Int32 → Int32 → Int32 → MH → Prop} {c k : Nat} {x5 : Int32} (hl : LX h) (p : NetV h a v) (ok : AsOK v s) (hb : b ∈ stL) (ps : StV h b (encS s)) (bz : BzI h s 20) (hl2 : l < nvL v) (hc : c < nvC v) (hk : k < asC s c)
    (hq : ∀ j, ffS (cand v s l) (18 * nvC v) 0 = some j → Q (encW (some (trip v l j))) (sI h 198 (j / 18 * 9 + j % 18 / 2) (nI (bzN s (j / 18) (j % 18 / 2) 20 ||| nvPa v (j / 18) l (j % 2)))))
    (hK : ffS (cand v s l) (18 * nvC v) 0 = ffS (cand v s l) (18 * nvC v) (18 * c + 2 * (k + 1)) → K39 197 a b (nI l) (nI c) x5 (nI (k + 1)) h) : ∀ n i, i + n = 2 → ffS (cand v s l) (18 * nvC v) 0 = ffS (cand v s l) (18 * nvC v) (18 * c + 2 * k + i) → wX7_firstFree_59 Q K3 K39 (n + 1) 197 a b (nI l) (nI c) x5 (nI k) (nI (c * 9 + k)) (nI i) h := by
  have h4 := p.1.1
  have hc9 := (ok.2.2.1 c (by omega)).1
  have st := st_S hl hb
  have eF : hI h b 1 = nI (asF s) := ps.2.1
  have lF := asF_lt ok (by omega)
  have lB := bz_lt (c := c) (k := k) ok 20 (by omega)
  have eB := bz c k (by omega) (by omega)
  intro n
  induction n with
  | zero =>
    intro i hi e
    have hi : i = 2 := by omega
    subst hi
    unfold wX7_firstFree_59
    refine ⟨fun _ => ?_, fun z => absurd (nI_le (by omega) (by omega)) z⟩
    rw [nI_add]
    refine hK ?_
    rw [e, show 18 * c + 2 * k + 2 = 18 * c + 2 * (k + 1) from by omega]
  | succ n ih =>
    intro i hi e
    have pl := pa_lt (i := i) p.1 hc hl2 (by omega)
    have d1 : (18 * c + 2 * k + i) / 18 = c := by omega
    have d2 : (18 * c + 2 * k + i) % 18 / 2 = k := by omega
    have d3 : (18 * c + 2 * k + i) % 2 = i := by omega
    have skip : ¬ cand v s l (18 * c + 2 * k + i) → wX7_firstFree_59 Q K3 K39 (n + 1) 197 a b (nI l) (nI c) x5 (nI k) (nI (c * 9 + k)) (nI (i + 1)) h := fun hn => ih (i + 1) (by omega) (by rw [e, ff_skip hn]; rfl)
    unfold wX7_firstFree_59
    simp only [nI_add]
    refine ⟨fun z => absurd z (nI_ge (by omega) (by omega)), fun _ => ⟨p.2.1, n_pathOf p hc hl2 (by omega) ⟨fun z => skip (fun q => ?_), fun z => ⟨st.1, S_197 hl, 198, R_197_0 hl, 360, S_198 hl, vp_in_nI (by omega) (by omega), ?_⟩⟩⟩⟩
    · unfold cand at q
      rw [d1, d2, d3] at q
      exact q.2.1 ((nI_eq0 (by omega)).mp z)
    · rw [nI_clamp (by omega), eF, eB, nI_or (by omega) (by omega), nI_and (by omega) (by have := Nat.or_lt_two_pow (n := 10) lF lB; omega)]
      have le : nvPa v c l i &&& (asF s ||| bzN s c k 20) ≤ nvPa v c l i := Nat.and_le_left
      refine ⟨fun z2 => skip (fun q => ?_), fun z2 => ⟨vp_in_nI (by omega) (by omega), vp_in_nI (by omega) (by omega), fun _ e2 => ?_⟩⟩
      · unfold cand at q
        rw [d1, d2, d3] at q
        exact z2 ((nI_eq0 (by omega)).mpr (and_or0.mpr q.2.2))
      · have z3 := and_or0.mp ((nI_eq0 (by omega)).mp z2)
        have cj : cand v s l (18 * c + 2 * k + i) := by
          unfold cand
          rw [d1, d2, d3]
          exact ⟨hk, fun y => z (by rw [y]; exact nI_0), z3⟩
        have q := hq (18 * c + 2 * k + i) (by rw [e, ff_hit (by omega) cj])
        rw [nI_or (by omega) (by omega)] at e2
        unfold trip at q
        rw [d1, d2, d3] at q
        subst e2
        show Q ((nI (c * 9 + k) <<< (nI 10 &&& 31)) ||| nI (nvPa v c l i)) _
        rw [place_eq (by omega) (by omega)]
        have e3 : encW (some (c, k, nvPa v c l i)) = nI ((c * 9 + k) * 1024 + nvPa v c l i) := by
          show nI ((9 * c + k) * 1024 + nvPa v c l i) = _
          rw [Nat.mul_comm 9 c]
        rw [e3] at q
        exact q
theorem ff39 {K3 : Nat → Nat → Nat → Int32 → Int32 → MH → Prop} {c : Nat} (hl : LX h) (p : NetV h a v) (ok : AsOK v s) (hb : b ∈ stL) (ps : StV h b (encS s)) (bz : BzI h s 20) (hl2 : l < nvL v) (hc : c < nvC v)
    (hq : ∀ j, ffS (cand v s l) (18 * nvC v) 0 = some j → Q (encW (some (trip v l j))) (sI h 198 (j / 18 * 9 + j % 18 / 2) (nI (bzN s (j / 18) (j % 18 / 2) 20 ||| nvPa v (j / 18) l (j % 2)))))
    (hK : ffS (cand v s l) (18 * nvC v) 0 = ffS (cand v s l) (18 * nvC v) (18 * (c + 1)) → K3 197 a b (nI l) (nI (c + 1)) h) : ∀ n k, k + n = asC s c → ffS (cand v s l) (18 * nvC v) 0 = ffS (cand v s l) (18 * nvC v) (18 * c + 2 * k) → wX7_firstFree_39 Q K3 (n + 1) 197 a b (nI l) (nI c) (nI (asC s c)) (nI k) h := by
  have h4 := p.1.1
  have hc9 := (ok.2.2.1 c (by omega)).1
  intro n
  induction n with
  | zero =>
    intro k hk e
    unfold wX7_firstFree_39
    refine ⟨fun _ => ?_, fun z => absurd (nI_le (by omega) (by omega)) z⟩
    rw [nI_add]
    refine hK ?_
    rw [e, ff_skips (18 - 2 * k) (fun i i1 i2 q => ?_), show 18 * c + 2 * k + (18 - 2 * k) = 18 * (c + 1) from by omega]
    unfold cand at q
    have q1 := q.1
    rw [show i / 18 = c from by omega] at q1
    omega
  | succ n ih =>
    intro k hk e
    unfold wX7_firstFree_39
    refine ⟨fun z => absurd z (nI_ge (by omega) (by omega)), fun _ => ⟨3, ?_⟩⟩
    rw [nI_mul, nI_add]
    exact ff59 hl p ok hb ps bz hl2 hc (by omega) hq (fun e2 => ih (k + 1) (by omega) e2) 2 0 (by omega) (by rw [e]; rfl)
theorem ff3 (hl : LX h) (p : NetV h a v) (ok : AsOK v s) (hb : b ∈ stL) (ps : StV h b (encS s)) (bz : BzI h s 20) (hl2 : l < nvL v)
    (hq : ∀ j, ffS (cand v s l) (18 * nvC v) 0 = some j → Q (encW (some (trip v l j))) (sI h 198 (j / 18 * 9 + j % 18 / 2) (nI (bzN s (j / 18) (j % 18 / 2) 20 ||| nvPa v (j / 18) l (j % 2)))))
    (hq2 : ffS (cand v s l) (18 * nvC v) 0 = none → Q (-1) h) : ∀ n c, c + n = nvC v → ffS (cand v s l) (18 * nvC v) 0 = ffS (cand v s l) (18 * nvC v) (18 * c) → wX7_firstFree_3 Q (n + 1) 197 a b (nI l) (nI c) h := by
  have h4 := p.1.1
  have st := st_S hl hb
  intro n
  induction n with
  | zero =>
    intro c hc e
    have hc : c = nvC v := by omega
    subst hc
    unfold wX7_firstFree_3
    rw [p.2.2.2.2.2.2.1]
    refine ⟨p.2.1, fun _ => hq2 ?_, fun z => absurd (nI_le (Nat.le_refl _) (by omega)) z⟩
    rw [e, ff_end (by omega)]
  | succ n ih =>
    intro c hc e
    have ec : hI h (b + 1) c = nI (asC s c) := ps.2.2.1 c (by omega)
    have pl := pa_lt (i := 0) p.1 (show c < nvC v by omega) hl2 (by omega)
    unfold wX7_firstFree_3
    rw [p.2.2.2.2.2.2.1]
    refine ⟨p.2.1, fun z => absurd z (nI_ge (by omega) (by omega)), fun _ => n_pathOf (i := 0) p (by omega) hl2 (by omega) ⟨fun z => ⟨st.1, b + 1, st.2.2.2.1, 40, st.2.1, vp_in_nI (by omega) (by omega), asC s c + 1, ?_⟩, fun z => ⟨1, ?_⟩⟩⟩
    · rw [nI_clamp (by omega), ec]
      exact ff39 hl p ok hb ps bz hl2 (by omega) hq (fun e2 => ih (c + 1) (by omega) e2) (asC s c) 0 (by omega) e
    · unfold wX7_firstFree_39
      refine ⟨fun _ => ?_, fun y => absurd (nI_le (by omega) (by omega)) y⟩
      rw [nI_add]
      refine ih (c + 1) (by omega) ?_
      have z0 := (nI_eq0 (by omega)).mp z
      have z1 : nvPa v c l 1 = 0 := by
        rcases p.1.2.2.2.2.1 c l (by omega) hl2 with q | q | q <;> omega
      rw [e, ff_skips 18 (fun i i1 i2 q => ?_), show 18 * (c + 1) = 18 * c + 18 from by omega]
      · unfold cand at q
        have q1 := q.2.1
        rw [show i / 18 = c from by omega] at q1
        have qi : i % 2 = 0 ∨ i % 2 = 1 := by omega
        rcases qi with qi | qi <;> rw [qi] at q1
        · exact q1 z0
        · exact q1 z1
theorem n_firstFree (hl : LX h) (p : NetV h a v) (ok : AsOK v s) (hb : b ∈ stL) (ps : StV h b (encS s)) (bz : BzI h s 20) (hl2 : l < nvL v)
    (hq : ∀ j, ffS (cand v s l) (18 * nvC v) 0 = some j → Q (encW (some (trip v l j))) (sI h 198 (j / 18 * 9 + j % 18 / 2) (nI (bzN s (j / 18) (j % 18 / 2) 20 ||| nvPa v (j / 18) l (j % 2)))))
    (hq2 : ffS (cand v s l) (18 * nvC v) 0 = none → Q (-1) h) : wX7_firstFree 197 a b (nI l) h Q :=
  ⟨_, ff3 hl p ok hb ps bz hl2 hq hq2 (nvC v) 0 (by omega) rfl⟩
end FF
/-- what trying changes: where units run, and the busy links -/
def ST2 (b x : Nat) : Prop := x = b + 2 ∨ x = 198
theorem NetV_ST2 {h g : MH} {a b : Nat} {v : NV} (hb : b ∈ stL) (f : Fr (ST2 b) h g) (p : NetV h a v) : NetV g a v :=
  NetV_keep (NetEq_Fr (fun x q => by have := stL_198 b hb; unfold ST2 at q; omega) f) p
theorem StV_where {h : MH} {b u : Nat} {s : AS} {o : Option (Nat × Nat × Nat)} (ps : StV h b (encS s)) : StV (sI h (b + 2) u (encW o)) b (encS (setW s u o)) := by
  refine ⟨?_, ?_, fun k hk => ?_, fun k hk => ?_⟩
  · rw [hI_sI, if_neg (by omega)]; exact ps.1
  · rw [hI_sI, if_neg (by omega)]; exact ps.2.1
  · rw [hI_sI, if_neg (by omega)]; exact ps.2.2.1 k hk
  · rw [hI_sI]
    show (if b + 2 = b + 2 ∧ k = u then encW o else hI h (b + 2) k) = encW (if k = u then o else asW s k)
    by_cases q : k = u
    · rw [if_pos ⟨rfl, q⟩, if_pos q]
    · rw [if_neg (fun z => q z.2), if_neg q]; exact ps.2.2.2 k hk
/-- the state, the busy links, all else as in h -/
def TrI (h : MH) (b : Nat) (s : AS) (g : MH) : Prop := Fr (ST2 b) h g ∧ StV g b (encS s) ∧ BzI g s 20
theorem TrI_step {h g : MH} {b u j l : Nat} {v : NV} {s : AS} (hb : b ∈ stL) (hv : nvC v ≤ 40) (hu : u < 20) (hj : j < 18 * nvC v) (t : TrI h b s g) (hn : asW s u = none) : TrI h b (setW s u (some (trip v l j))) (sI (sI g 198 (j / 18 * 9 + j % 18 / 2) (nI (bzN s (j / 18) (j % 18 / 2) 20 ||| nvPa v (j / 18) l (j % 2)))) (b + 2) u (encW (some (trip v l j)))) := by
  have s198 := stL_198 b hb
  refine ⟨Fr_trans t.1 (Fr_trans (Fr_sI (Or.inr rfl)) (Fr_sI (Or.inl rfl))), StV_where (StV_row (hI_sI_row (by omega)) (hI_sI_row (by omega)) (hI_sI_row (by omega)) t.2.1), fun c k hc hk => ?_⟩
  rw [hI_sI, if_neg (by omega), hI_sI, show setW s u (some (trip v l j)) = setW s u (some (j / 18, j % 18 / 2, nvPa v (j / 18) l (j % 2))) from rfl, bz_set hn c k 20]
  by_cases q : j / 18 = c ∧ j % 18 / 2 = k
  · rw [if_pos ⟨rfl, by omega⟩, if_pos ⟨hu, q⟩, q.1, q.2]
  · rw [if_neg (fun z => q (by omega)), if_neg (fun z => q z.2), Nat.or_zero]
    exact t.2.2 c k hc hk
