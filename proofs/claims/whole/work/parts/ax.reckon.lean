/-! Part ax: both sides work out a law, all of it. -/
theorem nI_mm1 {k : Nat} (h : 1 ≤ k) : nI k + (-1 : Int32) = nI (k - 1) := by
  have e : nI (k - 1) + nI 1 = nI k := by rw [nI_add, show k - 1 + 1 = k from by omega]
  rw [← e, Int32.add_assoc, show nI 1 + (-1 : Int32) = 0 from by decide, Int32.add_zero]
/-- a pile in a row, its top first -/
def Pl (f : Nat → Int32) : List Int32 → Prop
  | [] => True
  | x :: r => f r.length = x ∧ Pl f r
theorem Pl_cong {f g : Nat → Int32} : ∀ s : List Int32, (∀ i, i < s.length → g i = f i) → Pl f s → Pl g s
  | [], _, _ => trivial
  | x :: r, e, ⟨h1, h2⟩ => ⟨(e r.length (by rw [List.length_cons]; omega)).trans h1, Pl_cong r (fun i hi => e i (by rw [List.length_cons]; omega)) h2⟩
theorem Pl_push {g h : MH} {a : Nat} {x : Int32} {s : List Int32} (e : h = sI g a s.length x) (p : Pl (hI g a) s) : Pl (hI h a) (x :: s) := by
  refine ⟨?_, Pl_cong s (fun i hi => ?_) p⟩
  · rw [e, hI_sI, if_pos ⟨rfl, rfl⟩]
  · rw [e, hI_sI, if_neg (by omega)]
def TdC (td w : Nat → Int32) (m : Nat) : Prop := (∀ k, k < 3 → td k = w k) ∧ (m = 0 → td 3 = w 3 ∧ td 4 = w 4) ∧ (m ≠ 0 → td 3 = w 5 ∧ td 4 = w 6)
theorem TdC_w {td w : Nat → Int32} {m c : Nat} (h : TdC td w m) (hc : wok m c) (h1 : 1000 ≤ c) : td (ccl c - 1000) = w (c - 1000) := by
  obtain ⟨t1, t2, t3⟩ := h
  by_cases q : c < 1005
  · have e : ccl c = c := by unfold ccl; rw [if_pos q]
    rw [e]
    by_cases q2 : c < 1003
    · exact t1 _ (by omega)
    · have m0 : m = 0 := by unfold wok at hc; omega
      rcases (show c = 1003 ∨ c = 1004 by omega) with e | e
      · rw [e]; exact (t2 m0).1
      · rw [e]; exact (t2 m0).2
  · have m1 : m ≠ 0 := by unfold wok at hc; omega
    rcases (show c = 1005 ∨ c = 1006 by unfold wok at hc; omega) with e | e
    · rw [e]; exact (t3 m1).1
    · rw [e]; exact (t3 m1).2
theorem ccl_wok {m c : Nat} (hc : wok m c) : ccl c < 1005 ∧ (c < 1000 → ccl c = c) ∧ (1000 ≤ c → 1000 ≤ ccl c) := by
  by_cases q : c < 1005
  · have e : ccl c = c := by unfold ccl; rw [if_pos q]
    rw [e]
    exact ⟨q, fun _ => rfl, fun z => z⟩
  · rcases (show c = 1005 ∨ c = 1006 by unfold wok at hc; omega) with e | e <;> rw [e] <;> exact ⟨by decide, by omega, fun _ => by decide⟩
theorem jn_0 (a b : Int32) : jnI 3000 a b = clI (a.toInt64 + b.toInt64) := by unfold jnI; rw [if_pos rfl]
theorem jn_1 (a b : Int32) : jnI 3001 a b = clI (a.toInt64 - b.toInt64) := by unfold jnI; rw [if_neg (by omega), if_pos rfl]
theorem jn_2 (a b : Int32) : jnI 3002 a b = clI (a.toInt64 * b.toInt64) := by unfold jnI; rw [if_neg (by omega), if_neg (by omega), if_pos rfl]
theorem jn_3 (a b : Int32) : jnI 3003 a b = if a = b then nI 1 else nI 0 := by unfold jnI; rw [if_neg (by omega), if_neg (by omega), if_neg (by omega), if_pos rfl]
theorem jn_4 (a b : Int32) : jnI 3004 a b = if b ≤ a then nI 0 else nI 1 := by unfold jnI; rw [if_neg (by omega), if_neg (by omega), if_neg (by omega), if_neg (by omega), if_pos rfl]
theorem jn_5 (a b : Int32) : jnI 3005 a b = if a ≤ b then nI 0 else nI 1 := by unfold jnI; rw [if_neg (by omega), if_neg (by omega), if_neg (by omega), if_neg (by omega), if_neg (by omega), if_pos rfl]
theorem jn_7 (a b : Int32) : jnI 3007 a b = a &&& b := by unfold jnI; rw [if_neg (by omega), if_neg (by omega), if_neg (by omega), if_neg (by omega), if_neg (by omega), if_neg (by omega), if_pos rfl]
theorem jn_8 (a b : Int32) : jnI 3008 a b = a ||| b := by unfold jnI; rw [if_neg (by omega), if_neg (by omega), if_neg (by omega), if_neg (by omega), if_neg (by omega), if_neg (by omega), if_neg (by omega)]
theorem cc_0 : ccl 3000 = 1005 := by decide
theorem cc_1 : ccl 3001 = 1006 := by decide
theorem cc_2 : ccl 3002 = 1007 := by decide
theorem cc_3 : ccl 3003 = 1008 := by decide
theorem cc_4 : ccl 3004 = 1009 := by decide
theorem cc_5 : ccl 3005 = 1010 := by decide
theorem cc_7 : ccl 3007 = 1011 := by decide
theorem cc_8 : ccl 3008 = 1012 := by decide
theorem n_join {Q : Int32 → MH → Prop} {g : MH} {c : Nat} {a b : Int32} (hc : c < 3006 ∧ 3000 ≤ c ∨ c = 3007 ∨ c = 3008) (hq : Q (jnI c a b) g) : wX3_join (nI (ccl c)) a b g Q := by
  have n0 : ∀ {P : Prop} {x y : Int32}, ¬ x = y → (x = y → P) := fun h z => absurd z h
  rcases (show c = 3000 ∨ c = 3001 ∨ c = 3002 ∨ c = 3003 ∨ c = 3004 ∨ c = 3005 ∨ c = 3007 ∨ c = 3008 by omega) with e | e | e | e | e | e | e | e <;> subst e
  · rw [jn_0] at hq
    rw [cc_0]
    exact ⟨fun z => absurd z (by decide), fun _ => n_clamp hq, n0 (by decide), n0 (by decide), n0 (by decide), n0 (by decide), n0 (by decide), n0 (by decide)⟩
  · rw [jn_1] at hq
    rw [cc_1]
    exact ⟨fun z => absurd z (by decide), n0 (by decide), fun _ => n_clamp hq, n0 (by decide), n0 (by decide), n0 (by decide), n0 (by decide), n0 (by decide)⟩
  · rw [jn_2] at hq
    rw [cc_2]
    exact ⟨fun z => absurd z (by decide), n0 (by decide), n0 (by decide), fun _ => n_clamp hq, n0 (by decide), n0 (by decide), n0 (by decide), n0 (by decide)⟩
  · rw [jn_3] at hq
    rw [cc_3]
    exact ⟨fun z => absurd z (by decide), n0 (by decide), n0 (by decide), n0 (by decide), fun _ => hq, n0 (by decide), n0 (by decide), n0 (by decide)⟩
  · rw [jn_4] at hq
    rw [cc_4]
    exact ⟨fun z => absurd z (by decide), n0 (by decide), n0 (by decide), n0 (by decide), n0 (by decide), fun _ => hq, n0 (by decide), n0 (by decide)⟩
  · rw [jn_5] at hq
    rw [cc_5]
    exact ⟨fun z => absurd z (by decide), n0 (by decide), n0 (by decide), n0 (by decide), n0 (by decide), n0 (by decide), fun _ => hq, n0 (by decide)⟩
  · rw [jn_7] at hq
    rw [cc_7]
    exact ⟨fun z => absurd z (by decide), n0 (by decide), n0 (by decide), n0 (by decide), n0 (by decide), n0 (by decide), n0 (by decide), fun _ => hq⟩
  · rw [jn_8] at hq
    rw [cc_8]
    exact ⟨fun _ => hq, n0 (by decide), n0 (by decide), n0 (by decide), n0 (by decide), n0 (by decide), n0 (by decide), n0 (by decide)⟩
theorem m_between {Q : Int32 → MH → Prop} {g : MH} {c : Nat} {a b : Int32} (hc : c < 3006 ∧ 3000 ≤ c ∨ c = 3007 ∨ c = 3008) (hq : Q (jnI c a b) g) : wX10_between (nI c) a b g Q := by
  have n0 : ∀ {P : Prop} {x y : Int32}, ¬ x = y → (x = y → P) := fun h z => absurd z h
  have n1 : ∀ {P : Prop} {x y : Int32}, x = y → (¬ x = y → P) := fun h z => absurd h z
  rcases (show c = 3000 ∨ c = 3001 ∨ c = 3002 ∨ c = 3003 ∨ c = 3004 ∨ c = 3005 ∨ c = 3007 ∨ c = 3008 by omega) with e | e | e | e | e | e | e | e <;> subst e
  · rw [jn_0] at hq
    exact ⟨fun _ => ⟨n1 rfl, fun _ => m_clamp hq⟩, n0 (by decide), n0 (by decide), n0 (by decide), n0 (by decide), n0 (by decide), n0 (by decide)⟩
  · rw [jn_1] at hq
    exact ⟨fun _ => ⟨fun _ => ⟨n1 rfl, fun _ => m_clamp hq⟩, n0 (by decide)⟩, n0 (by decide), n0 (by decide), n0 (by decide), n0 (by decide), n0 (by decide), n0 (by decide)⟩
  · rw [jn_2] at hq
    exact ⟨fun _ => ⟨fun _ => ⟨fun _ => m_clamp hq, n0 (by decide)⟩, n0 (by decide)⟩, n0 (by decide), n0 (by decide), n0 (by decide), n0 (by decide), n0 (by decide), n0 (by decide)⟩
  · rw [jn_3] at hq
    exact ⟨fun z => absurd z (by decide), fun _ => hq, n0 (by decide), n0 (by decide), n0 (by decide), n0 (by decide), n0 (by decide)⟩
  · rw [jn_4] at hq
    exact ⟨fun z => absurd z (by decide), n0 (by decide), fun _ => hq, n0 (by decide), n0 (by decide), n0 (by decide), n0 (by decide)⟩
  · rw [jn_5] at hq
    exact ⟨fun z => absurd z (by decide), n0 (by decide), n0 (by decide), fun _ => hq, n0 (by decide), n0 (by decide), n0 (by decide)⟩
  · rw [jn_7] at hq
    exact ⟨fun z => absurd z (by decide), n0 (by decide), n0 (by decide), n0 (by decide), n0 (by decide), fun _ => hq, n0 (by decide)⟩
  · rw [jn_8] at hq
    exact ⟨fun z => absurd z (by decide), n0 (by decide), n0 (by decide), n0 (by decide), n0 (by decide), n0 (by decide), fun _ => hq⟩
theorem n_work {Q : Int32 → MH → Prop} {g0 : MH} {w : Nat → Int32} {m B E : Nat} {f : Nat → Nat} {v : Int32} (hl : LX g0) (hE : E ≤ 900) (hc : ∀ j, B ≤ j → j < E → hI g0 132 j = nI (ccl (f j))) (ht : TdC (hI g0 133) w m) (hq : ∀ g, Fr (fun b => b = 134) g0 g → Q v g) : ∀ k i s g, B ≤ i → i + k = E → List.length s ≤ 64 → Fr (fun b => b = 134) g0 g → Pl (hI g 134) s → run w m 64 f i k s [v] → wX3_workOut_5 Q (k + 1) 131 (nI E) (nI (List.length s)) (nI i) g := by
  intro k
  induction k with
  | zero =>
    intro i s g hB hi hs fr pl rn
    have e : [v] = s := rn
    subst e
    have hg := LX_Fr fr hl
    unfold wX3_workOut_5
    refine ⟨fun _ => ⟨fun z => absurd z (show ¬ nI 1 ≤ 0 by decide), fun _ => ⟨S_131 hg, 134, R_131_7 hg, 64, S_134 hg, vp_in_nI (by omega) (by omega), ?_⟩⟩, fun z => absurd (nI_le (by omega) (by omega)) z⟩
    have e2 : hI g 134 0 = v := pl.1
    rw [nI_clamp (by omega), e2]
    exact hq g fr
  | succ k ih =>
    intro i s g hB hi hs fr pl ⟨s1, h1, h2⟩
    have hg := LX_Fr fr hl
    have ec : hI g 132 i = nI (ccl (f i)) := (Fr_I fr (by omega) i).trans (hc i hB (by omega))
    unfold wX3_workOut_5
    refine ⟨fun z => absurd z (nI_ge (by omega) (by omega)), fun _ => ⟨S_131 hg, 132, R_131_0 hg, 900, S_132 hg, vp_in_nI (by omega) (by omega), ?_⟩⟩
    rw [nI_clamp (show i < 2 ^ 31 by omega), ec, nI_add i 1]
    rcases h1 with ⟨c1, c2, c3⟩ | ⟨c1, a, r, c2, c3⟩ | ⟨c1, b, a, x, r, c2, c3, c4⟩ | ⟨c1, b, a, r, c2, c3⟩
    · have cw := ccl_wok c1
      have go : ∀ h, h = sI g 134 s.length (lfI w (f i)) → wX3_workOut_5 Q (k + 1) 131 (nI E) (nI (s.length + 1)) (nI (i + 1)) h := fun h e => by
        have r := ih (i + 1) s1 h (by omega) (by omega) (by rw [c3, List.length_cons]; omega) (Fr_trans fr (by rw [e]; exact Fr_sI rfl)) (by rw [c3]; exact Pl_push e pl) h2
        rw [c3, List.length_cons] at r
        exact r
      rw [nI_add s.length 1, nI_clamp (show s.length < 2 ^ 31 by omega)]
      refine ⟨fun z => absurd z (nI_ge (by omega) (by omega)), fun _ => ⟨fun z => absurd z (nI_ge (by omega) (by omega)), fun _ => ⟨134, R_131_7 hg, fun z => ?_, fun z => ⟨64, S_134 hg, vp_in_nI (by omega) (by omega), fun h e => go h ?_⟩⟩⟩⟩
      · have z1 : 1000 ≤ ccl (f i) := Nat.le_of_not_lt (fun y => absurd z (nI_ge y (by omega)))
        have z2 : 1000 ≤ f i := Nat.le_of_not_lt (fun y => by have := cw.2.1 y; omega)
        rw [nI_subN z1, nI_clamp (show ccl (f i) - 1000 < 2 ^ 31 by omega)]
        refine ⟨133, R_131_6 hg, 5, S_133 hg, vp_in_nI (by omega) (by omega), 64, S_134 hg, vp_in_nI (by omega) (by omega), fun h e => go h ?_⟩
        have lf : lfI w (f i) = w (f i - 1000) := by unfold lfI; rw [if_neg (by omega)]
        rw [e, Fr_I fr (by omega), TdC_w ht c1 z2, lf]
      · have z1 : f i < 1000 := Nat.lt_of_not_le (fun y => z (nI_le (cw.2.2 y) (by omega)))
        have lf : lfI w (f i) = nI (f i) := by unfold lfI; rw [if_pos z1]
        rw [e, cw.2.1 z1, lf]
    · rw [c1, show ccl 3006 = 1013 from rfl]
      subst c2
      have le : List.length (a :: r) = r.length + 1 := rfl
      rw [le] at hs ⊢
      refine ⟨fun _ => ⟨fun z => absurd rfl z, fun _ => ⟨fun z => absurd z (by rw [nI_le0 (by omega)]; omega), fun _ => ?_⟩⟩, fun z => absurd (nI_le (by omega) (by omega)) z⟩
      rw [nI_subN (show 1 ≤ r.length + 1 by omega), show r.length + 1 - 1 = r.length from by omega, nI_clamp (show r.length < 2 ^ 31 by omega)]
      refine ⟨134, R_131_7 hg, 64, S_134 hg, vp_in_nI (by omega) (by omega), vp_in_nI (by omega) (by omega), fun h e => ?_⟩
      rw [pl.1] at e
      have q := ih (i + 1) s1 h (by omega) (by omega) (by rw [c3, List.length_cons]; omega) (Fr_trans fr (by rw [e]; exact Fr_sI rfl)) (by rw [c3]; exact Pl_push e pl.2) h2
      rw [c3, List.length_cons] at q
      exact q
    · rw [c1, show ccl 3009 = 1014 from rfl]
      subst c2
      have le : List.length (b :: a :: x :: r) = r.length + 3 := rfl
      rw [le] at hs ⊢
      have pb : hI g 134 (r.length + 2) = b := pl.1
      have pa : hI g 134 (r.length + 1) = a := pl.2.1
      have px : hI g 134 r.length = x := pl.2.2.1
      have go : ∀ h, h = sI g 134 r.length (if x = nI 1 then a else b) → wX3_workOut_5 Q (k + 1) 131 (nI E) (nI (r.length + 1)) (nI (i + 1)) h := fun h e => by
        have q := ih (i + 1) s1 h (by omega) (by omega) (by rw [c4, List.length_cons]; omega) (Fr_trans fr (by rw [e]; exact Fr_sI rfl)) (by rw [c4]; exact Pl_push e pl.2.2.2) h2
        rw [c4, List.length_cons] at q
        exact q
      refine ⟨fun _ => ⟨fun _ => ⟨fun z => absurd rfl z, fun _ => ⟨fun z => absurd z (nI_ge (by omega) (by omega)), fun _ => ?_⟩⟩, fun z => absurd z (by decide)⟩, fun z => absurd (nI_le (by omega) (by omega)) z⟩
      rw [nI_mm2 (by omega), show r.length + 3 - 2 = r.length + 1 from by omega, nI_subN (show 1 ≤ r.length + 1 by omega), show r.length + 1 - 1 = r.length from by omega, nI_add, show r.length + 1 + 1 = r.length + 2 from rfl, nI_clamp (show r.length < 2 ^ 31 by omega), nI_clamp (show r.length + 1 < 2 ^ 31 by omega), nI_clamp (show r.length + 2 < 2 ^ 31 by omega)]
      refine ⟨134, R_131_7 hg, 64, S_134 hg, vp_in_nI (by omega) (by omega), ?_⟩
      rw [px, pa, pb]
      refine ⟨fun z => ⟨vp_in_nI (by omega) (by omega), vp_in_nI (by omega) (by omega), fun h e => go h ?_⟩, fun z => ⟨vp_in_nI (by omega) (by omega), vp_in_nI (by omega) (by omega), fun h e => go h ?_⟩⟩
      · rw [e, if_neg (by rw [z]; decide)]
      · rw [e, if_pos]
        rcases c3 with c3 | c3
        · exact absurd (c3.trans nI_0) z
        · exact c3
    · have cc : 1005 ≤ ccl (f i) ∧ ccl (f i) ≤ 1012 := by
        rcases (show f i = 3000 ∨ f i = 3001 ∨ f i = 3002 ∨ f i = 3003 ∨ f i = 3004 ∨ f i = 3005 ∨ f i = 3007 ∨ f i = 3008 by omega) with e | e | e | e | e | e | e | e <;> rw [e] <;> decide
      subst c2
      have le : List.length (b :: a :: r) = r.length + 2 := rfl
      rw [le] at hs ⊢
      have pb : hI g 134 (r.length + 1) = b := pl.1
      have pa : hI g 134 r.length = a := pl.2.1
      refine ⟨fun _ => ⟨fun _ => ⟨fun _ => ⟨fun z => absurd z (nI_ge (by omega) (by omega)), fun _ => ?_⟩, fun z => absurd ((nI_eq (by omega) (by omega)).mp z) (by omega)⟩, fun z => absurd ((nI_eq (by omega) (by omega)).mp z) (by omega)⟩, fun z => absurd (nI_le (by omega) (by omega)) z⟩
      rw [nI_mm1 (by omega), show r.length + 2 - 1 = r.length + 1 from by omega, nI_subN (show 1 ≤ r.length + 1 by omega), show r.length + 1 - 1 = r.length from by omega, nI_clamp (show r.length < 2 ^ 31 by omega), nI_clamp (show r.length + 1 < 2 ^ 31 by omega)]
      refine ⟨134, R_131_7 hg, 64, S_134 hg, vp_in_nI (by omega) (by omega), vp_in_nI (by omega) (by omega), ?_⟩
      rw [pa, pb]
      refine n_join c1 ⟨64, S_134 hg, vp_in_nI (by omega) (by omega), fun h e => ?_⟩
      have q := ih (i + 1) s1 h (by omega) (by omega) (by rw [c3, List.length_cons]; omega) (Fr_trans fr (by rw [e]; exact Fr_sI rfl)) (by rw [c3]; exact Pl_push e pl.2.2) h2
      rw [c3, List.length_cons] at q
      exact q
theorem m_reck {Q : Int32 → MH → Prop} {g0 : MH} {w : Nat → Int32} {m B E : Nat} {f : Nat → Nat} {v : Int32} (hl : LX g0) (hm : m < 2) (hBE : B ≤ E) (hE : E ≤ 900) (e7 : hI g0 224 (7 + m) = nI (E - B)) (e5 : hI g0 224 (5 + m) = nI B) (hc : ∀ j, B ≤ j → j < E → hI g0 224 (1437 + j) = nI (f j)) (ht : ∀ j, j < 7 → wok m (1000 + j) → hI g0 229 j = w j) (hq : ∀ g, Fr (fun b => b = 228) g0 g → Q v g) : ∀ k i s g, i + k = E - B → List.length s ≤ 64 → Fr (fun b => b = 228) g0 g → Pl (hI g 228) s → run w m 64 f (B + i) k s [v] → wX10_reckons_4 Q (k + 1) 223 (nI m) (nI (List.length s)) (nI i) g := by
  intro k
  induction k with
  | zero =>
    intro i s g hi hs fr pl rn
    have e : [v] = s := rn
    subst e
    have hg := LX_Fr fr hl
    unfold wX10_reckons_4
    rw [nI_add 7 m, nI_clamp (show 7 + m < 2 ^ 31 by omega)]
    refine ⟨S_223 hg, 224, R_223_1 hg, 7011, S_224 hg, vp_in_nI (by omega) (by omega), ?_⟩
    rw [Fr_I fr (by omega), e7]
    refine ⟨fun _ => ⟨228, R_223_16 hg, 900, S_228 hg, vp_in_nI (by omega) (by omega), ?_⟩, fun z => absurd (nI_le (by omega) (by omega)) z⟩
    have e2 : hI g 228 0 = v := pl.1
    rw [nI_clamp (by omega), e2]
    exact hq g fr
  | succ k ih =>
    intro i s g hi hs fr pl ⟨s1, h1, h2⟩
    have hg := LX_Fr fr hl
    have ec : hI g 224 (1437 + B + i) = nI (f (B + i)) := (Fr_I fr (by omega) _).trans (by rw [show 1437 + B + i = 1437 + (B + i) from by omega]; exact hc (B + i) (by omega) (by omega))
    have h2 : run w m 64 f (B + (i + 1)) k s1 [v] := h2
    unfold wX10_reckons_4
    rw [nI_add 7 m, nI_clamp (show 7 + m < 2 ^ 31 by omega), nI_add 5 m, nI_clamp (show 5 + m < 2 ^ 31 by omega)]
    refine ⟨S_223 hg, 224, R_223_1 hg, 7011, S_224 hg, vp_in_nI (by omega) (by omega), ?_⟩
    rw [show hI g 224 (7 + m) = nI (E - B) from (Fr_I fr (by omega) _).trans e7, show hI g 224 (5 + m) = nI B from (Fr_I fr (by omega) _).trans e5, nI_add 1437 B, nI_add (1437 + B) i, nI_clamp (show 1437 + B + i < 2 ^ 31 by omega), ec, nI_add i 1]
    refine ⟨fun z => absurd z (nI_ge (by omega) (by omega)), fun _ => ⟨vp_in_nI (by omega) (by omega), vp_in_nI (by omega) (by omega), fun x ex => ?_⟩⟩
    subst ex
    rcases h1 with ⟨c1, c2, c3⟩ | ⟨c1, a, r, c2, c3⟩ | ⟨c1, b, a, x, r, c2, c3, c4⟩ | ⟨c1, b, a, r, c2, c3⟩
    · have cw : f (B + i) < 1007 := by unfold wok at c1; omega
      have go : ∀ h, h = sI g 228 s.length (lfI w (f (B + i))) → wX10_reckons_4 Q (k + 1) 223 (nI m) (nI (s.length + 1)) (nI (i + 1)) h := fun h e => by
        have r := ih (i + 1) s1 h (by omega) (by rw [c3, List.length_cons]; omega) (Fr_trans fr (by rw [e]; exact Fr_sI rfl)) (by rw [c3]; exact Pl_push e pl) h2
        rw [c3, List.length_cons] at r
        exact r
      rw [nI_add s.length 1, nI_clamp (show s.length < 2 ^ 31 by omega)]
      refine ⟨fun z => absurd z (nI_ge (by omega) (by omega)), fun _ => ⟨228, R_223_16 hg, fun z => ?_, fun z => ⟨900, S_228 hg, vp_in_nI (by omega) (by omega), fun h e => go h ?_⟩⟩⟩
      · have z1 : 1000 ≤ f (B + i) := Nat.le_of_not_lt (fun y => absurd z (nI_ge y (by omega)))
        rw [nI_subN z1, nI_clamp (show f (B + i) - 1000 < 2 ^ 31 by omega)]
        refine ⟨229, R_223_17 hg, 7, S_229 hg, vp_in_nI (by omega) (by omega), 900, S_228 hg, vp_in_nI (by omega) (by omega), fun h e => go h ?_⟩
        have lf : lfI w (f (B + i)) = w (f (B + i) - 1000) := by unfold lfI; rw [if_neg (by omega)]
        rw [e, Fr_I fr (by omega), ht _ (by omega) (by rw [show 1000 + (f (B + i) - 1000) = f (B + i) from by omega]; exact c1), lf]
      · have z1 : f (B + i) < 1000 := Nat.lt_of_not_le (fun y => z (nI_le y (by omega)))
        have lf : lfI w (f (B + i)) = nI (f (B + i)) := by unfold lfI; rw [if_pos z1]
        rw [e, lf]
    · rw [c1]
      subst c2
      have le : List.length (a :: r) = r.length + 1 := rfl
      rw [le] at hs ⊢
      rw [nI_subN (show 1 ≤ r.length + 1 by omega), show r.length + 1 - 1 = r.length from by omega, nI_clamp (show r.length < 2 ^ 31 by omega)]
      refine ⟨fun _ => ⟨fun z => absurd rfl z, fun _ => ⟨228, R_223_16 hg, 900, S_228 hg, vp_in_nI (by omega) (by omega), vp_in_nI (by omega) (by omega), fun h e => ?_⟩⟩, fun z => absurd (nI_le (by omega) (by omega)) z⟩
      rw [pl.1] at e
      have q := ih (i + 1) s1 h (by omega) (by rw [c3, List.length_cons]; omega) (Fr_trans fr (by rw [e]; exact Fr_sI rfl)) (by rw [c3]; exact Pl_push e pl.2) h2
      rw [c3, List.length_cons] at q
      exact q
    · rw [c1]
      subst c2
      have le : List.length (b :: a :: x :: r) = r.length + 3 := rfl
      rw [le] at hs ⊢
      have pb : hI g 228 (r.length + 2) = b := pl.1
      have pa : hI g 228 (r.length + 1) = a := pl.2.1
      have px : hI g 228 r.length = x := pl.2.2.1
      have go : ∀ h, h = sI g 228 r.length (if x = nI 1 then a else b) → wX10_reckons_4 Q (k + 1) 223 (nI m) (nI (r.length + 1)) (nI (i + 1)) h := fun h e => by
        have q := ih (i + 1) s1 h (by omega) (by rw [c4, List.length_cons]; omega) (Fr_trans fr (by rw [e]; exact Fr_sI rfl)) (by rw [c4]; exact Pl_push e pl.2.2.2) h2
        rw [c4, List.length_cons] at q
        exact q
      refine ⟨fun _ => ⟨fun _ => ⟨fun z => absurd rfl z, fun _ => ?_⟩, fun z => absurd z (by decide)⟩, fun z => absurd (nI_le (by omega) (by omega)) z⟩
      rw [nI_mm2 (by omega), show r.length + 3 - 2 = r.length + 1 from by omega, nI_subN (show 1 ≤ r.length + 1 by omega), show r.length + 1 - 1 = r.length from by omega, nI_add, show r.length + 1 + 1 = r.length + 2 from rfl, nI_clamp (show r.length < 2 ^ 31 by omega), nI_clamp (show r.length + 1 < 2 ^ 31 by omega), nI_clamp (show r.length + 2 < 2 ^ 31 by omega)]
      refine ⟨228, R_223_16 hg, 900, S_228 hg, vp_in_nI (by omega) (by omega), ?_⟩
      rw [px, pa, pb]
      refine ⟨fun z => ⟨vp_in_nI (by omega) (by omega), vp_in_nI (by omega) (by omega), fun h e => go h ?_⟩, fun z => ⟨vp_in_nI (by omega) (by omega), vp_in_nI (by omega) (by omega), fun h e => go h ?_⟩⟩
      · rw [e, if_neg z]
      · rw [e, if_pos z]
    · subst c2
      have le : List.length (b :: a :: r) = r.length + 2 := rfl
      rw [le] at hs ⊢
      have pb : hI g 228 (r.length + 1) = b := pl.1
      have pa : hI g 228 r.length = a := pl.2.1
      refine ⟨fun _ => ⟨fun _ => ⟨fun _ => ?_, fun z => absurd ((nI_eq (by omega) (by omega)).mp z) (by omega)⟩, fun z => absurd ((nI_eq (by omega) (by omega)).mp z) (by omega)⟩, fun z => absurd (nI_le (by omega) (by omega)) z⟩
      rw [nI_mm1 (by omega), show r.length + 2 - 1 = r.length + 1 from by omega, nI_subN (show 1 ≤ r.length + 1 by omega), show r.length + 1 - 1 = r.length from by omega, nI_clamp (show r.length < 2 ^ 31 by omega), nI_clamp (show r.length + 1 < 2 ^ 31 by omega)]
      refine ⟨228, R_223_16 hg, 900, S_228 hg, vp_in_nI (by omega) (by omega), vp_in_nI (by omega) (by omega), ?_⟩
      rw [pa, pb]
      refine m_between c1 ⟨900, S_228 hg, vp_in_nI (by omega) (by omega), fun h e => ?_⟩
      have q := ih (i + 1) s1 h (by omega) (by rw [c3, List.length_cons]; omega) (Fr_trans fr (by rw [e]; exact Fr_sI rfl)) (by rw [c3]; exact Pl_push e pl.2.2) h2
      rw [c3, List.length_cons] at q
      exact q
