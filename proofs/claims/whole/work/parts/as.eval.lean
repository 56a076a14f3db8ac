/-! Part as: what a law's code works out, pure. -/
def clI (x : Int64) : Int32 := if (1000000 : Int64) < x then ((1000000 : Int64)).toInt32 else if x < (-1000000 : Int64) then ((-1000000 : Int64)).toInt32 else x.toInt32
def jnI (c : Nat) (a b : Int32) : Int32 := if c = 3000 then clI (a.toInt64 + b.toInt64) else if c = 3001 then clI (a.toInt64 - b.toInt64) else if c = 3002 then clI (a.toInt64 * b.toInt64) else if c = 3003 then (if a = b then nI 1 else nI 0) else if c = 3004 then (if b ≤ a then nI 0 else nI 1) else if c = 3005 then (if a ≤ b then nI 0 else nI 1) else if c = 3007 then a &&& b else a ||| b
def b01 (x : Int32) : Prop := x = nI 0 ∨ x = nI 1
/-- whether a code is a number or a word of the law -/
def wok (m c : Nat) : Prop := c < 1003 ∨ (m = 0 ∧ c < 1005) ∨ (m ≠ 0 ∧ 1005 ≤ c ∧ c < 1007)
def lfI (w : Nat → Int32) (c : Nat) : Int32 := if c < 1000 then nI c else w (c - 1000)
/-- one code, from a pile to a pile, no higher than H -/
def St1 (w : Nat → Int32) (m H c : Nat) (s s2 : List Int32) : Prop :=
  (wok m c ∧ s.length < H ∧ s2 = lfI w c :: s) ∨
  (c = 3006 ∧ ∃ a r, s = a :: r ∧ s2 = (nI 1 - a) :: r) ∨
  (c = 3009 ∧ ∃ b a x r, s = b :: a :: x :: r ∧ b01 x ∧ s2 = (if x = nI 1 then a else b) :: r) ∨
  ((c < 3006 ∧ 3000 ≤ c ∨ c = 3007 ∨ c = 3008) ∧ ∃ b a r, s = b :: a :: r ∧ s2 = jnI c a b :: r)
def run (w : Nat → Int32) (m H : Nat) (f : Nat → Nat) : Nat → Nat → List Int32 → List Int32 → Prop
  | _, 0, s, s2 => s2 = s
  | i, k + 1, s, s2 => ∃ s1, St1 w m H (f i) s s1 ∧ run w m H f (i + 1) k s1 s2
section RUN
variable {w : Nat → Int32} {m H : Nat}
theorem run_ext {f g : Nat → Nat} : ∀ k i s s2, (∀ j, i ≤ j → j < i + k → f j = g j) → run w m H f i k s s2 → run w m H g i k s s2
  | 0, _, _, _, _, h => h
  | k + 1, i, s, s2, e, ⟨s1, h1, h2⟩ => ⟨s1, by rw [← e i (by omega) (by omega)]; exact h1, run_ext k (i + 1) s1 s2 (fun j a b => e j (by omega) (by omega)) h2⟩
theorem run_two {f : Nat → Nat} : ∀ k l i s s1 s2, run w m H f i k s s1 → run w m H f (i + k) l s1 s2 → run w m H f i (k + l) s s2
  | 0, l, i, s, s1, s2, h1, h2 => by
    have h1 : s1 = s := h1
    rw [h1] at h2
    rw [Nat.zero_add]
    exact h2
  | k + 1, l, i, s, s1, s2, ⟨u, h1, h3⟩, h2 => by
    rw [show k + 1 + l = k + l + 1 from by omega]
    exact ⟨u, h1, run_two k l (i + 1) u s1 s2 h3 (by rw [show i + 1 + k = i + (k + 1) from by omega]; exact h2)⟩
def Rn (w : Nat → Int32) (m H : Nat) (cs cs2 : CD) (s s2 : List Int32) : Prop := cs.1 ≤ cs2.1 ∧ run w m H cs2.2 cs.1 (cs2.1 - cs.1) s s2
theorem Rn_rfl {cs : CD} {s : List Int32} : Rn w m H cs cs s s := ⟨Nat.le_refl _, by rw [Nat.sub_self]; exact rfl⟩
theorem Rn_trans {c0 c1 c2 : CD} {s s1 s2 : List Int32} (p : Rn w m H c0 c1 s s1) (e : ∀ i, i < c1.1 → c2.2 i = c1.2 i) (q : Rn w m H c1 c2 s1 s2) : Rn w m H c0 c2 s s2 := by
  have l1 := p.1
  have l2 := q.1
  refine ⟨by omega, ?_⟩
  rw [show c2.1 - c0.1 = (c1.1 - c0.1) + (c2.1 - c1.1) from by omega]
  refine run_two _ _ _ _ s1 _ (run_ext _ _ _ _ (fun j a b => (e j (by omega)).symm) p.2) ?_
  rw [show c0.1 + (c1.1 - c0.1) = c1.1 from by omega]
  exact q.2
theorem Rn_cpu {c0 c : CD} {x : Nat} {s s1 s2 : List Int32} (p : Rn w m H c0 c s s1) (h : St1 w m H x s1 s2) : Rn w m H c0 (cpu x c) s s2 := by
  refine Rn_trans p (fun i hi => ?_) ⟨by show c.1 ≤ c.1 + 1; omega, ?_⟩
  · show (if i = c.1 then x else c.2 i) = _
    rw [if_neg (by omega)]
  · show run w m H (cpu x c).2 c.1 (c.1 + 1 - c.1) s1 s2
    rw [show c.1 + 1 - c.1 = 1 from by omega]
    refine ⟨s2, ?_, rfl⟩
    show St1 w m H (if c.1 = c.1 then x else c.2 c.1) s1 s2
    rw [if_pos rfl]
    exact h
end RUN
def rh (X d : Nat) : Nat := (1 + 5 * (6 - d)) + (if X = 0 then 0 else if X = 1 ∨ X = 2 then 1 else if X = 3 ∨ X = 4 then 2 else if X = 5 then 3 else if X = 6 ∨ X = 7 then 4 else 5)
def isTr (X : Nat) : Prop := 5 ≤ X ∧ X ≤ 9
def EvA (m X d : Nat) (cs cs2 : CD) : Prop := ∀ w H s, List.length s + rh X d ≤ H → ∃ v, Rn w m H cs cs2 s (v :: s) ∧ (isTr X → b01 v)
def EvR (m X d : Nat) (cs cs2 : CD) : Prop := ∀ w H s v0, List.length s + rh X d ≤ H → (isTr X → b01 v0) → ∃ v, Rn w m H cs cs2 (v0 :: s) (v :: s) ∧ (isTr X → b01 v)
theorem wdC_wok {m k : Nat} (h : wdC m k ≠ 9999) : wok m (wdC m k) := by
  unfold wok
  unfold wdC at h ⊢
  by_cases b1 : k = 2
  · rw [if_pos b1]; omega
  · rw [if_neg b1] at h ⊢
    by_cases b2 : k = 4
    · rw [if_pos b2]; omega
    · rw [if_neg b2] at h ⊢
      by_cases b3 : k = 5
      · rw [if_pos b3]; omega
      · rw [if_neg b3] at h ⊢
        by_cases a4 : k = 12
        · rw [if_pos a4] at h ⊢
          by_cases z : m = 0
          · rw [if_pos z]; omega
          · rw [if_neg z] at h; omega
        · rw [if_neg a4] at h ⊢
          by_cases a5 : k = 13
          · rw [if_pos a5] at h ⊢
            by_cases z : m = 0
            · rw [if_pos z]; omega
            · rw [if_neg z] at h; omega
          · rw [if_neg a5] at h ⊢
            by_cases a6 : k = 14
            · rw [if_pos a6] at h ⊢
              by_cases z : m = 0
              · rw [if_pos z] at h; omega
              · rw [if_neg z]; omega
            · rw [if_neg a6] at h ⊢
              by_cases a7 : k = 15
              · rw [if_pos a7] at h ⊢
                by_cases z : m = 0
                · rw [if_pos z] at h; omega
                · rw [if_neg z]; omega
              · rw [if_neg a7] at h; omega
theorem b01_jn {c : Nat} {a b : Int32} (hc : 3003 ≤ c ∧ c ≤ 3008 ∧ c ≠ 3006) (ha : c < 3006 ∨ (b01 a ∧ b01 b)) : b01 (jnI c a b) := by
  unfold jnI
  rw [if_neg (by omega), if_neg (by omega), if_neg (by omega)]
  by_cases c3 : c = 3003
  · rw [if_pos c3]
    by_cases q : a = b
    · rw [if_pos q]; exact Or.inr rfl
    · rw [if_neg q]; exact Or.inl rfl
  · rw [if_neg c3]
    by_cases c4 : c = 3004
    · rw [if_pos c4]
      by_cases q : b ≤ a
      · rw [if_pos q]; exact Or.inl rfl
      · rw [if_neg q]; exact Or.inr rfl
    · rw [if_neg c4]
      by_cases c5 : c = 3005
      · rw [if_pos c5]
        by_cases q : a ≤ b
        · rw [if_pos q]; exact Or.inl rfl
        · rw [if_neg q]; exact Or.inr rfl
      · rw [if_neg c5]
        rcases ha with ha | ⟨ha, hb⟩
        · omega
        · unfold b01
          rcases ha with ha | ha <;> rcases hb with hb | hb <;> rw [ha, hb] <;> by_cases c7 : c = 3007 <;> simp only [c7, if_true, if_false] <;> decide
theorem b01_not {a : Int32} (h : b01 a) : b01 (nI 1 - a) := by
  rcases h with h | h <;> rw [h] <;> unfold b01 <;> decide
theorem pp_ev {T : Nat → Nat} {n m : Nat} : ∀ k X d t cs t2 cs2, TkOK T n t → d ≤ 6 → pp T n m k X d t cs = .inr (t2, cs2) → (cX0 X = 1 → EvA m X d cs cs2) ∧ (cX0 X = 0 → EvR m X d cs cs2) := by
  intro k
  induction k with
  | zero => intro X d t cs t2 cs2 _ _ h; exact absurd h (by show ¬ (Sum.inl (0, 0) : PR) = .inr (t2, cs2); simp)
  | succ k ih =>
    intro X d t cs t2 cs2 ht hd h
    have two : ∀ X X1 X2, cX0 X1 = 1 → cX0 X2 = 0 → (isTr X1 ↔ isTr X) → (isTr X2 ↔ isTr X) → rh X1 d ≤ rh X d → rh X2 d ≤ rh X d → bndP (pp T n m k X1 d t cs) (pp T n m k X2 d) = .inr (t2, cs2) → EvA m X d cs cs2 := fun X X1 X2 c1 c2 i1 i2 r1 r2 h => by
      obtain ⟨u, c, h1, h2⟩ := bnd_inr h
      have g1 := pp_go k X1 d t cs u c ht h1
      have g2 := pp_go k X2 d u c t2 cs2 g1.1 h2
      have e1 := (ih X1 d t cs u c ht hd h1).1 c1
      have e2 := (ih X2 d u c t2 cs2 g1.1 hd h2).2 c2
      intro w H s hs
      obtain ⟨v1, q1, t1⟩ := e1 w H s (by omega)
      obtain ⟨v2, q2, t2⟩ := e2 w H s v1 (by omega) (fun z => t1 (i1.mpr (i2.mp z)))
      exact ⟨v2, Rn_trans q1 g2.2.2.2.2 q2, fun z => t2 (i2.mpr z)⟩
    have rest : ∀ X1 X2 (P : Prop) [Decidable P] (x : Nat), cX0 X1 = 1 → cX0 X2 = 0 → (isTr X1 ↔ isTr X2) → rh X1 d + 1 ≤ rh X2 d → (P → tkK t ≠ 24) → (x < 3006 ∧ 3000 ≤ x ∨ x = 3007 ∨ x = 3008) → (isTr X2 → 3007 ≤ x) → (if P then bndP (pp T n m k X1 d (nx T n t) cs) (fun t cs => pp T n m k X2 d t (cpu x cs)) else .inr (t, cs)) = .inr (t2, cs2) → EvR m X2 d cs cs2 := fun X1 X2 P _ x c1 c2 i1 r1 hP hx hx2 h => by
      intro w H s v0 hs tv
      by_cases q : P
      · rw [if_pos q] at h
        obtain ⟨u, c, h1, h2⟩ := bnd_inr h
        have g0 := nx_ok ht (hP q)
        have g1 := pp_go k X1 d (nx T n t) cs u c g0.1 h1
        have g2 := pp_go k X2 d u (cpu x c) t2 cs2 g1.1 h2
        have e1 := (ih X1 d (nx T n t) cs u c g0.1 hd h1).1 c1
        have e2 := (ih X2 d u (cpu x c) t2 cs2 g1.1 hd h2).2 c2
        obtain ⟨v1, q1, t1⟩ := e1 w H (v0 :: s) (by rw [List.length_cons]; omega)
        have q3 : Rn w m H cs (cpu x c) (v0 :: s) (jnI x v0 v1 :: s) := Rn_cpu q1 (Or.inr (Or.inr (Or.inr ⟨hx, v1, v0, s, rfl, rfl⟩)))
        obtain ⟨v2, q2, t2⟩ := e2 w H s (jnI x v0 v1) hs (fun z => b01_jn (by have := hx2 z; omega) (Or.inr ⟨tv z, t1 (i1.mpr z)⟩))
        exact ⟨v2, Rn_trans q3 g2.2.2.2.2 q2, t2⟩
      · rw [if_neg q] at h
        have e := sum_inr h
        injection e with e1 e2
        rw [← e2]
        exact ⟨v0, Rn_rfl, tv⟩
    have leaf : ∀ x, wok m x → (Sum.inr (nx T n t, cpu x cs) : PR) = .inr (t2, cs2) → EvA m 0 d cs cs2 := fun x hx h => by
      have e := sum_inr h
      injection e with e1 e2
      rw [← e2]
      intro w H s hs
      refine ⟨_, Rn_cpu Rn_rfl (Or.inl ⟨hx, ?_, rfl⟩), fun z => absurd z.1 (by omega)⟩
      unfold rh at hs
      omega
    match X, h with
    | 0, h =>
      refine ⟨fun _ => ?_, fun z => absurd z (by decide)⟩
      have h : sAtom T n m (pp T n m k) d t cs = .inr (t2, cs2) := h
      unfold sAtom at h
      by_cases q1 : tkK t = 23
      · rw [if_pos q1] at h
        have f := TkOK_f ht
        exact leaf _ (by unfold wok; omega) h
      · rw [if_neg q1] at h
        by_cases q2 : wdC m (tkK t) ≠ 9999
        · rw [if_pos q2] at h
          exact leaf _ (wdC_wok q2) h
        · rw [if_neg q2] at h
          by_cases q3 : tkK t = 35
          · rw [if_pos q3] at h
            by_cases q4 : d = 6
            · rw [if_pos q4] at h; exact absurd h (by simp)
            · rw [if_neg q4] at h
              obtain ⟨u, c, h1, h2⟩ := bnd_inr h
              obtain ⟨h3, h4⟩ := eat_inr h2
              have e := sum_inr h4
              injection e with e1 e2
              have g0 := nx_ok ht (show tkK t ≠ 24 by omega)
              have e3 := (ih 3 (d + 1) (nx T n t) cs u c g0.1 (by omega) h1).1 rfl
              rw [← e2]
              intro w H s hs
              obtain ⟨v, q, _⟩ := e3 w H s (by unfold rh at hs ⊢; simp at hs ⊢; omega)
              exact ⟨v, q, fun z => absurd z.1 (by omega)⟩
          · rw [if_neg q3] at h
            by_cases q4 : tkK t = 8
            · rw [if_pos q4] at h
              by_cases q5 : d = 6
              · rw [if_pos q5] at h; exact absurd h (by simp)
              · rw [if_neg q5] at h
                have g0 := nx_ok ht (show tkK t ≠ 24 by omega)
                have e3 := (ih 10 (d + 1) (nx T n t) cs t2 cs2 g0.1 (by omega) h).1 rfl
                intro w H s hs
                obtain ⟨v, q, _⟩ := e3 w H s (by unfold rh at hs ⊢; simp at hs ⊢; omega)
                exact ⟨v, q, fun z => absurd z.1 (by omega)⟩
            · rw [if_neg q4] at h; exact absurd h (by simp)
    | 1, h => exact ⟨fun _ => two 1 0 2 rfl rfl (by unfold isTr; omega) (by unfold isTr; omega) (by unfold rh; simp) (by unfold rh; simp) h, fun z => absurd z (by decide)⟩
    | 2, h => exact ⟨fun z => absurd z (by decide), fun _ => rest 0 2 (tkK t = 34) 3002 rfl rfl (by unfold isTr; omega) (by unfold rh; simp) (fun z => by omega) (by omega) (by unfold isTr; omega) h⟩
    | 3, h => exact ⟨fun _ => two 3 1 4 rfl rfl (by unfold isTr; omega) (by unfold isTr; omega) (by unfold rh; simp) (by unfold rh; simp) h, fun z => absurd z (by decide)⟩
    | 4, h => exact ⟨fun z => absurd z (by decide), fun _ => rest 1 4 (tkK t = 32 ∨ tkK t = 33) (if tkK t = 32 then 3000 else 3001) rfl rfl (by unfold isTr; omega) (by unfold rh; simp) (fun z => by omega) (by by_cases z : tkK t = 32 <;> simp [z]) (by unfold isTr; omega) h⟩
    | 5, h =>
      refine ⟨fun _ => ?_, fun z => absurd z (by decide)⟩
      have h : sUnit T n (pp T n m k) d t cs = .inr (t2, cs2) := h
      unfold sUnit at h
      by_cases q1 : tkK t = 18
      · rw [if_pos q1] at h
        by_cases q4 : d = 6
        · rw [if_pos q4] at h; exact absurd h (by simp)
        · rw [if_neg q4] at h
          obtain ⟨u, c, h1, h2⟩ := bnd_inr h
          have e := sum_inr h2
          injection e with e1 e2
          have g0 := nx_ok ht (show tkK t ≠ 24 by omega)
          have e3 := (ih 5 (d + 1) (nx T n t) cs u c g0.1 (by omega) h1).1 rfl
          rw [← e2]
          intro w H s hs
          obtain ⟨v, q, tv⟩ := e3 w H s (by unfold rh at hs ⊢; simp at hs ⊢; omega)
          exact ⟨_, Rn_cpu q (Or.inr (Or.inl ⟨rfl, v, s, rfl, rfl⟩)), fun z => b01_not (tv z)⟩
      · rw [if_neg q1] at h
        by_cases q2 : tkK t = 37
        · rw [if_pos q2] at h
          by_cases q4 : d = 6
          · rw [if_pos q4] at h; exact absurd h (by simp)
          · rw [if_neg q4] at h
            obtain ⟨u, c, h1, h2⟩ := bnd_inr h
            obtain ⟨h3, h4⟩ := eat_inr h2
            have e := sum_inr h4
            injection e with e1 e2
            have g0 := nx_ok ht (show tkK t ≠ 24 by omega)
            have e3 := (ih 8 (d + 1) (nx T n t) cs u c g0.1 (by omega) h1).1 rfl
            rw [← e2]
            intro w H s hs
            obtain ⟨v, q, tv⟩ := e3 w H s (by unfold rh at hs ⊢; simp at hs ⊢; omega)
            exact ⟨v, q, fun _ => tv (by unfold isTr; omega)⟩
        · rw [if_neg q2] at h
          obtain ⟨u, c, h1, h2⟩ := bnd_inr h
          by_cases q3 : tkK u = 39 ∨ tkK u = 40 ∨ tkK u = 41
          · rw [if_pos q3] at h2
            obtain ⟨u2, c2, h3, h4⟩ := bnd_inr h2
            have e := sum_inr h4
            injection e with e1 e2
            have g1 := pp_go k 3 d t cs u c ht h1
            have g0 := nx_ok g1.1 (show tkK u ≠ 24 by omega)
            have g2 := pp_go k 3 d (nx T n u) c u2 c2 g0.1 h3
            have e3 := (ih 3 d t cs u c ht hd h1).1 rfl
            have e4 := (ih 3 d (nx T n u) c u2 c2 g0.1 hd h3).1 rfl
            rw [← e2]
            intro w H s hs
            obtain ⟨v, q, _⟩ := e3 w H s (by unfold rh at hs ⊢; simp at hs ⊢; omega)
            obtain ⟨v2, p2, _⟩ := e4 w H (v :: s) (by rw [List.length_cons]; unfold rh at hs ⊢; simp at hs ⊢; omega)
            exact ⟨_, Rn_cpu (Rn_trans q g2.2.2.2.2 p2) (Or.inr (Or.inr (Or.inr ⟨by omega, v2, v, s, rfl, rfl⟩))), fun _ => b01_jn (by omega) (Or.inl (by omega))⟩
          · rw [if_neg q3] at h2; exact absurd h2 (by simp)
    | 6, h => exact ⟨fun _ => two 6 5 7 rfl rfl (by unfold isTr; omega) (by unfold isTr; omega) (by unfold rh; simp) (by unfold rh; simp) h, fun z => absurd z (by decide)⟩
    | 7, h => exact ⟨fun z => absurd z (by decide), fun _ => rest 5 7 (tkK t = 16) 3007 rfl rfl (by unfold isTr; omega) (by unfold rh; simp) (fun z => by omega) (by omega) (fun _ => by omega) h⟩
    | 8, h => exact ⟨fun _ => two 8 6 9 rfl rfl (by unfold isTr; omega) (by unfold isTr; omega) (by unfold rh; simp) (by unfold rh; simp) h, fun z => absurd z (by decide)⟩
    | 9, h => exact ⟨fun z => absurd z (by decide), fun _ => rest 6 9 (tkK t = 17) 3008 rfl rfl (by unfold isTr; omega) (by unfold rh; simp) (fun z => by omega) (by omega) (fun _ => by omega) h⟩
    | 10, h =>
      refine ⟨fun _ => ?_, fun z => absurd z (by decide)⟩
      have h : sChoice T n (pp T n m k) d t cs = .inr (t2, cs2) := h
      unfold sChoice at h
      obtain ⟨u1, c1, h1, h2⟩ := bnd_inr h
      obtain ⟨h3, h4⟩ := eat_inr h2
      obtain ⟨u2, c2, h5, h6⟩ := bnd_inr h4
      obtain ⟨h7, h8⟩ := eat_inr h6
      obtain ⟨u3, c3, h9, h10⟩ := bnd_inr h8
      obtain ⟨h11, h12⟩ := eat_inr h10
      have e := sum_inr h12
      injection e with e1 e2
      have g1 := pp_go k 8 d t cs u1 c1 ht h1
      have f1 := nx_ok g1.1 (show tkK u1 ≠ 24 by omega)
      have g2 := pp_go k 3 d (nx T n u1) c1 u2 c2 f1.1 h5
      have f2 := nx_ok g2.1 (show tkK u2 ≠ 24 by omega)
      have g3 := pp_go k 3 d (nx T n u2) c2 u3 c3 f2.1 h9
      have a1 := (ih 8 d t cs u1 c1 ht hd h1).1 rfl
      have a2 := (ih 3 d (nx T n u1) c1 u2 c2 f1.1 hd h5).1 rfl
      have a3 := (ih 3 d (nx T n u2) c2 u3 c3 f2.1 hd h9).1 rfl
      rw [← e2]
      intro w H s hs
      obtain ⟨v1, q1, t1⟩ := a1 w H s (by unfold rh at hs ⊢; simp at hs ⊢; omega)
      obtain ⟨v2, q2, _⟩ := a2 w H (v1 :: s) (by rw [List.length_cons]; unfold rh at hs ⊢; simp at hs ⊢; omega)
      obtain ⟨v3, q3, _⟩ := a3 w H (v2 :: v1 :: s) (by rw [List.length_cons, List.length_cons]; unfold rh at hs ⊢; simp at hs ⊢; omega)
      exact ⟨_, Rn_cpu (Rn_trans (Rn_trans q1 g2.2.2.2.2 q2) g3.2.2.2.2 q3) (Or.inr (Or.inr (Or.inl ⟨rfl, v3, v2, v1, s, rfl, t1 (by unfold isTr; omega), rfl⟩))), fun z => absurd z.2 (by omega)⟩
    | x + 11, h => exact absurd h (by show ¬ (Sum.inl (0, 0) : PR) = .inr (t2, cs2); simp)
theorem law_ev {T : Nat → Nat} {n m : Nat} {u t2 : TK} {cs cs2 : CD} (hu : TkOK T n u) (h : pp T n m (8 * n + 8) (lawX m) 0 u cs = .inr (t2, cs2)) : cs.1 < cs2.1 ∧ ∀ w, ∃ v, run w m 64 cs2.2 cs.1 (cs2.1 - cs.1) [] [v] ∧ (m ≠ 0 → b01 v) := by
  have x := pp_ev _ _ _ _ _ _ _ hu (by omega) h
  have c1 : cX0 (lawX m) = 1 := by
    unfold lawX
    by_cases q : m = 0
    · rw [if_pos q]; rfl
    · rw [if_neg q]; rfl
  have r1 : rh (lawX m) 0 ≤ 64 := by
    unfold lawX
    by_cases q : m = 0
    · rw [if_pos q]; decide
    · rw [if_neg q]; decide
  have y : ∀ w, ∃ v, run w m 64 cs2.2 cs.1 (cs2.1 - cs.1) [] [v] ∧ (m ≠ 0 → b01 v) := fun w => by
    obtain ⟨v, q, tv⟩ := x.1 c1 w 64 [] (by rw [List.length_nil]; omega)
    exact ⟨v, q.2, fun z => tv (by unfold lawX; rw [if_neg z]; unfold isTr; omega)⟩
  refine ⟨Nat.lt_of_not_le (fun z => ?_), y⟩
  obtain ⟨v, q, _⟩ := y (fun _ => 0)
  rw [show cs2.1 - cs.1 = 0 from by omega] at q
  exact absurd q (by show ¬ [v] = []; simp)
