/-! Part b5: what a told net comes to, pure. -/
def stF (w : Nat → Int32) (c : Nat) (s : List Int32) : List Int32 := if c < 3000 then lfI w c :: s else if c = 3006 then (match s with
  | a :: r => (nI 1 - a) :: r
  | [] => []) else if c = 3009 then (match s with
  | b :: a :: x :: r => (if x = nI 1 then a else b) :: r
  | _ => []) else (match s with
  | b :: a :: r => jnI c a b :: r
  | _ => [])
def evF (w : Nat → Int32) (f : Nat → Nat) : Nat → Nat → List Int32 → List Int32
  | _, 0, s => s
  | i, k + 1, s => evF w f (i + 1) k (stF w (f i) s)
theorem st_F {w : Nat → Int32} {m H c : Nat} {s s2 : List Int32} (h : St1 w m H c s s2) : stF w c s = s2 := by
  unfold stF
  rcases h with ⟨c1, c2, c3⟩ | ⟨c1, a, r, c2, c3⟩ | ⟨c1, b, a, x, r, c2, c3, c4⟩ | ⟨c1, b, a, r, c2, c3⟩
  · rw [if_pos (by unfold wok at c1; omega), c3]
  · rw [if_neg (by omega), if_pos c1, c2, c3]
  · rw [if_neg (by omega), if_neg (by omega), if_pos c1, c2, c4]
  · rw [if_neg (by omega), if_neg (by omega), if_neg (by omega), c2, c3]
theorem ev_F {w : Nat → Int32} {m H : Nat} {f : Nat → Nat} : ∀ k i s s2, run w m H f i k s s2 → evF w f i k s = s2
  | 0, _, _, _, h => by
    have h := h.symm
    exact h
  | k + 1, i, s, s2, ⟨s1, h1, h2⟩ => by
    show evF w f (i + 1) k (stF w (f i) s) = s2
    rw [st_F h1]
    exact ev_F k (i + 1) s1 s2 h2
def lwV (w : Nat → Int32) (f : Nat → Nat) (B E : Nat) : Int32 := (evF w f B (E - B) []).headD 0
/-- a law that was told, or none -/
def LwO (f : Nat → Nat) (n m B E : Nat) : Prop := B = E ∨ (B < E ∧ E ≤ n ∧ ∀ w, ∃ v, run w m 64 f B (E - B) [] [v] ∧ (m ≠ 0 → b01 v))
theorem LwO_v {f : Nat → Nat} {n m B E : Nat} (h : LwO f n m B E) (hb : B ≠ E) : B < E ∧ E ≤ n ∧ ∀ w, run w m 64 f B (E - B) [] [lwV w f B E] ∧ (m ≠ 0 → b01 (lwV w f B E)) := by
  rcases h with h | ⟨h1, h2, h3⟩
  · exact absurd h hb
  · refine ⟨h1, h2, fun w => ?_⟩
    obtain ⟨v, a, b⟩ := h3 w
    have e : lwV w f B E = v := by
      unfold lwV
      rw [ev_F _ _ _ _ a]
      rfl
    rw [e]
    exact ⟨a, b⟩
/-- the c-th of those below k -/
def atN (p : Nat → Bool) : Nat → Nat → Nat
  | 0, _ => 0
  | k + 1, c => if p k = true ∧ nS p k = c then k else atN p k c
theorem nS_mono {p : Nat → Bool} : ∀ k j, nS p j ≤ nS p (j + k)
  | 0, _ => Nat.le_refl _
  | k + 1, j => by
    have := nS_mono (p := p) k j
    show nS p j ≤ nS p (j + k) + _
    omega
theorem nS_lt {p : Nat → Bool} {D E : Nat} (h : D < E) (hp : p D = true) : nS p D < nS p E := by
  have := nS_mono (p := p) (E - (D + 1)) (D + 1)
  rw [show D + 1 + (E - (D + 1)) = E from by omega] at this
  have e : nS p (D + 1) = nS p D + (if p D = true then 1 else 0) := rfl
  rw [if_pos hp] at e
  omega
theorem at_D {p : Nat → Bool} {D : Nat} (hp : p D = true) : ∀ k, D < k → atN p k (nS p D) = D
  | 0, h => absurd h (by omega)
  | k + 1, h => by
    unfold atN
    by_cases z : p k = true ∧ nS p k = nS p D
    · rw [if_pos z]
      by_cases y : D = k
      · exact y.symm
      · have := nS_lt (p := p) (show D < k by omega) hp
        omega
    · rw [if_neg z]
      have : D ≠ k := fun y => z (by rw [← y]; exact ⟨hp, rfl⟩)
      exact at_D hp k (by omega)
theorem at_ex {p : Nat → Bool} {c : Nat} : ∀ k, c < nS p k → ∃ D, D < k ∧ p D = true ∧ nS p D = c
  | 0, h => absurd h (by show ¬ c < 0; omega)
  | k + 1, h => by
    have h : c < nS p k + (if p k = true then 1 else 0) := h
    by_cases z : c < nS p k
    · obtain ⟨D, a, b⟩ := at_ex k z
      exact ⟨D, by omega, b⟩
    · by_cases y : p k = true
      · rw [if_pos y] at h; exact ⟨k, by omega, y, by omega⟩
      · rw [if_neg y] at h; omega
theorem at_ok {p : Nat → Bool} {c k : Nat} (h : c < nS p k) : atN p k c < k ∧ p (atN p k c) = true ∧ nS p (atN p k c) = c := by
  obtain ⟨D, a, b, e⟩ := at_ex k h
  have := at_D b k a
  rw [e] at this
  rw [this]
  exact ⟨a, b, e⟩
def myN (p : Nat → Bool) : Nat → Nat
  | 0 => 0
  | c + 1 => if p c = true then myN p c ||| 2 ^ c else myN p c
theorem myN_lt {p : Nat → Bool} : ∀ c, myN p c < 2 ^ c
  | 0 => by show 0 < 1; omega
  | c + 1 => by
    have h1 := myN_lt (p := p) c
    have h2 : (2 : Nat) ^ (c + 1) = 2 ^ c + 2 ^ c := by rw [Nat.pow_succ]; omega
    unfold myN
    by_cases z : p c = true
    · rw [if_pos z]; exact Nat.or_lt_two_pow (by omega) (by omega)
    · rw [if_neg z]; omega
theorem bt_my {p : Nat → Bool} {j : Nat} : ∀ c, bt (myN p c) j = if j < c ∧ p j = true then 1 else 0
  | 0 => by rw [if_neg (by omega)]; exact bt_zz j
  | n + 1 => by
    have ih := bt_my (p := p) (j := j) n
    unfold myN
    by_cases z : p n = true
    · rw [if_pos z, bt_or]
      by_cases y : j = n
      · rw [if_pos y, if_pos (by rw [y]; exact ⟨by omega, z⟩)]
      · rw [if_neg y, ih]
        by_cases x : j < n ∧ p j = true
        · rw [if_pos x, if_pos ⟨by omega, x.2⟩]
        · rw [if_neg x, if_neg (fun w => x ⟨by omega, w.2⟩)]
    · rw [if_neg z, ih]
      by_cases x : j < n ∧ p j = true
      · rw [if_pos x, if_pos ⟨by omega, x.2⟩]
      · rw [if_neg x, if_neg (fun w => by
          by_cases y : j = n
          · rw [y] at w; exact z w.2
          · exact x ⟨by omega, w.2⟩)]
/-- a cost within its bounds -/
def clN (v : Int32) : Nat := if nI 1 ≤ v then (if v ≤ nI 99 then v.toNatClampNeg else 99) else 1
theorem clN_ok (v : Int32) : 1 ≤ clN v ∧ clN v ≤ 99 ∧ (if nI 1 ≤ v then (if v ≤ nI 99 then v else nI 99) else nI 1) = nI (clN v) ∧ (if nI 1 < (if v < nI 99 then v else nI 99) then (if v < nI 99 then v else nI 99) else nI 1) = nI (clN v) := by
  have cs := nI_cases v 99 (by omega)
  unfold clN
  by_cases a : nI 1 ≤ v
  · rw [if_pos a, if_pos a]
    by_cases b : v ≤ nI 99
    · rw [if_pos b, if_pos b]
      rcases cs with ⟨j, hj, e⟩ | z
      · subst e
        have j1 : 1 ≤ j := Nat.le_of_not_lt (fun y => absurd a (nI_ge y (by omega)))
        rw [nI_clamp (by omega)]
        refine ⟨j1, hj, rfl, ?_⟩
        by_cases c : j = 99
        · subst c; decide
        · rw [if_pos (nI_lt (show j < 99 by omega) (by omega))]
          by_cases d : j = 1
          · subst d; decide
          · rw [if_pos (nI_lt (show 1 < j by omega) (by omega))]
      · exfalso
        have a1 := Int32.le_iff_toInt_le.mp a
        have b1 := Int32.le_iff_toInt_le.mp b
        rw [nI_tI (by omega)] at a1 b1
        omega
    · rw [if_neg b, if_neg b]
      refine ⟨by omega, by omega, rfl, ?_⟩
      rw [if_neg (fun y => b (Int32.le_of_lt y)), if_pos (by decide)]
  · rw [if_neg a, if_neg a]
    refine ⟨by omega, by omega, rfl, ?_⟩
    have l : v < nI 1 := Int32.not_le.mp a
    rw [if_pos (Int32.lt_trans l (by decide)), if_neg (fun y => a (Int32.le_of_lt y))]
def wLk (v : TN) (r l j : Nat) : Int32 := if j = 0 then nI r else if j = 1 then nI (tnO v l) else if j = 2 then nI (tnW v l) else if j = 3 then nI (tnF v l) else nI (tnT v l)
def wRg (v : TN) (r D ch j : Nat) : Int32 := if j = 0 then nI r else if j = 1 then nI (smN (tnO v) D (tnL v)) else if j = 2 then nI (smN (tnW v) D (tnL v)) else if j = 5 then nI (bcN D 10) else nI (bcN ch 10)
def prC (v : TN) (cs : CD) (r l : Nat) : Nat := if tnB v 0 = tnE v 0 then tnO v l else clN (lwV (wLk v r l) cs.2 (tnB v 0) (tnE v 0))
def mbC (v : TN) (cs : CD) (r D ch : Nat) : Bool := decide (tnB v 1 = tnE v 1) || decide (lwV (wRg v r D ch) cs.2 (tnB v 1) (tnE v 1) = nI 1)
def sidN (f g : Nat → Nat) (L D l : Nat) : Nat := dfN D (wk f g L (g l) L D (f l)).1
def paN (f g : Nat → Nat) (L D ch l s : Nat) : Nat := if bt D l = 1 then (if s = 0 then dfN D (2 ^ l) else 0) else if bt ch l = 1 then (if s = 0 then min (sidN f g L D l) (dfN D (sidN f g L D l)) else max (sidN f g L D l) (dfN D (sidN f g L D l))) else 0
theorem pa_on {f g : Nat → Nat} {L D ch l : Nat} (h : bt D l = 1) : paN f g L D ch l 0 = dfN D (2 ^ l) ∧ paN f g L D ch l 1 = 0 := by
  unfold paN
  rw [if_pos h, if_pos h]
  exact ⟨rfl, rfl⟩
theorem pa_ch {f g : Nat → Nat} {L D ch l : Nat} (h : bt D l = 0) (h2 : bt ch l = 1) : paN f g L D ch l 0 = min (sidN f g L D l) (dfN D (sidN f g L D l)) ∧ paN f g L D ch l 1 = max (sidN f g L D l) (dfN D (sidN f g L D l)) := by
  unfold paN
  have n1 : ¬ bt D l = 1 := by omega
  rw [if_neg n1, if_neg n1, if_pos h2, if_pos h2]
  exact ⟨rfl, rfl⟩
theorem pa_no {f g : Nat → Nat} {L D ch l s : Nat} (h : bt D l = 0) (h2 : bt ch l = 0) : paN f g L D ch l s = 0 := by
  unfold paN
  rw [if_neg (by omega), if_neg (by omega)]
def ofC (v : TN) : Nat := nS (cyB (tnF v) (tnT v) (tnL v)) (2 ^ tnL v)
def ofOn (v : TN) (c : Nat) : Nat := atN (cyB (tnF v) (tnT v) (tnL v)) (2 ^ tnL v) c
def ofNd (v : TN) (D : Nat) : Nat := onS (tnF v) (tnT v) D (tnL v)
def ofCh (v : TN) (D : Nat) : Nat := chN (tnF v) (tnT v) D (ofNd v D) (tnL v)
def nvOf (v : TN) (cs : CD) : NV := ((tnK v, tnL v, tnN v, ofC v), (tnF v, tnT v, tnO v, tnW v), (ofOn v, fun c => ofNd v (ofOn v c), fun c => ofCh v (ofOn v c)), (fun c l s => paN (tnF v) (tnT v) (tnL v) (ofOn v c) (ofCh v (ofOn v c)) l s), prC v cs, fun r => myN (fun c => mbC v cs r (ofOn v c) (ofCh v (ofOn v c))) (ofC v))
/-- a told net, as it is read -/
def TnOK (v : TN) (cs : CD) : Prop := TnA v ∧ Lk (tnF v) (tnT v) (tnL v) ∧ Sm (tnF v) (tnT v) (tnL v) ∧ (∀ l, l < tnL v → 1 ≤ tnO v l ∧ tnO v l ≤ 9 ∧ tnW v l ≤ 2) ∧ ∀ m, m < 2 → LwO cs.2 cs.1 m (tnB v m) (tnE v m)
theorem bt_ch {f g : Nat → Nat} {s N j : Nat} : ∀ l, bt (chN f g s N l) j = 1 ↔ j < l ∧ bt s j = 0 ∧ enS f g j &&& N = enS f g j
  | 0 => by
    show bt 0 j = 1 ↔ _
    rw [bt_zz]
    omega
  | l + 1 => by
    have ih := bt_ch (f := f) (g := g) (s := s) (N := N) (j := j) l
    unfold chN
    by_cases z : bt s l = 0 ∧ enS f g l &&& N = enS f g l
    · rw [if_pos z, bt_or]
      by_cases y : j = l
      · subst y; rw [if_pos rfl]; exact ⟨fun _ => ⟨by omega, z⟩, fun _ => rfl⟩
      · rw [if_neg y, ih]; exact ⟨fun w => ⟨by omega, w.2⟩, fun w => ⟨by omega, w.2⟩⟩
    · rw [if_neg z, ih]
      refine ⟨fun w => ⟨by omega, w.2⟩, fun w => ⟨?_, w.2⟩⟩
      have : j ≠ l := fun y => z (by rw [← y]; exact w.2)
      omega
theorem en_sub {f g : Nat → Nat} {l N : Nat} (hf : f l < 8) (hg : g l < 8) : enS f g l &&& N = enS f g l ↔ bt N (f l) = 1 ∧ bt N (g l) = 1 := by
  constructor
  · intro e
    have k : ∀ j, bt (enS f g l) j = 1 → bt N j = 1 := fun j z => by
      rw [← e, bt_and] at z
      exact z.2
    exact ⟨k _ ((bt_en l _).mpr (Or.inl rfl)), k _ ((bt_en l _).mpr (Or.inr rfl))⟩
  · rintro ⟨a, b⟩
    have le := enS_lt (f := f) (g := g) (l := l) hf hg
    refine mask_ext (n := 8) (Nat.lt_of_le_of_lt Nat.and_le_left le) le (fun c _ => ?_)
    rw [bt_and]
    refine ⟨fun z => z.1, fun z => ⟨z, ?_⟩⟩
    rcases (bt_en l c).mp z with y | y
    · rw [y]; exact a
    · rw [y]; exact b
section OF
variable {v : TN} {cs : CD}
theorem of_cyc (h : TnOK v cs) {c : Nat} (hc : c < ofC v) : ofOn v c < 2 ^ tnL v ∧ cyB (tnF v) (tnT v) (tnL v) (ofOn v c) = true ∧ nS (cyB (tnF v) (tnT v) (tnL v)) (ofOn v c) = c ∧ 3 ≤ bcN (ofOn v c) 10 ∧ TwoR (tnF v) (tnT v) (tnL v) (ofOn v c) ∧ Cn (tnF v) (tnT v) (tnL v) (ofOn v c) := by
  have a := at_ok (p := cyB (tnF v) (tnT v) (tnL v)) (k := 2 ^ tnL v) hc
  have b := (cyB_iff h.2.1 a.1).mp a.2.1
  exact ⟨a.1, a.2.1, a.2.2, b⟩
/-- a chord's sides -/
theorem chord_ok (h : TnOK v cs) {c l : Nat} (hc : c < ofC v) (hl : l < tnL v) (hb : bt (ofCh v (ofOn v c)) l = 1) : (wk (tnF v) (tnT v) (tnL v) (tnT v l) (tnL v) (ofOn v c) (tnF v l)).2 = tnT v l ∧ 0 < sidN (tnF v) (tnT v) (tnL v) (ofOn v c) l ∧ 0 < dfN (ofOn v c) (sidN (tnF v) (tnT v) (tnL v) (ofOn v c) l) ∧ sidN (tnF v) (tnT v) (tnL v) (ofOn v c) l ≠ dfN (ofOn v c) (sidN (tnF v) (tnT v) (tnL v) (ofOn v c) l) ∧ dfN (ofOn v c) (sidN (tnF v) (tnT v) (tnL v) (ofOn v c) l) = (wk (tnF v) (tnT v) (tnL v) (tnT v l) (tnL v) (ofOn v c) (tnF v l)).1 := by
  have cy := of_cyc h hc
  have lk := h.2.1
  have e := lk.2 l hl
  have hD1 := lt_of_pow cy.1 lk.1
  obtain ⟨_, _, sub⟩ := (bt_ch _).mp hb
  have nd := (en_sub e.1 e.2.1).mp sub
  have n1 := (bt_on lk (tnL v) (Nat.le_refl _)).mp nd.1
  have n2 := (bt_on lk (tnL v) (Nat.le_refl _)).mp nd.2
  obtain ⟨s1, s2, ⟨i, i1, i2⟩, j, j1, j2, j3⟩ := side_ok (fun l hl => (lk.2 l hl).2.2) cy.2.2.2.2.1 cy.2.2.2.2.2 e.2.2 n1 n2
  have lX : (wk (tnF v) (tnT v) (tnL v) (tnT v l) (tnL v) (ofOn v c) (tnF v l)).1 < 2 ^ 10 := wk_lt _ _ _ hD1
  have eX : dfN (ofOn v c) (sidN (tnF v) (tnT v) (tnL v) (ofOn v c) l) = (wk (tnF v) (tnT v) (tnL v) (tnT v l) (tnL v) (ofOn v c) (tnF v l)).1 := by
    refine mask_ext (dfN_lt hD1) lX (fun k _ => ?_)
    unfold sidN
    have b1 := bt_dfN (ofOn v c) (wk (tnF v) (tnT v) (tnL v) (tnT v l) (tnL v) (ofOn v c) (tnF v l)).1 k
    have b2 := bt01 (dfN (ofOn v c) (wk (tnF v) (tnT v) (tnL v) (tnT v l) (tnL v) (ofOn v c) (tnF v l)).1) k
    have b3 := bt01 (wk (tnF v) (tnT v) (tnL v) (tnT v l) (tnL v) (ofOn v c) (tnF v l)).1 k
    have b4 := s2 k
    rw [bt_dfN]
    omega
  have bs : bt (sidN (tnF v) (tnT v) (tnL v) (ofOn v c) l) j = 1 := (bt_dfN _ _ _).mpr ⟨j2, j3⟩
  have pos : ∀ x k, bt x k = 1 → 0 < x := fun x k z => Nat.pos_of_ne_zero (fun y => by
    rw [y, bt_zz] at z
    omega)
  refine ⟨s1, pos _ _ bs, by rw [eX]; exact pos _ _ i2, fun z => ?_, eX⟩
  rw [eX] at z
  rw [z] at bs
  omega
theorem nv_ok (h : TnOK v cs) (hN : tnN v ≤ 1000) : NvOK (nvOf v cs) := by
  obtain ⟨t1, lk, sm, t4, t5⟩ := id h
  have lt10 : ∀ c, c < ofC v → ofOn v c < 2 ^ 10 := fun c hc => lt_of_pow (of_cyc h hc).1 lk.1
  refine ⟨⟨t1.1, t1.2.1, lk.1, hN, forty lk sm⟩, fun l hl => ?_, fun c hc => ?_, fun c d hcd hd => ?_, fun c l hc hl => ?_, fun r l _ hl => ?_, fun r _ => myN_lt _⟩
  · have a := t1.2.2.2 l hl
    have b := lk.2 l hl
    have d := t4 l hl
    exact ⟨a.1, a.2, b.2.2, d.2.1, d.2.2⟩
  · have cy := of_cyc h hc
    refine ⟨Nat.pos_of_ne_zero (fun z => ?_), cy.1, onS_lt lk _ (Nat.le_refl _), chN_lt _ _ _ _ _⟩
    have z : ofOn v c = 0 := z
    have := cy.2.2.2.1
    rw [z, bcN_zero 10 (fun l _ => bt_zz l)] at this
    omega
  · have hc : c < ofC v := Nat.lt_trans hcd hd
    have c1 := of_cyc h hc
    have d1 := of_cyc h hd
    show ofOn v c < ofOn v d
    refine Nat.lt_of_not_le (fun z => ?_)
    have := nS_mono (p := cyB (tnF v) (tnT v) (tnL v)) (ofOn v c - ofOn v d) (ofOn v d)
    rw [show ofOn v d + (ofOn v c - ofOn v d) = ofOn v c from by omega, c1.2.2.1, d1.2.2.1] at this
    omega
  · have hc : c < ofC v := hc
    have hl : l < tnL v := hl
    have cy := of_cyc h hc
    have o1 := lt10 c hc
    have bD := bt01 (ofOn v c) l
    have bC := bt01 (ofCh v (ofOn v c)) l
    have ic := bt_ch (f := tnF v) (g := tnT v) (s := ofOn v c) (N := ofNd v (ofOn v c)) (j := l) (tnL v)
    have p0 : ∀ s, nvPa (nvOf v cs) c l s = paN (tnF v) (tnT v) (tnL v) (ofOn v c) (ofCh v (ofOn v c)) l s := fun _ => rfl
    have eo : nvOn (nvOf v cs) c = ofOn v c := rfl
    have ec : nvCh (nvOf v cs) c = ofCh v (ofOn v c) := rfl
    unfold paOK
    rw [p0, p0, eo, ec]
    rcases bD with b | b
    · rcases bC with d | d
      · right; right
        rw [pa_no b d, pa_no b d]
        exact ⟨b, d, rfl, rfl⟩
      · right; left
        have ch := chord_ok h hc hl d
        have l1 : sidN (tnF v) (tnT v) (tnL v) (ofOn v c) l < 2 ^ 10 := dfN_lt o1
        have l2 : dfN (ofOn v c) (sidN (tnF v) (tnT v) (tnL v) (ofOn v c) l) < 2 ^ 10 := dfN_lt o1
        have pc := pa_ch (f := tnF v) (g := tnT v) (L := tnL v) b d
        rw [pc.1, pc.2]
        refine ⟨b, d, ?_, ?_, ?_⟩ <;> omega
    · left
      have z : bt (ofCh v (ofOn v c)) l = 0 := by
        rcases bC with d | d
        · exact d
        · have := (ic.mp d).2.1
          omega
      have e2 : dfN (ofOn v c) (2 ^ l) = ofOn v c - 2 ^ l := anl_ok l (by have := lk.1; omega) _ o1 b
      have bc := bcN_df b 10 (show l < 10 by have := lk.1; omega)
      have pos : 0 < dfN (ofOn v c) (2 ^ l) := Nat.pos_of_ne_zero (fun y => by
        rw [y, bcN_zero 10 (fun l _ => bt_zz l)] at bc
        have := cy.2.2.2.1
        omega)
      have l2 : dfN (ofOn v c) (2 ^ l) < 2 ^ 10 := dfN_lt o1
      have po := pa_on (f := tnF v) (g := tnT v) (L := tnL v) (ch := ofCh v (ofOn v c)) b
      rw [po.1, po.2]
      exact ⟨b, z, e2, pos, l2, rfl⟩
  · have hl : l < tnL v := hl
    have d := t4 l hl
    show 1 ≤ prC v cs r l ∧ prC v cs r l ≤ 99
    unfold prC
    by_cases z : tnB v 0 = tnE v 0
    · rw [if_pos z]; omega
    · rw [if_neg z]
      have := clN_ok (lwV (wLk v r l) cs.2 (tnB v 0) (tnE v 0))
      exact ⟨this.1, this.2.1⟩
end OF
