/-! Part b6: what is read is a told net. -/
theorem jnF_no {f g : Nat → Nat} {a b : Nat} : ∀ l, jnF f g a b l = false → ∀ i, i < l → ¬ ((f i = a ∧ g i = b) ∨ (f i = b ∧ g i = a))
  | 0, _, i, h => absurd h (by omega)
  | l + 1, z, i, h => by
    have z : (jnF f g a b l || decide ((f l = a ∧ g l = b) ∨ (f l = b ∧ g l = a))) = false := z
    rw [Bool.or_eq_false_iff, decide_eq_false_iff_not] at z
    by_cases y : i = l
    · rw [y]; exact z.2
    · exact jnF_no l z.1 i (by omega)
theorem LwO_more {f g : Nat → Nat} {n n2 m B E : Nat} (hn : n ≤ n2) (e : ∀ i, i < n → g i = f i) (h : LwO f n m B E) : LwO g n2 m B E := by
  rcases h with h | ⟨h1, h2, h3⟩
  · exact Or.inl h
  · refine Or.inr ⟨h1, by omega, fun w => ?_⟩
    obtain ⟨v, a, b⟩ := h3 w
    exact ⟨v, run_ext _ _ _ _ (fun j x y => (e j (by omega)).symm) a, b⟩
theorem Tn_add {v : TN} {cs : CD} {a b o w : Nat} (h : TnOK v cs) (hL : tnL v ≠ 10) (ha : a ≤ tnK v - 1) (hb : b ≤ tnK v - 1) (hj : bdJ v a b = false) (o1 : 1 ≤ o) (o2 : o ≤ 9) (hw : w ≤ 2) : TnOK (tnAdd v a b o w) cs := by
  obtain ⟨t1, lk, sm, t4, t5⟩ := h
  unfold bdJ at hj
  rw [Bool.or_eq_false_iff, decide_eq_false_iff_not] at hj
  have nj := jnF_no _ hj.2
  have l10 := lk.1
  have eF : ∀ l, tnF (tnAdd v a b o w) l = if l = tnL v then a else tnF v l := fun _ => rfl
  have eT : ∀ l, tnT (tnAdd v a b o w) l = if l = tnL v then b else tnT v l := fun _ => rfl
  have eO : ∀ l, tnO (tnAdd v a b o w) l = if l = tnL v then o else tnO v l := fun _ => rfl
  have eW : ∀ l, tnW (tnAdd v a b o w) l = if l = tnL v then w else tnW v l := fun _ => rfl
  have k8 := t1.2.1
  have k1 := t1.1
  refine ⟨TnA_add t1 hL ha hb, ⟨by show tnL v + 1 ≤ 10; omega, fun l hl => ?_⟩, fun i j hij hj2 => ?_, fun l hl => ?_, t5⟩
  · have hl : l < tnL v + 1 := hl
    rw [eF, eT]
    by_cases q : l = tnL v
    · rw [if_pos q, if_pos q]
      exact ⟨by omega, by omega, fun z => hj.1 z.symm⟩
    · rw [if_neg q, if_neg q]; exact lk.2 l (by omega)
  · have hj2 : j < tnL v + 1 := hj2
    rw [eF, eT, eF, eT, if_neg (show ¬ i = tnL v by omega), if_neg (show ¬ i = tnL v by omega)]
    by_cases q : j = tnL v
    · rw [if_pos q, if_pos q]
      have := nj i (by omega)
      omega
    · rw [if_neg q, if_neg q]; exact sm i j hij (by omega)
  · have hl : l < tnL v + 1 := hl
    rw [eO, eW]
    by_cases q : l = tnL v
    · rw [if_pos q, if_pos q]; exact ⟨o1, o2, hw⟩
    · rw [if_neg q, if_neg q]; exact t4 l (by omega)
theorem Tn_law {v : TN} {cs cs2 : CD} {m : Nat} {T : Nat → Nat} {n : Nat} {u t2 : TK} (hm : m < 2) (h : TnOK v cs) (hu : TkOK T n u) (hp : pp T n m (8 * n + 8) (lawX m) 0 u cs = .inr (t2, cs2)) : TnOK (tnLaw v m cs.1 cs2.1) cs2 := by
  obtain ⟨t1, lk, sm, t4, t5⟩ := h
  have go := pp_go _ _ _ _ _ _ _ hu hp
  have ev := law_ev hu hp
  refine ⟨t1, lk, sm, t4, fun k hk => ?_⟩
  rw [tnB_law hm hk, tnE_law hm hk]
  by_cases q : k = m
  · rw [if_pos q, if_pos q, q]
    exact Or.inr ⟨ev.1, Nat.le_refl _, ev.2⟩
  · rw [if_neg q, if_neg q]
    exact LwO_more go.2.2.1 go.2.2.2.2 (t5 k hk)
def TF (T : Nat → Nat) (n : Nat) (t : TK) (cs : CD) (v : TN) : Prop := TkOK T n t ∧ cs.1 ≤ tkA t ∧ tnN v ≤ tkA t ∧ TnOK v cs
theorem TF_line {T : Nat → Nat} {n : Nat} {t t2 : TK} {cs cs2 : CD} {v v2 : TN} (p : TF T n t cs v) (hk : tkK t ≠ 24) (h : lineL T n t cs v = .inr (t2, cs2, v2)) : TF T n t2 cs2 v2 := by
  obtain ⟨p1, p2, p3, p4⟩ := p
  obtain ⟨go, u, w, h1, e⟩ := line_go p1 hk h
  obtain ⟨g1, g2, g3, g4, g5⟩ := go
  have key : TnOK w cs2 ∧ tnN w = tnN v := by
    rcases kind_cases p1 hk h1 with ⟨ec, q, a, b, o, x, a1, b1, j1, o1, o2, w1, ew⟩ | ⟨m, hm, ew, u2, hu, _, hp⟩
    · rw [ew, ec]; exact ⟨Tn_add p4 q a1 b1 j1 o1 o2 w1, rfl⟩
    · rw [ew]; exact ⟨Tn_law hm p4 hu hp, rfl⟩
  refine ⟨g1, by omega, ?_, ?_⟩
  · rw [e]
    show tnN w + 1 ≤ tkA t2
    omega
  · rw [e]; exact (key.1 : TnOK w cs2)
theorem TF_lines {T : Nat → Nat} {n : Nat} {t2 : TK} {cs2 : CD} {v2 : TN} : ∀ k t cs v, TF T n t cs v → linesL T n k t cs v = .inr (t2, cs2, v2) → TF T n t2 cs2 v2
  | 0, _, _, _, _, h => absurd h (by unfold linesL; simp)
  | k + 1, t, cs, v, p, h => by
    unfold linesL at h
    by_cases q : tkK t = 24
    · rw [if_pos q] at h
      have e := lr_inr h
      injection e with ea eb
      injection eb with eb ec
      rw [← ea, ← eb, ← ec]
      exact p
    · rw [if_neg q] at h
      obtain ⟨u, c, w, h1, h2⟩ := bndL_inr h
      exact TF_lines k u c w (TF_line p q h1) h2
theorem TF_head {T : Nat → Nat} {n : Nat} {t t2 : TK} {cs2 : CD} {v2 : TN} (ht : TkOK T n t) (h : headL T n t = .inr (t2, cs2, v2)) : TF T n t2 cs2 v2 := by
  obtain ⟨a, b, c, k, r, k1, k2, r1, e⟩ := head_go ht h
  have eL : tnL v2 = 0 := by rw [e]; rfl
  have eK : tnK v2 = k := by rw [e]; rfl
  refine ⟨a, by rw [b]; exact Nat.zero_le _, by rw [e]; exact c, ⟨by omega, by omega, by omega, fun l hl => absurd hl (by omega)⟩, ⟨by omega, fun l hl => absurd hl (by omega)⟩, fun i j _ hj => absurd hj (by omega), fun l hl => absurd hl (by omega), fun m hm => Or.inl ?_⟩
  rw [e]
  rfl
theorem TF_net {T : Nat → Nat} {n : Nat} {t2 : TK} {cs2 : CD} {v2 : TN} (h : netL T n = .inr (t2, cs2, v2)) : TF T n t2 cs2 v2 := by
  unfold netL at h
  obtain ⟨u, c, w, h1, h2⟩ := bndL_inr h
  exact TF_lines _ _ _ _ (TF_head (TkOK_N (Nat.zero_le _)) h1) h2
theorem Tn_rate {T : Nat → Nat} {n : Nat} {t2 : TK} {cs2 : CD} {v2 : TN} (h : netL T n = .inr (t2, cs2, v2)) : tnR v2 ≤ 9 := by
  unfold netL at h
  obtain ⟨u, c, w, h1, h2⟩ := bndL_inr h
  have ok := TkOK_N (T := T) (n := n) (p := 0) (Nat.zero_le _)
  obtain ⟨_, _, _, k, r, _, _, r1, e⟩ := head_go ok h1
  have f := TF_head ok h1
  have rw1 : tnR w ≤ 9 := by rw [e]; exact r1
  have go : ∀ k t cs v, TF T n t cs v → tnR v ≤ 9 → linesL T n k t cs v = .inr (t2, cs2, v2) → tnR v2 ≤ 9 := by
    intro k
    induction k with
    | zero => intro t cs v _ _ h; exact absurd h (by unfold linesL; simp)
    | succ k ih =>
      intro t cs v p hr h
      unfold linesL at h
      by_cases q : tkK t = 24
      · rw [if_pos q] at h
        have e := lr_inr h
        injection e with ea eb
        injection eb with eb ec
        rw [← ec]
        exact hr
      · rw [if_neg q] at h
        obtain ⟨u, c, w, h1, h2⟩ := bndL_inr h
        refine ih u c w (TF_line p q h1) ?_ h2
        obtain ⟨_, u3, w3, h3, e3⟩ := line_go p.1 q h1
        rw [e3]
        show tnR w3 ≤ 9
        rcases kind_cases p.1 q h3 with ⟨_, _, a, b, o, x, _, _, _, _, _, _, ew⟩ | ⟨m, _, ew, _⟩
        · rw [ew]; exact hr
        · rw [ew]; exact hr
  exact go _ _ _ _ f rw1 h2
