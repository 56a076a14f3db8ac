/-! ===== what the class's covers keep; lookAt ===== -/
/-- the links with use, of the rings among the first n cycles -/
def wuN (v : NV) (r : Nat) : Nat → Nat
  | 0 => 0
  | c + 1 => if bt (nvMy v r) c = 1 then wuN v r c ||| (nvOn v c ||| nvCh v c) else wuN v r c
theorem wuN_lt {v : NV} (hv : NvOK v) (r : Nat) : ∀ c, c ≤ nvC v → wuN v r c < 2 ^ nvL v
  | 0, _ => Nat.two_pow_pos _
  | c + 1, h => by
    have ih := wuN_lt hv r c (by omega)
    have h3 := hv.2.2.1 c (by omega)
    unfold wuN
    by_cases q : bt (nvMy v r) c = 1
    · rw [if_pos q]; exact Nat.or_lt_two_pow ih (Nat.or_lt_two_pow h3.2.1 h3.2.2.2)
    · rw [if_neg q]; exact ih
def CvR (h : MH) (v : NV) (r : Nat) : Prop := hI h 199 2 = nI (bcN (nvMy v r) (nvC v)) ∧ hI h 199 6 = nI (wuN v r (nvC v)) ∧ ∀ c, c < nvC v → bt (nvMy v r) c = 1 → hI h 200 (bcN (nvMy v r) c) = nI (nvOn v c) ∧ hI h 201 (bcN (nvMy v r) c) = nI (nvCh v c) ∧ hI h 202 (bcN (nvMy v r) c) = nI (nvPc v r c)
/-- entries of the present age are right; lp: net, rate, needs -> least price -/
def MemV (lp : NV → Nat → Nat → Nat) (h : MH) (w age : Nat) (v : NV) (r : Nat) : Prop := ∀ k, k < 2048 → ∀ n, n < 2 ^ 21 → (hL h w k).toBitVec.toNat / 2 ^ 16 = age * 2 ^ 21 + n → (hL h w k).toBitVec.toNat % 2 ^ 16 = lp v r n
def CVA (lp : NV → Nat → Nat → Nat) (A : Nat) (h : MH) : Prop := ∃ age w, age ≤ A ∧ hL h 199 8 = lN age ∧ hR h 199 7 = some w ∧ (w = 203 ∨ (244 ≤ w ∧ w < hN h ∧ hS h w = (3, 2048) ∧ ∀ k, k < 2048 → (hL h w k).toBitVec.toNat / 2 ^ 37 ≤ age)) ∧ ((hR h 199 0 = none ∧ w = 203) ∨ ∃ a v r, hR h 199 0 = some a ∧ NetV h a v ∧ r < 10 ∧ hI h 199 1 = nI r ∧ CvR h v r ∧ (w ≠ 203 → MemV lp h w age v r))
theorem CVA_keep (lp : NV → Nat → Nat → Nat) (A : Nat) (h h1 : MH) (q : CvEq h h1) (p : CVA lp A h) : CVA lp A h1 := by
  obtain ⟨age, w, p1, p2, p3, p4, p5⟩ := p
  have e199 := q.2 199 (by omega)
  have e200 := q.2 200 (by omega)
  have e201 := q.2 201 (by omega)
  have e202 := q.2 202 (by omega)
  refine ⟨age, w, p1, by rw [e199.2.2.1]; exact p2, by rw [e199.2.2.2]; exact p3, ?_, ?_⟩
  · rcases p4 with z | z
    · exact Or.inl z
    · have ew := q.2 w (by omega)
      exact Or.inr ⟨z.1, Nat.lt_of_lt_of_le z.2.1 q.1, by rw [ew.1]; exact z.2.2.1, by rw [ew.2.2.1]; exact z.2.2.2⟩
  · rcases p5 with z | ⟨a, v, r, z1, z2, z3, z4, z5, z6⟩
    · exact Or.inl ⟨by rw [e199.2.2.2]; exact z.1, z.2⟩
    · refine Or.inr ⟨a, v, r, by rw [e199.2.2.2]; exact z1, NetV_keep (CvEq_net q) z2, z3, by rw [e199.2.1]; exact z4, ?_, fun y => ?_⟩
      · unfold CvR
        rw [e199.2.1, e200.2.1, e201.2.1, e202.2.1]
        exact z5
      · have zw : 244 ≤ w ∧ w < hN h := by
          rcases p4 with u | u
          · exact absurd u y
          · exact ⟨u.1, u.2.1⟩
        have ew := q.2 w (by omega)
        unfold MemV
        rw [ew.2.2.1]
        exact z6 y
theorem CVA_up {lp : NV → Nat → Nat → Nat} {A : Nat} {h : MH} (p : CVA lp A h) : CVA lp (A + 1) h := by
  obtain ⟨age, w, p1, p2⟩ := p
  exact ⟨age, w, by omega, p2⟩
/-- two values of one net agree where it counts -/
theorem smN_cong {f g : Nat → Nat} {s : Nat} : ∀ n, (∀ k, k < n → f k = g k) → smN f s n = smN g s n
  | 0, _ => rfl
  | n + 1, h => by
    show smN f s n + bt s n * f n = smN g s n + bt s n * g n
    rw [smN_cong n (fun k hk => h k (by omega)), h n (by omega)]
theorem lN_inj {a b : Nat} (ha : a < 2 ^ 63) (hb : b < 2 ^ 63) (e : lN a = lN b) : a = b := by
  have := congrArg (fun z => z.toBitVec.toNat) e
  rw [lN_toNat ha, lN_toNat hb] at this
  exact this
theorem NetV_fun {h : MH} {a : Nat} {v u : NV} (p : NetV h a v) (q : NetV h a u) : nvC v = nvC u ∧ nvL v = nvL u ∧ (∀ r, r < 10 → nvMy v r = nvMy u r) ∧ (∀ c, c < nvC v → nvOn v c = nvOn u c ∧ nvCh v c = nvCh u c) ∧ (∀ r c, r < 10 → c < nvC v → nvPc v r c = nvPc u r c) ∧ ∀ l, l < nvL v → nvW v l = nvW u l := by
  obtain ⟨p0, p1, p2, p3, p4, p5, p6, w, w1, w2, w3, w4, w5, w6, w7⟩ := p
  obtain ⟨q0, q1, q2, q3, q4, q5, q6, x, x1, x2, x3, x4, x5, x6, x7⟩ := q
  have h4 := p0.1
  have h5 := q0.1
  have eC : nvC v = nvC u := (nI_eq (by omega) (by omega)).mp (p6.symm.trans q6)
  have eL : nvL v = nvL u := (nI_eq (by omega) (by omega)).mp (p5.symm.trans q5)
  have ew : ∀ k, 4 ≤ k → k ≤ 14 → k ≠ 10 → w k = x k := fun k a1 a2 a3 => by
    have := (w1 k a1 a2 a3).1.symm.trans (x1 k a1 a2 a3).1
    injection this
  have eOn : ∀ c, c < nvC v → nvOn v c = nvOn u c ∧ nvCh v c = nvCh u c := fun c hc => by
    have l1 := p0.2.2.1 c hc
    have l2 := q0.2.2.1 c (by omega)
    have b1 := lt_of_pow l1.2.1 (by omega)
    have b2 := lt_of_pow l1.2.2.2 (by omega)
    have b3 := lt_of_pow l2.2.1 (by omega)
    have b4 := lt_of_pow l2.2.2.2 (by omega)
    have s1 := (w6 c hc).1
    have s2 := (w6 c hc).2.2
    rw [ew 11 (by omega) (by omega) (by omega)] at s1
    rw [ew 13 (by omega) (by omega) (by omega)] at s2
    exact ⟨(nI_eq (by omega) (by omega)).mp (s1.symm.trans (x6 c (by omega)).1), (nI_eq (by omega) (by omega)).mp (s2.symm.trans (x6 c (by omega)).2.2)⟩
  refine ⟨eC, eL, fun r hr => ?_, eOn, fun r c hr hc => ?_, fun l hl => ?_⟩
  · have s1 := w5 r hr
    rw [ew 9 (by omega) (by omega) (by omega)] at s1
    exact lN_inj (lt_of_pow40 (p0.2.2.2.2.2.2 r hr) (by omega)) (lt_of_pow40 (q0.2.2.2.2.2.2 r hr) (by omega)) (s1.symm.trans (x5 r hr))
  · unfold nvPc
    rw [(eOn c hc).1, eL]
    refine smN_cong _ (fun k hk => ?_)
    have b1 := (p0.2.2.2.2.2.1 r k hr (by omega)).2
    have b2 := (q0.2.2.2.2.2.1 r k hr (by omega)).2
    have s1 := w4 r k hr (by omega)
    rw [ew 8 (by omega) (by omega) (by omega)] at s1
    exact (nI_eq (by omega) (by omega)).mp (s1.symm.trans (x4 r k hr (by omega)))
  · have b1 := (p0.2.1 l hl).2.2.2.2
    have b2 := (q0.2.1 l (by omega)).2.2.2.2
    have s1 := (w3 l hl).2.2.2
    rw [ew 7 (by omega) (by omega) (by omega)] at s1
    exact (nI_eq (by omega) (by omega)).mp (s1.symm.trans (x3 l (by omega)).2.2.2)
theorem wuN_cong {v u : NV} {r : Nat} (e1 : nvMy v r = nvMy u r) : ∀ c, (∀ k, k < c → nvOn v k = nvOn u k ∧ nvCh v k = nvCh u k) → wuN v r c = wuN u r c
  | 0, _ => rfl
  | c + 1, h => by
    show (if bt (nvMy v r) c = 1 then wuN v r c ||| (nvOn v c ||| nvCh v c) else wuN v r c) = (if bt (nvMy u r) c = 1 then wuN u r c ||| (nvOn u c ||| nvCh u c) else wuN u r c)
    rw [e1, wuN_cong e1 c (fun k hk => h k (by omega)), (h c (by omega)).1, (h c (by omega)).2]
theorem CvR_fun {h : MH} {a r : Nat} {v u : NV} (hr : r < 10) (p : NetV h a v) (q : NetV h a u) (c : CvR h v r) : CvR h u r := by
  obtain ⟨e1, e2, e3, e4, e5, _⟩ := NetV_fun p q
  obtain ⟨c1, c2, c3⟩ := c
  have em := e3 r hr
  refine ⟨by rw [← em, ← e1]; exact c1, by rw [← e1, ← wuN_cong em _ e4]; exact c2, fun k hk hb => ?_⟩
  rw [← em] at hb ⊢
  rw [← e1] at hk
  rw [← (e4 k hk).1, ← (e4 k hk).2, ← e5 r k hr hk]
  exact c3 k hk hb
/-- what lookAt changes -/
def LkF (h g : MH) : Prop := hN g = hN h ∧ hS g = hS h ∧ (∀ b k, ¬ (b = 199 ∧ k = 0) → hR g b k = hR h b k) ∧ (∀ b k, ¬ (b = 199 ∧ k = 8) → hL g b k = hL h b k) ∧ ∀ b, (b < 199 ∨ 202 < b) → hI g b = hI h b
theorem LkF_rfl (h : MH) : LkF h h := ⟨rfl, rfl, fun _ _ _ => rfl, fun _ _ _ => rfl, fun _ _ => rfl⟩
theorem tabR_199_0 : ∀ p ∈ tabR, ¬ (p.1 = 199 ∧ p.2.1 = 0) := by decide +kernel
theorem LX_LkF {h g : MH} (f : LkF h g) (hl : LX h) : LX g := ⟨by rw [f.1]; exact hl.1, fun p hp => by rw [f.2.1]; exact hl.2.1 p hp, fun p hp => by rw [f.2.2.1 _ _ (tabR_199_0 p hp)]; exact hl.2.2 p hp⟩
theorem NetEq_LkF {h g : MH} (f : LkF h g) : NetEq h g := ⟨Nat.le_of_eq f.1.symm, fun b hb => ⟨by rw [f.2.1], f.2.2.2.2 b (by unfold NA at hb; omega), funext (fun k => f.2.2.1 b k (by unfold NA at hb; omega)), fun _ => funext (fun k => f.2.2.2.1 b k (by unfold NA at hb; omega))⟩⟩
theorem look64 {Q : MH → Prop} {h : MH} {v : NV} {a r : Nat} (hl : LX h) (p : NetV h a v) (hr : r < 10) (e0 : hR h 199 0 = some a) (e1 : hI h 199 1 = nI r) (e2 : hI h 199 2 = nI (bcN (nvMy v r) (nvC v))) (hq : ∀ g, Fr (fun b => 199 ≤ b ∧ b ≤ 202) h g → hI g 199 1 = nI r → CvR g v r → Q g) : ∀ n c g, c + n = nvC v → Fr (fun b => 199 ≤ b ∧ b ≤ 202) h g → hI g 199 1 = nI r → hI g 199 2 = nI (bcN (nvMy v r) (nvC v)) → hI g 199 6 = nI (wuN v r c) → (∀ k, k < c → bt (nvMy v r) k = 1 → hI g 200 (bcN (nvMy v r) k) = nI (nvOn v k) ∧ hI g 201 (bcN (nvMy v r) k) = nI (nvCh v k) ∧ hI g 202 (bcN (nvMy v r) k) = nI (nvPc v r k)) → wX0_lookAt_64 Q (bcN (nvMy v r) (nvC v) - bcN (nvMy v r) c + 1) 199 (nI (bcN (nvMy v r) c)) g := by
  have h4 := p.1.1
  have hC := bcN_le (nvMy v r) (nvC v)
  intro n
  induction n with
  | zero =>
    intro c g hn f r1 r2 r6 rows
    have hn : c = nvC v := by omega
    subst hn
    rw [Nat.sub_self]
    unfold wX0_lookAt_64
    rw [r2]
    exact ⟨S_199 (LX_Fr f hl), fun _ => hq g f r1 ⟨r2, r6, rows⟩, fun z => absurd (nI_le (Nat.le_refl _) (by omega)) z⟩
  | succ n ih =>
    intro c g hn f r1 r2 r6 rows
    have eb : bcN (nvMy v r) (c + 1) = bcN (nvMy v r) c + bt (nvMy v r) c := rfl
    have ew : wuN v r (c + 1) = if bt (nvMy v r) c = 1 then wuN v r c ||| (nvOn v c ||| nvCh v c) else wuN v r c := rfl
    rcases bt01 (nvMy v r) c with b | b
    · have g1 := ih (c + 1) g (by omega) f r1 r2 (by rw [ew, if_neg (by omega)]; exact r6) (fun k hk hb => rows k (by
        by_cases q : k = c
        · rw [q] at hb; omega
        · omega) hb)
      rw [eb, b] at g1
      exact g1
    · have hlt := bcN_lt (show c < nvC v by omega) b
      have hlg := LX_Fr f hl
      have pg : NetV g a v := NetV_keep (NetEq_Fr (fun x q => by omega) f) p
      have ag : hR g 199 0 = some a := by rw [f.2.2.2.1]; exact e0
      have h3 := p.1.2.2.1 c (by omega)
      have o1 := lt_of_pow h3.2.1 (by omega)
      have o2 := lt_of_pow h3.2.2.2 (by omega)
      have wl := lt_of_pow (wuN_lt p.1 r c (by omega)) (by omega)
      have vp : vp_in (nI (bcN (nvMy v r) c)) 40 := vp_in_nI (by omega) (by omega)
      rw [show bcN (nvMy v r) (nvC v) - bcN (nvMy v r) c + 1 = (bcN (nvMy v r) (nvC v) - (bcN (nvMy v r) c + 1) + 1) + 1 from by omega]
      unfold wX0_lookAt_64
      rw [r2, nI_add, r1]
      refine ⟨S_199 hlg, fun z => absurd z (nI_ge hlt (by omega)), fun _ => ⟨a, ag, pg.2.1, n_cycleOf1 (c := c) pg hr ⟨by omega, b, rfl⟩ ⟨fun z => absurd z (nI_pos (by omega)), fun _ => ?_⟩⟩⟩
      obtain ⟨w, w1, w2, w3, w4, w5, w6, w7⟩ := id pg.2.2.2.2.2.2.2
      have na := fun k a1 a2 a3 => (w1 k a1 a2 a3).2
      have w11 := na 11 (by omega) (by omega) (by omega)
      have w13 := na 13 (by omega) (by omega) (by omega)
      unfold NA at w11 w13
      rw [nI_clamp (show c < 2 ^ 31 by omega), nI_clamp (show bcN (nvMy v r) c < 2 ^ 31 by omega)]
      refine ⟨S_199 hlg, 200, R_199_3 hlg, a, ag, pg.2.1, w 11, (w1 11 (by omega) (by omega) (by omega)).1, nvC v, w2.2.2.2.2.2.2.1, vp_in_nI (by omega) (by omega), 40, S_200 hlg, vp, fun g2 eg2 => ?_⟩
      rw [(w6 c (by omega)).1] at eg2
      have f2 : Fr (fun b => 199 ≤ b ∧ b ≤ 202) g g2 := by rw [eg2]; exact Fr_sI ⟨by omega, by omega⟩
      have hl2 := LX_Fr f2 hlg
      refine ⟨201, R_199_4 hl2, w 13, by rw [f2.2.2.2.1]; exact (w1 13 (by omega) (by omega) (by omega)).1, nvC v, by rw [f2.2.1]; exact w2.2.2.2.2.2.2.2.2.1, vp_in_nI (by omega) (by omega), 40, S_201 hl2, vp, fun g3 eg3 => ?_⟩
      rw [Fr_I f2 (by omega), (w6 c (by omega)).2.2] at eg3
      have f3 : Fr (fun b => 199 ≤ b ∧ b ≤ 202) g2 g3 := by rw [eg3]; exact Fr_sI ⟨by omega, by omega⟩
      have hl3 := LX_Fr f3 hl2
      have p3 : NetV g3 a v := NetV_keep (NetEq_Fr (fun x q => by omega) (Fr_trans f2 f3)) pg
      have r13 : hI g3 199 1 = nI r := by rw [eg3, hI_sI, if_neg (by omega), eg2, hI_sI, if_neg (by omega)]; exact r1
      refine ⟨202, R_199_5 hl3, ?_⟩
      rw [r13]
      refine n_priceOf p3 (by omega) hr ⟨40, S_202 hl3, vp, fun g4 eg4 => ?_⟩
      have f4 : Fr (fun b => 199 ≤ b ∧ b ≤ 202) g3 g4 := by rw [eg4]; exact Fr_sI ⟨by omega, by omega⟩
      have hl4 := LX_Fr f4 hl3
      refine ⟨S_199 hl4, 200, R_199_3 hl4, 40, S_200 hl4, vp, 201, R_199_4 hl4, 40, S_201 hl4, vp, fun g5 eg5 => ?_⟩
      have a200 : hI g4 200 (bcN (nvMy v r) c) = nI (nvOn v c) := by rw [eg4, hI_sI, if_neg (by omega), eg3, hI_sI, if_neg (by omega), eg2, hI_sI, if_pos ⟨rfl, rfl⟩]
      have a201 : hI g4 201 (bcN (nvMy v r) c) = nI (nvCh v c) := by rw [eg4, hI_sI, if_neg (by omega), eg3, hI_sI, if_pos ⟨rfl, rfl⟩]
      have a202 : hI g4 202 (bcN (nvMy v r) c) = nI (nvPc v r c) := by rw [eg4, hI_sI, if_pos ⟨rfl, rfl⟩]
      have a6 : hI g4 199 6 = nI (wuN v r c) := by rw [eg4, hI_sI, if_neg (by omega), eg3, hI_sI, if_neg (by omega), eg2, hI_sI, if_neg (by omega)]; exact r6
      have oo : nvOn v c ||| nvCh v c < 1024 := Nat.or_lt_two_pow (n := 10) o1 o2
      rw [a200, a201, a6, nI_or (by omega) (by omega), nI_or (by omega) (by omega)] at eg5
      have f5 : Fr (fun b => 199 ≤ b ∧ b ≤ 202) g4 g5 := by rw [eg5]; exact Fr_sI ⟨by omega, by omega⟩
      have g1 := ih (c + 1) g5 (by omega) (Fr_trans f (Fr_trans f2 (Fr_trans f3 (Fr_trans f4 f5)))) (by rw [eg5, hI_sI, if_neg (by omega), eg4, hI_sI, if_neg (by omega)]; exact r13) (by rw [eg5, hI_sI, if_neg (by omega), eg4, hI_sI, if_neg (by omega), eg3, hI_sI, if_neg (by omega), eg2, hI_sI, if_neg (by omega)]; exact r2) (by rw [eg5, hI_sI, if_pos ⟨rfl, rfl⟩, ew, if_pos b]) (fun k hk hb => by
        by_cases q : k = c
        · rw [q, eg5, hI_sI, if_neg (by omega), hI_sI, if_neg (by omega), hI_sI, if_neg (by omega)]
          exact ⟨a200, a201, a202⟩
        · have ne : bcN (nvMy v r) k ≠ bcN (nvMy v r) c := fun y => q (ring_inj hb b y)
          rw [eg5, hI_sI, if_neg (by omega), hI_sI, if_neg (by omega), hI_sI, if_neg (by omega), eg4, hI_sI, if_neg (by omega), hI_sI, if_neg (by omega), hI_sI, if_neg (by omega), eg3, hI_sI, if_neg (by omega), hI_sI, if_neg (by omega), hI_sI, if_neg (by omega), eg2, hI_sI, if_neg (by omega), hI_sI, if_neg (by omega), hI_sI, if_neg (by omega)]
          exact rows k (by omega) hb)
      rw [eb, b] at g1
      exact g1
