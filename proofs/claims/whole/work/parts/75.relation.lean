/-! ===== the relation: abstract states, both sides ===== -/
/-- a state: rate, failed links, copies by cycle, where each unit runs (cycle, copy, path) -/
abbrev AS : Type := Nat × Nat × (Nat → Nat) × (Nat → Option (Nat × Nat × Nat))
def asR (s : AS) : Nat := s.1
def asF (s : AS) : Nat := s.2.1
def asC (s : AS) : Nat → Nat := s.2.2.1
def asW (s : AS) : Nat → Option (Nat × Nat × Nat) := s.2.2.2
def encW : Option (Nat × Nat × Nat) → Int32
  | none => -1
  | some (c, k, p) => nI ((9 * c + k) * 1024 + p)
def encS (s : AS) : Int32 × Int32 × (Nat → Int32) × (Nat → Int32) := (nI (asR s), nI (asF s), fun c => nI (asC s c), fun u => encW (asW s u))
def asM (v : NV) (s : AS) : Nat := nvMy v (asR s)
def AsOK (v : NV) (s : AS) : Prop := asR s < 10 ∧ asF s < 2 ^ nvL v ∧ (∀ c, c < 40 → asC s c ≤ 9 ∧ (bt (asM v s) c = 0 → asC s c = 0)) ∧
  ∀ u, u < 20 → ∀ c k p, asW s u = some (c, k, p) → c < nvC v ∧ bt (asM v s) c = 1 ∧ k < asC s c ∧ 0 < p ∧ p < 1024 ∧ u / 2 < nvL v ∧ u % 2 < nvW v (u / 2) ∧ bt (asF s) (u / 2) = 1
/-- the reference's three numbers for a unit -/
def runM (m : Nat) : Option (Nat × Nat × Nat) → Nat → Int32
  | none, _ => 0
  | some (c, _, _), 0 => nI (bcN m c + 1)
  | some (_, k, _), 1 => nI k
  | some (_, _, p), _ => nI p
def StM (v : NV) (s : AS) (f : Nat → Int32) : Prop := (∀ c, c < nvC v → bt (asM v s) c = 1 → f (bcN (asM v s) c) = nI (asC s c)) ∧ f 64 = nI (asF s) ∧ f 65 = nI (asR s) ∧ ∀ u j, u < 20 → j < 3 → f (66 + 3 * u + j) = runM (asM v s) (asW s u) j
/-- the reference's rings of a rate -/
def RgV (h : MH) (v : NV) (r : Nat) : Prop := hI h 223 23 = nI (bcN (nvMy v r) (nvC v)) ∧ ∀ c, c < nvC v → bt (nvMy v r) c = 1 → hI h 230 (bcN (nvMy v r) c) = nI (nvOn v c) ∧ hI h 231 (bcN (nvMy v r) c) = nI (nvCh v c) ∧ hI h 232 (bcN (nvMy v r) c) = nI (nvNd v c) ∧ hI h 233 (bcN (nvMy v r) c) = nI (nvPc v r c)
def MRow (f : Nat → Int32) (h : MH) : Prop := ∀ k, (k < 49 ∨ (1436 ≤ k ∧ k < 2337)) → hI h 224 k = f k
def FrL (h h1 : MH) : Prop := Fr (fun b => b = 223 ∨ (228 ≤ b ∧ b ≤ 233)) h h1 ∧ ∀ k, k ≠ 23 → hI h1 223 k = hI h 223 k
/-- a net's row in the reference: its numbers, and what is reckoned from it -/
def MNet (f : Nat → Int32) (v : NV) : Prop :=
  f 0 = nI (nvN v) ∧ f 1 = nI (nvK v) ∧ f 2 = nI (nvL v) ∧
  (∀ l, l < nvL v → f (9 + 2 * l) = nI (nvF v l) ∧ f (9 + 2 * l + 1) = nI (nvT v l) ∧ f (29 + l) = nI (nvO v l) ∧ f (39 + l) = nI (nvW v l)) ∧
  (∀ h r, LX h → r < 10 → MRow f h → hI h 224 114 = nI r → ∀ Q : MH → Prop, (∀ h1, FrL h h1 → RgV h1 v r → Q h1) → wX10_laysRings 223 h Q) ∧
  (∀ h c r, LX h → MRow f h → c < nvC v → r < 10 → ∀ Q : Int32 → MH → Prop, (∀ h1, Fr (fun b => 228 ≤ b ∧ b ≤ 229) h h1 → Q (nI (nvPc v r c)) h1) → wX10_costOf 223 (nI (nvOn v c)) (nI r) h Q) ∧
  (∀ h r c l, LX h → MRow f h → r < 64 → c < nvC v → l < nvL v → hI h 230 r = nI (nvOn v c) → bt (nvCh v c) l = 1 → ∀ Q : Int32 → MH → Prop, (∀ s t, ((s = nvPa v c l 0 ∧ t = nvPa v c l 1) ∨ (s = nvPa v c l 1 ∧ t = nvPa v c l 0)) → (nI (nvOn v c) &&& (nI s ^^^ (-1 : Int32))) = nI t → Q (nI s) h) → wX10_sideOf 223 (nI r) (nI l) h Q)
theorem MNet_cong {f g : Nat → Int32} {v : NV} (e : ∀ k, (k < 49 ∨ (1436 ≤ k ∧ k < 2337)) → g k = f k) (hv : nvL v ≤ 10) (p : MNet f v) : MNet g v := by
  obtain ⟨p1, p2, p3, p4, p5, p6, p7⟩ := p
  have er : ∀ h, MRow g h → MRow f h := fun h q k hk => (q k hk).trans (e k hk)
  refine ⟨by rw [e _ (by omega)]; exact p1, by rw [e _ (by omega)]; exact p2, by rw [e _ (by omega)]; exact p3, fun l hl => ?_, fun h r a b c => p5 h r a b (er h c), fun h c r a b => p6 h c r a (er h b), fun h r c l a b => p7 h r c l a (er h b)⟩
  rw [e _ (by omega), e _ (by omega), e _ (by omega), e _ (by omega)]
  exact p4 l hl
/-- all that the two sides hold: net, state, history, images -/
abbrev DV : Type := NV × AS × List AS × (Nat → Option (NV × AS))
def dN (d : DV) : NV := d.1
def dS (d : DV) : AS := d.2.1
def dH (d : DV) : List AS := d.2.2.1
def dI (d : DV) : Nat → Option (NV × AS) := d.2.2.2
def DOK (d : DV) : Prop := AsOK (dN d) (dS d) ∧ (∀ s ∈ dH d, AsOK (dN d) s) ∧ (dH d).length ≤ 10 ∧ ∀ t w s, dI d t = some (w, s) → AsOK w s
def ImC (h : MH) (t : Nat) : Option (NV × AS) → Prop
  | none => hR h 215 t = none
  | some (w, s) => ∃ a, hR h 215 t = some a ∧ NetV h a w ∧ StV h (217 + 3 * t) (encS s)
def ImM (h : MH) (t : Nat) : Option (NV × AS) → Prop
  | none => hI h 225 t = 0
  | some (w, s) => hI h 225 t = nI 1 ∧ nvL w ≤ 10 ∧ MNet (fun k => hI h 224 (2337 * (t + 1) + k)) w ∧ StM w s (fun k => hI h 224 (2337 * (t + 1) + 49 + k))
/-- what leaves the nets and what the covers keep as they are -/
def CvEq (h h1 : MH) : Prop := hN h ≤ hN h1 ∧ ∀ b, ((135 ≤ b ∧ b ≤ 145) ∨ (199 ≤ b ∧ b ≤ 204) ∨ (244 ≤ b ∧ b < hN h)) → hS h1 b = hS h b ∧ hI h1 b = hI h b ∧ hL h1 b = hL h b ∧ hR h1 b = hR h b
theorem CvEq_net {h h1 : MH} (p : CvEq h h1) : NetEq h h1 := ⟨p.1, fun b hb => by
  have e := p.2 b (by unfold NA at hb; omega)
  exact ⟨e.1, e.2.1, e.2.2.2, fun _ => e.2.2.1⟩⟩
theorem CvEq_Fr {S : Nat → Prop} {h h1 : MH} (hS : ∀ b, S b → (146 ≤ b ∧ b ≤ 198) ∨ (205 ≤ b ∧ b < 244)) (p : Fr S h h1) : CvEq h h1 := by
  refine ⟨Nat.le_of_eq p.1.symm, fun b hb => ⟨by rw [p.2.1], p.2.2.2.2 b (fun q => ?_), by rw [p.2.2.1], by rw [p.2.2.2.1]⟩⟩
  have := hS b q
  omega
def CP (CV : MH → Prop) (h : MH) (d : DV) : Prop := (∃ a, hR h 128 1 = some a ∧ NetV h a (dN d)) ∧ StV h 146 (encS (dS d)) ∧ (∃ p, HiV h p ((dH d).map encS)) ∧ (∀ t, t < 2 → ImC h t (dI d t)) ∧ (∀ k, k < 360 → hI h 198 k = 0) ∧ CV h
def MP (h : MH) (d : DV) : Prop := nvL (dN d) ≤ 10 ∧ MNet (hI h 224) (dN d) ∧ RgV h (dN d) (asR (dS d)) ∧ StM (dN d) (dS d) (fun k => hI h 224 (49 + k)) ∧ hI h 224 175 = nI (dH d).length ∧ (∀ i s, (dH d)[i]? = some s → StM (dN d) s (fun k => hI h 224 (176 + 126 * ((dH d).length - 1 - i) + k))) ∧ ∀ t, t < 2 → ImM h t (dI d t)
theorem RgV_row {h h1 : MH} {v : NV} {r : Nat} (e0 : hI h1 223 23 = hI h 223 23) (e1 : hI h1 230 = hI h 230) (e2 : hI h1 231 = hI h 231) (e3 : hI h1 232 = hI h 232) (e4 : hI h1 233 = hI h 233) (p : RgV h v r) : RgV h1 v r := by
  unfold RgV
  rw [e0, e1, e2, e3, e4]
  exact p
theorem MP_cong {h h1 : MH} {d : DV} (e0 : hI h1 223 23 = hI h 223 23) (e1 : hI h1 224 = hI h 224) (e5 : hI h1 225 = hI h 225) (e6 : ∀ b, 230 ≤ b → b ≤ 233 → hI h1 b = hI h b) (p : MP h d) : MP h1 d := by
  obtain ⟨p1, p2, p3, p4, p5, p6, p7⟩ := p
  refine ⟨p1, by rw [e1]; exact p2, RgV_row e0 (e6 230 (by omega) (by omega)) (e6 231 (by omega) (by omega)) (e6 232 (by omega) (by omega)) (e6 233 (by omega) (by omega)) p3, by rw [e1]; exact p4, by rw [e1]; exact p5, by rw [e1]; exact p6, fun t ht => ?_⟩
  have q := p7 t ht
  cases hd : dI d t with
  | none =>
    rw [hd] at q
    show hI h1 225 t = 0
    rw [e5]
    exact q
  | some w =>
    obtain ⟨w, s⟩ := w
    rw [hd] at q
    show hI h1 225 t = nI 1 ∧ _ ∧ MNet (fun k => hI h1 224 (2337 * (t + 1) + k)) w ∧ StM w s (fun k => hI h1 224 (2337 * (t + 1) + 49 + k))
    rw [e5, e1]
    exact q
theorem HiV_row {h h1 : MH} {p : Nat} {l : List (Int32 × Int32 × (Nat → Int32) × (Nat → Int32))} (e : ∀ b, 165 ≤ b → b ≤ 196 → hI h1 b = hI h b) (q : HiV h p l) : HiV h1 p l := by
  obtain ⟨q1, q2, q3, q4, q5⟩ := q
  refine ⟨q1, q2, by rw [e 165 (by omega) (by omega)]; exact q3, by rw [e 165 (by omega) (by omega)]; exact q4, fun i v hv => ?_⟩
  exact StV_row (e _ (by omega) (by omega)) (e _ (by omega) (by omega)) (e _ (by omega) (by omega)) (q5 i v hv)
theorem ImC_cong {h h1 : MH} {t : Nat} {o : Option (NV × AS)} (ht : t < 2) (q : NetEq h h1) (er : hR h1 215 t = hR h 215 t) (e : ∀ b, 217 ≤ b → b ≤ 222 → hI h1 b = hI h b) (p : ImC h t o) : ImC h1 t o := by
  cases o with
  | none => exact er.trans p
  | some w =>
    obtain ⟨w, s⟩ := w
    obtain ⟨a, p1, p2, p3⟩ := p
    exact ⟨a, er.trans p1, NetV_keep q p2, StV_row (e _ (by omega) (by omega)) (e _ (by omega) (by omega)) (e _ (by omega) (by omega)) p3⟩
theorem CP_cong {CV : MH → Prop} (ck : ∀ h h1, CvEq h h1 → CV h → CV h1) {h h1 : MH} {d : DV} (q : CvEq h h1) (er : hR h1 128 1 = hR h 128 1) (er2 : ∀ t, t < 2 → hR h1 215 t = hR h 215 t) (e : ∀ b, 146 ≤ b → b < 223 → hI h1 b = hI h b) (p : CP CV h d) : CP CV h1 d := by
  obtain ⟨⟨a, p1, p2⟩, p3, ⟨n, p4⟩, p5, p6, p7⟩ := p
  refine ⟨⟨a, er.trans p1, NetV_keep (CvEq_net q) p2⟩, StV_row (e _ (by omega) (by omega)) (e _ (by omega) (by omega)) (e _ (by omega) (by omega)) p3, ⟨n, HiV_row (fun b b1 b2 => e b (by omega) (by omega)) p4⟩, fun t ht => ImC_cong ht (CvEq_net q) (er2 t ht) (fun b b1 b2 => e b (by omega) (by omega)) (p5 t ht), fun k hk => ?_, ck h h1 q p7⟩
  rw [e 198 (by omega) (by omega)]
  exact p6 k hk
def SC (b : Nat) : Prop := 146 ≤ b ∧ b ≤ 198
def SM (b : Nat) : Prop := b = 223 ∨ b = 224 ∨ b = 225 ∨ (227 ≤ b ∧ b ≤ 240)
def FrM (h h1 : MH) : Prop := Fr SM h h1 ∧ ∀ k, 1 ≤ k → k ≤ 22 → hI h1 223 k = hI h 223 k
theorem FrM_rfl (h : MH) : FrM h h := ⟨Fr_rfl _ _, fun _ _ _ => rfl⟩
theorem FrM_trans {h h1 h2 : MH} (p : FrM h h1) (q : FrM h1 h2) : FrM h h2 := ⟨Fr_trans p.1 q.1, fun k a b => (q.2 k a b).trans (p.2 k a b)⟩
theorem FrM_sI {h : MH} {a k : Nat} {v : Int32} (ha : SM a) (hk : a = 223 → k = 0 ∨ 22 < k) : FrM h (sI h a k v) := ⟨Fr_sI ha, fun j a b => by rw [hI_sI, if_neg (by omega)]⟩
theorem FrM_Fr {S : Nat → Prop} {h h1 : MH} (hs : ∀ b, S b → SM b ∧ b ≠ 223) (p : Fr S h h1) : FrM h h1 := ⟨Fr_mono (fun b hb => (hs b hb).1) p, fun k _ _ => Fr_I p (fun q => (hs _ q).2 rfl) k⟩
theorem FrM_FrL {h h1 : MH} (p : FrL h h1) : FrM h h1 := ⟨Fr_mono (fun b hb => by unfold SM; omega) p.1, fun k _ hk => p.2 k (by omega)⟩
theorem TP_cong {h h1 : MH} (e1 : hI h1 129 = hI h 129) (e2 : hI h1 130 = hI h 130) (e3 : hI h1 226 = hI h 226) (e4 : hI h1 223 5 = hI h 223 5) (e5 : hI h1 223 13 = hI h 223 13) (e6 : hI h1 223 14 = hI h 223 14) (p : TP h) : TP h1 := by
  unfold TP
  rw [e1, e2, e3, e4, e5, e6]
  exact p
theorem TY_cong {h h1 : MH} (e1 : ∀ b, 207 ≤ b → b ≤ 214 → hI h1 b = hI h b) (e2 : hI h1 241 = hI h 241) (e3 : hI h1 242 = hI h 242) (e4 : hL h1 = hL h) (p : TY h) : TY h1 := by
  intro t ht
  have q := p t ht
  unfold TY1 at *
  rw [e1 _ (by omega) (by omega), e2, e3, e4]
  exact q
theorem TPY_SC {h h1 : MH} (f : Fr SC h h1) (p : TP h ∧ TY h) : TP h1 ∧ TY h1 := by
  have n : ∀ b, (b < 146 ∨ 198 < b) → ¬ SC b := fun b hb q => by unfold SC at q; omega
  refine ⟨TP_cong (f.2.2.2.2 _ (n _ (by omega))) (f.2.2.2.2 _ (n _ (by omega))) (f.2.2.2.2 _ (n _ (by omega))) ?_ ?_ ?_ p.1, TY_cong (fun b b1 b2 => f.2.2.2.2 _ (n _ (by omega))) (f.2.2.2.2 _ (n _ (by omega))) (f.2.2.2.2 _ (n _ (by omega))) f.2.2.1 p.2⟩
  · exact Fr_I f (n _ (by omega)) _
  · exact Fr_I f (n _ (by omega)) _
  · exact Fr_I f (n _ (by omega)) _
theorem TPY_FrM {h h1 : MH} (f : FrM h h1) (p : TP h ∧ TY h) : TP h1 ∧ TY h1 := by
  have n : ∀ b, (b < 223 ∨ b = 226 ∨ 240 < b) → ¬ SM b := fun b hb q => by unfold SM at q; omega
  exact ⟨TP_cong (f.1.2.2.2.2 _ (n _ (by omega))) (f.1.2.2.2.2 _ (n _ (by omega))) (f.1.2.2.2.2 _ (n _ (by omega))) (f.2 _ (by omega) (by omega)) (f.2 _ (by omega) (by omega)) (f.2 _ (by omega) (by omega)) p.1, TY_cong (fun b b1 b2 => f.1.2.2.2.2 _ (n _ (by omega))) (f.1.2.2.2.2 _ (n _ (by omega))) (f.1.2.2.2.2 _ (n _ (by omega))) f.1.2.2.1 p.2⟩
def RRc (CV : MH → Prop) (h : MH) : Prop := ∃ d, DOK d ∧ CP CV h d ∧ MP h d
theorem CP_FrM {CV : MH → Prop} (ck : ∀ h h1, CvEq h h1 → CV h → CV h1) {h h1 : MH} {d : DV} (f : FrM h h1) (p : CP CV h d) : CP CV h1 d := by
  have n : ∀ b, b < 223 → ¬ SM b := fun b hb q => by unfold SM at q; omega
  exact CP_cong ck (CvEq_Fr (fun b q => by unfold SM at q; omega) f.1) (by rw [f.1.2.2.2.1]) (fun t _ => by rw [f.1.2.2.2.1]) (fun b b1 b2 => f.1.2.2.2.2 b (n b b2)) p
theorem MP_SC {h h1 : MH} {d : DV} (f : Fr SC h h1) (p : MP h d) : MP h1 d := by
  have n : ∀ b, 198 < b → ¬ SC b := fun b hb q => by unfold SC at q; omega
  exact MP_cong (Fr_I f (n _ (by omega)) _) (f.2.2.2.2 _ (n _ (by omega))) (f.2.2.2.2 _ (n _ (by omega))) (fun b b1 b2 => f.2.2.2.2 _ (n _ (by omega))) p
/-- a step's end: the class moved to h1, the reference to h2 -/
theorem st_close {CV : MH → Prop} (ck : ∀ h h1, CvEq h h1 → CV h → CV h1) {h h1 h2 : MH} {d2 : DV} (hl : LX h) (ht : TP h ∧ TY h) (f1 : Fr SC h h1) (c1 : CP CV h1 d2) (f2 : FrM h1 h2) (m2 : MP h2 d2) (ok : DOK d2) : RLY (RRc CV) h2 := by
  have t := TPY_FrM f2 (TPY_SC f1 ht)
  exact ⟨LX_Fr f2.1 (LX_Fr f1 hl), t.1, t.2, d2, ok, CP_FrM ck f2 c1, m2⟩
theorem RRc_AgT {CV : MH → Prop} (ck : ∀ h h1, CvEq h h1 → CV h → CV h1) (h h2 : MH) (g : AgT h h2) (p : RRc CV h) : RRc CV h2 := by
  obtain ⟨d, ok, c, m⟩ := p
  obtain ⟨g1, g2, g3, g4, g5⟩ := g
  have ei : ∀ b, b ≠ 129 → b ≠ 130 → b ≠ 223 → b ≠ 226 → hI h2 b = hI h b := fun b b1 b2 b3 b4 => funext (fun k => g5 b k b2 b4 (fun q => b1 q.1) (fun q => b3 q.1))
  refine ⟨d, ok, CP_cong ck ⟨Nat.le_of_eq g1.symm, fun b hb => ⟨g2 b, ei b (by omega) (by omega) (by omega) (by omega), funext (g3 b), funext (g4 b)⟩⟩ (g4 _ _) (fun t _ => g4 _ _) (fun b b1 b2 => ei b (by omega) (by omega) (by omega) (by omega)) c, MP_cong (g5 _ _ (by omega) (by omega) (by omega) (by omega)) (ei _ (by omega) (by omega) (by omega) (by omega)) (ei _ (by omega) (by omega) (by omega) (by omega)) (fun b b1 b2 => ei b (by omega) (by omega) (by omega) (by omega)) m⟩
theorem RRc_AgY {CV : MH → Prop} (ck : ∀ h h1, CvEq h h1 → CV h → CV h1) (h h2 : MH) (g : AgY h h2) (p : RRc CV h) : RRc CV h2 := by
  obtain ⟨d, ok, c, m⟩ := p
  obtain ⟨g1, g2, g3, g4, g5⟩ := g
  have ei : ∀ b, (b < 207 ∨ 214 < b) → b ≠ 241 → b ≠ 242 → b ≠ 223 → hI h2 b = hI h b := fun b b1 b2 b3 b4 => funext (fun k => g5 b k (fun t ht => by omega) b2 b3 (fun q => b4 q.1))
  have el : ∀ b, (b < 207 ∨ 214 < b) → b ≠ 243 → hL h2 b = hL h b := fun b b1 b2 => funext (fun k => g4 b k (fun t ht => by omega) b2)
  refine ⟨d, ok, ?_, MP_cong (g5 _ _ (fun t ht => by omega) (by omega) (by omega) (by omega)) (ei _ (by omega) (by omega) (by omega) (by omega)) (ei _ (by omega) (by omega) (by omega) (by omega)) (fun b b1 b2 => ei b (by omega) (by omega) (by omega) (by omega)) m⟩
  obtain ⟨⟨a, p1, p2⟩, p3, ⟨n, p4⟩, p5, p6, p7⟩ := c
  have q : CvEq h h2 := ⟨Nat.le_of_eq g1.symm, fun b hb => ⟨g2 b, ei b (by omega) (by omega) (by omega) (by omega), el b (by omega) (by omega), funext (g3 b)⟩⟩
  refine ⟨⟨a, (g3 _ _).trans p1, NetV_keep (CvEq_net q) p2⟩, StV_row (ei _ (by omega) (by omega) (by omega) (by omega)) (ei _ (by omega) (by omega) (by omega) (by omega)) (ei _ (by omega) (by omega) (by omega) (by omega)) p3, ⟨n, HiV_row (fun b b1 b2 => ei b (by omega) (by omega) (by omega) (by omega)) p4⟩, fun t ht => ImC_cong ht (CvEq_net q) (g3 _ _) (fun b b1 b2 => ei b (by omega) (by omega) (by omega) (by omega)) (p5 t ht), fun k hk => ?_, ck h h2 q p7⟩
  rw [ei 198 (by omega) (by omega) (by omega) (by omega)]
  exact p6 k hk
