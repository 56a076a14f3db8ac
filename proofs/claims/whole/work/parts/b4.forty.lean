/-! Part b4: ten links make at most forty rings: the end. -/
def cntN (q : Nat → Nat) (x : Nat) : Nat → Nat
  | 0 => 0
  | k + 1 => cntN q x k + e01 (q k) x
def rtN (q : Nat → Nat) : Nat → Nat
  | 0 => 0
  | n + 1 => rtN q n + e01 (q n) n
def eQ (q : Nat → Nat) : Nat → Nat
  | 0 => 0
  | b + 1 => eQ q b + cntN q (q b) b
def lsQ (q : Nat → Nat) : Nat → List Nat
  | 0 => []
  | i + 1 => q i :: lsQ q i
def rsQ (q : Nat → Nat) : Nat → List Nat
  | 0 => []
  | i + 1 => if q i = i then i :: rsQ q i else rsQ q i
theorem cntL_Q {q : Nat → Nat} {x : Nat} : ∀ i, cntL x (lsQ q i) = cntN q x i
  | 0 => rfl
  | i + 1 => by
    show e01 (q i) x + cntL x (lsQ q i) = cntN q x i + e01 (q i) x
    rw [cntL_Q i]
    omega
theorem rsQ_len {q : Nat → Nat} : ∀ i, (rsQ q i).length = rtN q i
  | 0 => rfl
  | i + 1 => by
    show (if q i = i then i :: rsQ q i else rsQ q i).length = rtN q i + e01 (q i) i
    by_cases z : q i = i
    · rw [if_pos z, List.length_cons, rsQ_len i, z, e01_s]
    · rw [if_neg z, rsQ_len i, e01_n z, Nat.add_zero]
theorem rsQ_mem {q : Nat → Nat} {x : Nat} (hx : q x = x) : ∀ i, x < i → x ∈ rsQ q i
  | 0, h => absurd h (by omega)
  | i + 1, h => by
    unfold rsQ
    by_cases z : x = i
    · subst z; rw [if_pos hx]; exact List.mem_cons_self
    · have ih := rsQ_mem hx i (by omega)
      by_cases z2 : q i = i
      · rw [if_pos z2]; exact List.mem_cons_of_mem _ ih
      · rw [if_neg z2]; exact ih
theorem dfs_ok {q : Nat → Nat} (h : ∀ n, q n ≤ n ∧ q (q n) = q n) : ∀ k i, dfsL k i (lsQ q i) (rsQ q i) (eQ q i) = true → dfsL 0 (i + k) (lsQ q (i + k)) (rsQ q (i + k)) (eQ q (i + k)) = true
  | 0, _, z => z
  | k + 1, i, z => by
    have z : (dfsL k (i + 1) (i :: lsQ q i) (i :: rsQ q i) (eQ q i) && (rsQ q i).all (fun x => dfsL k (i + 1) (x :: lsQ q i) (rsQ q i) (eQ q i + cntL x (lsQ q i)))) = true := z
    rw [Bool.and_eq_true, List.all_eq_true] at z
    rw [show i + (k + 1) = i + 1 + k from by omega]
    refine dfs_ok h k (i + 1) ?_
    have c0 : ∀ j, j ≤ i → cntN q i j = 0 := by
      intro j
      induction j with
      | zero => intro _; rfl
      | succ j ih =>
        intro hj
        show cntN q i j + e01 (q j) i = 0
        have := (h j).1
        rw [ih (by omega), e01_n (by omega)]
    show dfsL k (i + 1) (q i :: lsQ q i) (if q i = i then i :: rsQ q i else rsQ q i) (eQ q i + cntN q (q i) i) = true
    by_cases y : q i = i
    · rw [if_pos y, y, c0 i (Nat.le_refl _)]
      exact z.1
    · rw [if_neg y]
      have hi := h i
      have := z.2 (q i) (rsQ_mem hi.2 i (by omega))
      rw [cntL_Q] at this
      exact this
def uQ (q : Nat → Nat) : Nat → Nat
  | 0 => 0
  | n + 1 => (if 2 ≤ cntN q (q n) 8 then 1 else 0) + uQ q n
theorem uL_Q {q : Nat → Nat} : ∀ n, uL (lsQ q 8) (lsQ q n) = uQ q n
  | 0 => rfl
  | n + 1 => by
    show (if 2 ≤ cntL (q n) (lsQ q 8) then 1 else 0) + uL (lsQ q 8) (lsQ q n) = _
    rw [uL_Q n, cntL_Q]
    rfl
def uS (q : Nat → Nat) : Nat → Nat
  | 0 => 0
  | n + 1 => if 2 ≤ cntN q (q n) 8 then uS q n ||| 2 ^ n else uS q n
theorem bt_uS {q : Nat → Nat} {j : Nat} : ∀ n, bt (uS q n) j = if j < n ∧ 2 ≤ cntN q (q j) 8 then 1 else 0
  | 0 => by rw [if_neg (by omega)]; exact bt_zz j
  | n + 1 => by
    have ih := bt_uS (q := q) (j := j) n
    unfold uS
    by_cases z : 2 ≤ cntN q (q n) 8
    · rw [if_pos z, bt_or]
      by_cases y : j = n
      · rw [if_pos y, if_pos (by rw [y]; exact ⟨by omega, z⟩)]
      · rw [if_neg y, ih]
        by_cases x : j < n ∧ 2 ≤ cntN q (q j) 8
        · rw [if_pos x, if_pos ⟨by omega, x.2⟩]
        · rw [if_neg x, if_neg (fun w => x ⟨by omega, w.2⟩)]
    · rw [if_neg z, ih]
      by_cases x : j < n ∧ 2 ≤ cntN q (q j) 8
      · rw [if_pos x, if_pos ⟨by omega, x.2⟩]
      · rw [if_neg x, if_neg (fun w => by
          by_cases y : j = n
          · rw [y] at w; exact z w.2
          · exact x ⟨by omega, w.2⟩)]
theorem bc_uS {q : Nat → Nat} : ∀ n, n ≤ 8 → bcN (uS q 8) n = uQ q n
  | 0, _ => rfl
  | n + 1, h => by
    show bcN (uS q 8) n + bt (uS q 8) n = (if 2 ≤ cntN q (q n) 8 then 1 else 0) + uQ q n
    rw [bc_uS n (by omega), bt_uS]
    by_cases z : 2 ≤ cntN q (q n) 8
    · rw [if_pos ⟨by omega, z⟩, if_pos z]; omega
    · rw [if_neg (fun w => z w.2), if_neg z]; omega
theorem five {q : Nat → Nat} (h : ∀ n, q n ≤ n ∧ q (q n) = q n) (h1 : 4 ≤ rtN q 8) (h2 : 14 ≤ eQ q 8 + rtN q 8) : bcN (uS q 8) 8 ≤ 5 := by
  have d := dfs_ok h 8 0 dfs_all
  have d : (decide ((rsQ q 8).length < 4) || (decide (eQ q 8 + (rsQ q 8).length < 14) || decide (uL (lsQ q 8) (lsQ q 8) ≤ 5))) = true := d
  rw [Bool.or_eq_true, Bool.or_eq_true, decide_eq_true_iff, decide_eq_true_iff, decide_eq_true_iff, rsQ_len, uL_Q] at d
  rw [bc_uS 8 (Nat.le_refl _)]
  omega
section LB
variable {f g : Nat → Nat}
theorem lab_ok : ∀ l n, lab f g l n ≤ n ∧ lab f g l (lab f g l n) = lab f g l n
  | 0, n => ⟨Nat.le_refl _, rfl⟩
  | l + 1, n => by
    have ih := lab_ok l
    have e : ∀ n, lab f g (l + 1) n = if lab f g l n = max (lab f g l (f l)) (lab f g l (g l)) then min (lab f g l (f l)) (lab f g l (g l)) else lab f g l n := fun _ => rfl
    have hm : lab f g l (min (lab f g l (f l)) (lab f g l (g l))) = min (lab f g l (f l)) (lab f g l (g l)) := by
      by_cases c : lab f g l (f l) ≤ lab f g l (g l)
      · rw [Nat.min_eq_left c]; exact (ih _).2
      · rw [Nat.min_eq_right (by omega)]; exact (ih _).2
    have a := ih n
    rw [e n]
    by_cases z : lab f g l n = max (lab f g l (f l)) (lab f g l (g l))
    · rw [if_pos z]
      refine ⟨by omega, ?_⟩
      rw [e, hm]
      by_cases y : min (lab f g l (f l)) (lab f g l (g l)) = max (lab f g l (f l)) (lab f g l (g l))
      · rw [if_pos y]
      · rw [if_neg y]
    · rw [if_neg z]
      refine ⟨a.1, ?_⟩
      rw [e, a.2, if_neg z]
theorem rt_lab : ∀ l, 8 + kcl f g l ≤ rtN (lab f g l) 8 + l
  | 0 => by
    have : rtN (lab f g 0) 8 = 8 := by
      have : ∀ n, rtN (lab f g 0) n = n := by
        intro n
        induction n with
        | zero => rfl
        | succ n ih =>
          show rtN (lab f g 0) n + e01 n n = n + 1
          rw [ih, e01_s]
      exact this 8
    show 8 + 0 ≤ _
    omega
  | l + 1 => by
    have ih := rt_lab l
    have e : ∀ n, lab f g (l + 1) n = if lab f g l n = max (lab f g l (f l)) (lab f g l (g l)) then min (lab f g l (f l)) (lab f g l (g l)) else lab f g l n := fun _ => rfl
    show 8 + (kcl f g l + (if lab f g l (f l) = lab f g l (g l) then 1 else 0)) ≤ rtN (lab f g (l + 1)) 8 + (l + 1)
    by_cases z : lab f g l (f l) = lab f g l (g l)
    · have eq : lab f g (l + 1) = lab f g l := by
        funext n
        rw [e, ← z, Nat.max_self, Nat.min_self]
        by_cases y : lab f g l n = lab f g l (f l)
        · rw [if_pos y, y]
        · rw [if_neg y]
      rw [if_pos z, eq]
      omega
    · rw [if_neg z]
      have k : ∀ n, rtN (lab f g l) n ≤ rtN (lab f g (l + 1)) n + (if max (lab f g l (f l)) (lab f g l (g l)) < n then 1 else 0) := by
        intro n
        induction n with
        | zero => exact Nat.zero_le _
        | succ n ihn =>
          show rtN (lab f g l) n + e01 (lab f g l n) n ≤ rtN (lab f g (l + 1)) n + e01 (lab f g (l + 1) n) n + _
          by_cases y : n = max (lab f g l (f l)) (lab f g l (g l))
          · have := e01_lt (lab f g l n) n
            rw [if_neg (by omega)] at ihn
            rw [if_pos (by omega)]
            omega
          · have le : e01 (lab f g l n) n ≤ e01 (lab f g (l + 1) n) n := by
              by_cases x : lab f g l n = n
              · rw [e, if_neg (by omega)]; exact Nat.le_refl _
              · rw [e01_n x]; omega
            by_cases w : max (lab f g l (f l)) (lab f g l (g l)) < n
            · rw [if_pos w] at ihn
              rw [if_pos (by omega)]
              omega
            · rw [if_neg w] at ihn
              rw [if_neg (by omega)]
              omega
      have k8 := k 8
      by_cases w : max (lab f g l (f l)) (lab f g l (g l)) < 8
      · rw [if_pos w] at k8; omega
      · rw [if_neg w] at k8; omega
end LB
/-! pairs -/
def eN (q : Nat → Nat) : Nat → Nat
  | 0 => 0
  | p + 1 => eN q p + (if p % 8 < p / 8 ∧ q (p % 8) = q (p / 8) then 1 else 0)
theorem eN_row {q : Nat → Nat} {b : Nat} : ∀ j, j ≤ 8 → eN q (8 * b + j) = eN q (8 * b) + cntN q (q b) (min j b)
  | 0, _ => by rw [Nat.zero_min]; rfl
  | j + 1, h => by
    show eN q (8 * b + j) + (if (8 * b + j) % 8 < (8 * b + j) / 8 ∧ q ((8 * b + j) % 8) = q ((8 * b + j) / 8) then 1 else 0) = _
    rw [show (8 * b + j) % 8 = j from by omega, show (8 * b + j) / 8 = b from by omega, eN_row j (by omega)]
    by_cases z : j < b
    · rw [Nat.min_eq_left (show j + 1 ≤ b by omega), Nat.min_eq_left (show j ≤ b by omega)]
      show _ = eN q (8 * b) + (cntN q (q b) j + e01 (q j) (q b))
      by_cases y : q j = q b
      · rw [if_pos ⟨z, y⟩, y, e01_s]; omega
      · rw [if_neg (fun w => y w.2), e01_n y]; omega
    · rw [if_neg (fun w => z w.1), Nat.min_eq_right (show b ≤ j + 1 by omega), Nat.min_eq_right (show b ≤ j by omega)]
      omega
theorem eN_Q {q : Nat → Nat} : ∀ b, b ≤ 8 → eN q (8 * b) = eQ q b
  | 0, _ => rfl
  | b + 1, h => by
    have := eN_row (q := q) (b := b) 8 (Nat.le_refl _)
    rw [show 8 * (b + 1) = 8 * b + 8 from by omega, this, eN_Q b (by omega), Nat.min_eq_right (by omega)]
    rfl
theorem bc_eN {q : Nat → Nat} {G : Nat} : ∀ P, (∀ p, p < P → bt G p = 1 → p % 8 < p / 8 ∧ q (p % 8) = q (p / 8)) → bcN G P ≤ eN q P
  | 0, _ => Nat.le_refl _
  | P + 1, h => by
    have ih := bc_eN P (fun p hp => h p (by omega))
    show bcN G P + bt G P ≤ eN q P + _
    rcases bt01 G P with b | b
    · omega
    · rw [if_pos (h P (by omega) b)]; omega
theorem bcN_or1 {G p : Nat} (h : bt G p = 0) : ∀ P, p < P → bcN (G ||| 2 ^ p) P = bcN G P + 1
  | 0, z => absurd z (by omega)
  | P + 1, z => by
    show bcN (G ||| 2 ^ p) P + bt (G ||| 2 ^ p) P = bcN G P + bt G P + 1
    rw [bt_or]
    by_cases y : P = p
    · subst y
      rw [if_pos rfl, h]
      have := bcN_cong (a := G ||| 2 ^ P) (b := G) P (fun j hj => by rw [bt_or, if_neg (by omega)])
      omega
    · rw [if_neg y, bcN_or1 h P (by omega)]
      omega
/-- no two links join the same nodes -/
def Sm (f g : Nat → Nat) (L : Nat) : Prop := ∀ i j, i < j → j < L → ¬ ((f i = f j ∧ g i = g j) ∨ (f i = g j ∧ g i = f j))
section PR
variable {f g : Nat → Nat} {L : Nat}
theorem bt_Gs {p : Nat} : ∀ l, bt (GsN f g l) p = 1 ↔ ∃ i, i < l ∧ prN (f i) (g i) = p
  | 0 => by
    show bt 0 p = 1 ↔ _
    rw [bt_zz]
    exact ⟨fun z => absurd z (by omega), fun ⟨i, z, _⟩ => absurd z (by omega)⟩
  | l + 1 => by
    have ih := bt_Gs (p := p) l
    show bt (GsN f g l ||| 2 ^ prN (f l) (g l)) p = 1 ↔ _
    rw [bt_or1, bt_pw, ih]
    constructor
    · rintro (⟨i, a, b⟩ | z)
      · exact ⟨i, by omega, b⟩
      · exact ⟨l, by omega, z.symm⟩
    · rintro ⟨i, a, b⟩
      by_cases y : i = l
      · subst y; exact Or.inr b.symm
      · exact Or.inl ⟨i, by omega, b⟩
theorem pr_ok {a b : Nat} (ha : a < 8) (hb : b < 8) (h : a ≠ b) : prN a b < 64 ∧ prN a b / 8 = max a b ∧ prN a b % 8 = min a b ∧ min a b < max a b ∧ wpN (prN a b) = 16 ^ a + 16 ^ b := by
  have e1 : prN a b / 8 = max a b := by unfold prN; omega
  have e2 : prN a b % 8 = min a b := by unfold prN; omega
  refine ⟨by unfold prN; omega, e1, e2, by omega, ?_⟩
  unfold wpN
  rw [e1, e2]
  by_cases c : a ≤ b
  · rw [Nat.max_eq_right c, Nat.min_eq_left c]; omega
  · rw [Nat.max_eq_left (by omega), Nat.min_eq_right (by omega)]
theorem pr_inj {a b c d : Nat} (h : a < 8 ∧ b < 8 ∧ a ≠ b) (h2 : c < 8 ∧ d < 8 ∧ c ≠ d) (e : prN a b = prN c d) : (a = c ∧ b = d) ∨ (a = d ∧ b = c) := by
  have x := pr_ok h.1 h.2.1 h.2.2
  have y := pr_ok h2.1 h2.2.1 h2.2.2
  rw [e] at x
  omega
theorem Gs_new (h : Lk f g L) (s : Sm f g L) {l : Nat} (hl : l < L) : bt (GsN f g l) (prN (f l) (g l)) = 0 := by
  rcases bt01 (GsN f g l) (prN (f l) (g l)) with z | z
  · exact z
  · obtain ⟨i, a, b⟩ := (bt_Gs l).mp z
    exact absurd (pr_inj (h.2 i (by omega)) (h.2 l hl) b) (s i l a hl)
theorem Gs_bc (h : Lk f g L) (s : Sm f g L) : ∀ l, l ≤ L → bcN (GsN f g l) 64 = l
  | 0, _ => bcN_zero 64 (fun l _ => bt_zz l)
  | l + 1, hl => by
    have e := h.2 l (by omega)
    show bcN (GsN f g l ||| 2 ^ prN (f l) (g l)) 64 = l + 1
    rw [bcN_or1 (Gs_new h s (by omega)) 64 (pr_ok e.1 e.2.1 e.2.2).1, Gs_bc h s l (by omega)]
theorem wl_cong {G H : Nat} : ∀ P, (∀ p, p < P → bt G p = bt H p) → wl G P = wl H P
  | 0, _ => rfl
  | P + 1, e => by
    unfold wl
    rw [wl_cong P (fun p hp => e p (by omega)), e P (by omega)]
theorem cL_ins {G p0 : Nat} (h0 : bt G p0 = 0) : ∀ P acc, p0 < P → cL (wl (G ||| 2 ^ p0) P) acc = cL (wl G P) acc + cL (wl G P) (acc + wpN p0)
  | 0, _, h => absurd h (by omega)
  | P + 1, acc, h => by
    unfold wl
    rw [bt_or]
    by_cases y : P = p0
    · subst y
      rw [if_pos rfl, if_pos rfl, h0, if_neg (by omega), wl_cong (G := G ||| 2 ^ P) (H := G) P (fun p hp => by rw [bt_or, if_neg (by omega)])]
      rfl
    · rw [if_neg y]
      have ih := fun acc => cL_ins h0 P acc (by omega)
      rcases bt01 G P with b | b
      · rw [b, if_neg (by omega), if_neg (by omega)]
        exact ih acc
      · rw [b, if_pos rfl, if_pos rfl]
        show cL (wl (G ||| 2 ^ p0) P) acc + cL (wl (G ||| 2 ^ p0) P) (acc + wpN P) = cL (wl G P) acc + cL (wl G P) (acc + wpN P) + (cL (wl G P) (acc + wpN p0) + cL (wl G P) (acc + wpN p0 + wpN P))
        rw [ih, ih, Nat.add_right_comm acc (wpN P) (wpN p0)]
        omega
theorem cL_mono {G H : Nat} : ∀ P acc, (∀ p, p < P → bt G p = 1 → bt H p = 1) → cL (wl G P) acc ≤ cL (wl H P) acc
  | 0, _, _ => Nat.le_refl _
  | P + 1, acc, h => by
    have ih := fun acc => cL_mono P acc (fun p hp => h p (by omega))
    unfold wl
    rcases bt01 G P with b | b
    · rw [b, if_neg (by omega)]
      by_cases z : bt H P = 1
      · rw [if_pos z]
        show _ ≤ cL (wl H P) acc + cL (wl H P) (acc + wpN P)
        have := ih acc
        omega
      · rw [if_neg z]; exact ih acc
    · rw [if_pos b, if_pos (h P (by omega) b)]
      show cL (wl G P) acc + cL (wl G P) (acc + wpN P) ≤ cL (wl H P) acc + cL (wl H P) (acc + wpN P)
      have := ih acc
      have := ih (acc + wpN P)
      omega
theorem wl_zero : ∀ P, wl 0 P = []
  | 0 => rfl
  | P + 1 => by
    unfold wl
    rw [bt_zz, if_neg (by omega)]
    exact wl_zero P
def p2B (f g : Nat → Nat) (acc l D : Nat) : Bool := decide ((acc + pkN f g D l) &&& mkS 8 = 0)
theorem two_cnt (h : Lk f g L) (s : Sm f g L) : ∀ l acc, l ≤ L → nS (p2B f g acc l) (2 ^ l) = cL (wl (GsN f g l) 64) acc
  | 0, acc, _ => by
    show 0 + (if p2B f g acc 0 0 = true then 1 else 0) = cL (wl 0 64) acc
    rw [wl_zero]
    show _ = if acc &&& mkS 8 = 0 then 1 else 0
    have e : p2B f g acc 0 0 = decide (acc &&& mkS 8 = 0) := rfl
    rw [e]
    by_cases z : acc &&& mkS 8 = 0
    · rw [if_pos z, if_pos (decide_eq_true z)]
    · rw [if_neg z, if_neg (fun w => z (of_decide_eq_true w))]
  | l + 1, acc, hl => by
    have e := h.2 l (by omega)
    have pr := pr_ok e.1 e.2.1 e.2.2
    show _ = cL (wl (GsN f g l ||| 2 ^ prN (f l) (g l)) 64) acc
    rw [cL_ins (Gs_new h s (by omega)) 64 acc pr.1, pr.2.2.2.2, ← two_cnt h s l acc (by omega), ← two_cnt h s l _ (by omega), nS_two]
    congr 1
    · refine nS_cong _ (fun D hD => ?_)
      unfold p2B
      have e : pkN f g D (l + 1) = pkN f g D l := by
        show pkN f g D l + bt D l * (16 ^ f l + 16 ^ g l) = _
        rw [bt_z hD, Nat.zero_mul, Nat.add_zero]
      rw [e]
    · refine nS_cong _ (fun D hD => ?_)
      show p2B f g acc (l + 1) (2 ^ l + D) = _
      unfold p2B
      have e : acc + pkN f g (2 ^ l + D) (l + 1) = acc + (16 ^ f l + 16 ^ g l) + pkN f g D l := by
        show acc + (pkN f g (2 ^ l + D) l + bt (2 ^ l + D) l * (16 ^ f l + 16 ^ g l)) = _
        rw [bt_top hD, pk_up l (Nat.le_refl _), Nat.one_mul]
        omega
      rw [e]
theorem cnt_2 {q : Nat → Nat} {a b x : Nat} (hab : a < b) (ha : q a = x) (hb : q b = x) : ∀ k, b < k → 2 ≤ cntN q x k := by
  have one : ∀ k, a < k → 1 ≤ cntN q x k := by
    intro k
    induction k with
    | zero => intro h; omega
    | succ k ih =>
      intro h
      show 1 ≤ cntN q x k + e01 (q k) x
      by_cases z : a = k
      · subst z; rw [ha, e01_s]; omega
      · have := ih (by omega); omega
  intro k
  induction k with
  | zero => intro h; omega
  | succ k ih =>
    intro h
    show 2 ≤ cntN q x k + e01 (q k) x
    by_cases z : b = k
    · subst z
      have := one b hab
      rw [hb, e01_s]; omega
    · have := ih (by omega); omega
theorem bt_aS {S p : Nat} : ∀ P, p < P → p % 8 < p / 8 → bt S (p / 8) = 1 → bt S (p % 8) = 1 → bt (aS S P) p = 1
  | 0, h, _, _, _ => absurd h (by omega)
  | P + 1, h, h1, h2, h3 => by
    unfold aS
    by_cases z : p = P
    · subst z
      rw [if_pos ⟨h1, h2, h3⟩, bt_or, if_pos rfl]
    · have ih := bt_aS P (by omega) h1 h2 h3
      by_cases y : P % 8 < P / 8 ∧ bt S (P / 8) = 1 ∧ bt S (P % 8) = 1
      · rw [if_pos y, bt_or, if_neg z]; exact ih
      · rw [if_neg y]; exact ih
theorem uS_lt {q : Nat → Nat} : ∀ n, uS q n < 2 ^ n
  | 0 => by show 0 < 1; omega
  | n + 1 => by
    have h1 := uS_lt (q := q) n
    have h2 : (2 : Nat) ^ (n + 1) = 2 ^ n + 2 ^ n := by rw [Nat.pow_succ]; omega
    unfold uS
    by_cases z : 2 ≤ cntN q (q n) 8
    · rw [if_pos z]; exact Nat.or_lt_two_pow (by omega) (by omega)
    · rw [if_neg z]; omega
/-- at most forty rings -/
theorem forty (h : Lk f g L) (s : Sm f g L) : nS (cyB f g L) (2 ^ L) ≤ 40 := by
  have hL := h.1
  by_cases k5 : kcl f g L ≤ 5
  · have a := even_le h L (fun _ => 0) (Nat.le_refl _)
    have b : nS (cyB f g L) (2 ^ L) ≤ nS (pE f g (fun _ => 0) L) (2 ^ L) := nS_le _ (fun D _ z => by
      have z := cyB_def.mp z
      unfold pE
      rw [allB_iff]
      intro n hn
      rw [decide_eq_true_iff, Nat.zero_add]
      have := z.2.1 n hn
      omega)
    have c : 2 ^ kcl f g L ≤ 2 ^ 5 := Nat.pow_le_pow_right (by omega) k5
    omega
  · have rt := rt_lab (f := f) (g := g) L
    have lk := lab_ok (f := f) (g := g) L
    have same := lab_same (f := f) (g := g) L
    have cover : ∀ p, p < 64 → bt (GsN f g L) p = 1 → p % 8 < p / 8 ∧ lab f g L (p % 8) = lab f g L (p / 8) := fun p _ z => by
      obtain ⟨i, a, b⟩ := (bt_Gs L).mp z
      have e := h.2 i a
      have pr := pr_ok e.1 e.2.1 e.2.2
      have sm := same i a
      rw [← b, pr.2.1, pr.2.2.1]
      refine ⟨pr.2.2.2.1, ?_⟩
      by_cases c : f i ≤ g i
      · rw [Nat.max_eq_right c, Nat.min_eq_left c]; exact sm
      · rw [Nat.max_eq_left (by omega), Nat.min_eq_right (by omega)]; exact sm.symm
    have e1 := bc_eN (q := lab f g L) 64 cover
    rw [Gs_bc h s L (Nat.le_refl _), show (64 : Nat) = 8 * 8 from rfl, eN_Q 8 (Nat.le_refl _)] at e1
    have kl : kcl f g L ≤ L := by
      have : ∀ l, kcl f g l ≤ l := by
        intro l
        induction l with
        | zero => exact Nat.le_refl _
        | succ l ih =>
          show kcl f g l + (if lab f g l (f l) = lab f g l (g l) then 1 else 0) ≤ l + 1
          by_cases z : lab f g l (f l) = lab f g l (g l)
          · rw [if_pos z]; omega
          · rw [if_neg z]; omega
      exact this L
    have u5 := five (q := lab f g L) lk (by omega) (by omega)
    have ul : uS (lab f g L) 8 < 256 := uS_lt 8
    have k := allB_ok 256 k5_all _ ul
    unfold k5B at k
    rw [Bool.or_eq_true, decide_eq_true_iff, decide_eq_true_iff] at k
    have k : cL (wl (aS (uS (lab f g L) 8) 64) 64) 0 ≤ 40 := by omega
    have b : nS (cyB f g L) (2 ^ L) ≤ nS (p2B f g 0 L) (2 ^ L) := nS_le _ (fun D _ z => by
      have z := cyB_def.mp z
      unfold p2B
      rw [decide_eq_true_iff, Nat.zero_add]
      have pk := pk_ok h (D := D)
      exact (nI_mask pk.1).mp (pk.2.2.mpr z.2.1))
    rw [two_cnt h s L 0 (Nat.le_refl _)] at b
    have m := cL_mono (G := GsN f g L) (H := aS (uS (lab f g L) 8) 64) 64 0 (fun p hp z => by
      have c := cover p hp z
      have p8 : p / 8 < 8 := by omega
      refine bt_aS 64 hp c.1 ?_ ?_
      · rw [bt_uS, if_pos ⟨p8, cnt_2 c.1 c.2 rfl 8 p8⟩]
      · have two : 2 ≤ cntN (lab f g L) (lab f g L (p % 8)) 8 := by
          rw [c.2]
          exact cnt_2 c.1 c.2 rfl 8 p8
        rw [bt_uS, if_pos ⟨by omega, two⟩])
    omega
end PR
