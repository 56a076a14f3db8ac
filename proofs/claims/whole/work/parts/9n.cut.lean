/-! ===== cuts: by nodes and by links ===== -/
def sepN (v : NV) (a b w : Nat) : Prop := bt (comN v w (2 ^ a) (nvK v)) b = 0
def lvN (v : NV) (S : Nat) : Nat → Nat
  | 0 => 0
  | l + 1 => if bt S (nvF v l) = bt S (nvT v l) then lvN v S l else lvN v S l ||| 2 ^ l
theorem lvN_lt (v : NV) (S : Nat) : ∀ l, lvN v S l < 2 ^ l
  | 0 => Nat.one_pos
  | l + 1 => by
    have h1 := lvN_lt v S l
    have h2 : (2 : Nat) ^ (l + 1) = 2 ^ l + 2 ^ l := by rw [Nat.pow_succ]; omega
    unfold lvN
    by_cases q : bt S (nvF v l) = bt S (nvT v l)
    · rw [if_pos q]; omega
    · rw [if_neg q]; exact Nat.or_lt_two_pow (by omega) (by omega)
theorem lvN_bt (v : NV) (S : Nat) : ∀ n k, bt (lvN v S n) k = if k < n ∧ bt S (nvF v k) ≠ bt S (nvT v k) then 1 else 0
  | 0, k => by
    rw [if_neg (by omega)]
    show bt 0 k = 0
    unfold bt
    rw [Nat.zero_div]
  | n + 1, k => by
    have ih := lvN_bt v S n k
    unfold lvN
    by_cases q : bt S (nvF v n) = bt S (nvT v n)
    · rw [if_pos q, ih]
      by_cases z : k < n ∧ bt S (nvF v k) ≠ bt S (nvT v k)
      · rw [if_pos z, if_pos ⟨by omega, z.2⟩]
      · rw [if_neg z, if_neg (fun y => z ⟨by
          by_cases e : k = n
          · rw [e] at y; exact absurd q y.2
          · omega, y.2⟩)]
    · rw [if_neg q, bt_or, ih]
      by_cases e : k = n
      · rw [if_pos e, if_pos (by rw [e]; exact ⟨by omega, q⟩)]
      · rw [if_neg e]
        by_cases z : k < n ∧ bt S (nvF v k) ≠ bt S (nvT v k)
        · rw [if_pos z, if_pos ⟨by omega, z.2⟩]
        · rw [if_neg z, if_neg (fun y => z ⟨by omega, y.2⟩)]
theorem bt_pow (a k : Nat) : bt (2 ^ a) k = if k = a then 1 else 0 := by
  have h := bt_or 0 a k
  rw [Nat.zero_or] at h
  rw [h]
  by_cases q : k = a
  · rw [if_pos q, if_pos q]
  · rw [if_neg q, if_neg q]
    unfold bt
    rw [Nat.zero_div]
theorem enS_bt (v : NV) (l k : Nat) : bt (enS (nvF v) (nvT v) l) k = if k = nvF v l ∨ k = nvT v l then 1 else 0 := by
  unfold enS
  rw [bt_orN, bt_pow, bt_pow]
  by_cases q : k = nvF v l
  · rw [if_pos q, if_pos (Or.inl rfl), if_pos (Or.inl q)]
  · rw [if_neg q]
    by_cases q2 : k = nvT v l
    · rw [if_pos q2, if_pos (Or.inr rfl), if_pos (Or.inr q2)]
    · rw [if_neg q2, if_neg (fun y => by rcases y with y | y <;> omega), if_neg (fun y => by rcases y with y | y; exact q y; exact q2 y)]
/-- two sets that meet share a bit -/
theorem and_ne {x y : Nat} (h : x &&& y ≠ 0) : ∃ k, bt x k = 1 ∧ bt y k = 1 := by
  apply Classical.byContradiction
  intro n
  refine h (zero_of_bits (fun k => ?_))
  rcases bt01 (x &&& y) k with z | z
  · exact z
  · have z1 := (bt_tb _ _).mp z
    rw [Nat.testBit_and, Bool.and_eq_true] at z1
    exact absurd ⟨k, (bt_tb _ _).mpr z1.1, (bt_tb _ _).mpr z1.2⟩ n
theorem and_of {x y k : Nat} (h1 : bt x k = 1) (h2 : bt y k = 1) : x &&& y ≠ 0 := fun e => by
  have : (x &&& y).testBit k = true := by rw [Nat.testBit_and, (bt_tb _ _).mp h1, (bt_tb _ _).mp h2]; rfl
  rw [e, Nat.zero_testBit] at this
  exact absurd this (by decide)
theorem comL_sub {v : NV} {w S : Nat} (cl : ∀ l, l < nvL v → bt w l = 0 → bt S (nvF v l) = bt S (nvT v l)) {x : Nat} (hx : ∀ k, bt x k = 1 → bt S k = 1) : ∀ l, l ≤ nvL v → ∀ k, bt (comL v w x l) k = 1 → bt S k = 1
  | 0, _, k, h => hx k h
  | l + 1, hl, k, h => by
    have ih := comL_sub cl hx l (by omega)
    have e : comL v w x (l + 1) = if bt w l = 0 ∧ comL v w x l &&& enS (nvF v) (nvT v) l ≠ 0 then comL v w x l ||| enS (nvF v) (nvT v) l else comL v w x l := rfl
    by_cases q : bt w l = 0 ∧ comL v w x l &&& enS (nvF v) (nvT v) l ≠ 0
    · rw [e, if_pos q, bt_orN] at h
      by_cases z : bt (comL v w x l) k = 1
      · exact ih k z
      · have z2 : bt (enS (nvF v) (nvT v) l) k = 1 := by
          by_cases y : bt (enS (nvF v) (nvT v) l) k = 1
          · exact y
          · rw [if_neg (fun u => by rcases u with u | u; exact z u; exact y u)] at h
            omega
        obtain ⟨j, j1, j2⟩ := and_ne q.2
        have s1 := ih j j1
        have c1 := cl l (by omega) q.1
        rw [enS_bt] at j2 z2
        have both : bt S (nvF v l) = 1 ∧ bt S (nvT v l) = 1 := by
          by_cases y : j = nvF v l
          · rw [y] at s1; exact ⟨s1, by rw [← c1]; exact s1⟩
          · by_cases y2 : j = nvT v l
            · rw [y2] at s1; exact ⟨by rw [c1]; exact s1, s1⟩
            · rw [if_neg (fun u => by rcases u with u | u; exact y u; exact y2 u)] at j2
              omega
        by_cases y : k = nvF v l
        · rw [y]; exact both.1
        · by_cases y2 : k = nvT v l
          · rw [y2]; exact both.2
          · rw [if_neg (fun u => by rcases u with u | u; exact y u; exact y2 u)] at z2
            omega
    · rw [e, if_neg q] at h
      exact ih k h
theorem comN_sub {v : NV} {w S : Nat} (cl : ∀ l, l < nvL v → bt w l = 0 → bt S (nvF v l) = bt S (nvT v l)) {x : Nat} (hx : ∀ k, bt x k = 1 → bt S k = 1) : ∀ n k, bt (comN v w x n) k = 1 → bt S k = 1
  | 0, k, h => hx k h
  | n + 1, k, h => comL_sub cl (comN_sub cl hx n) _ (Nat.le_refl _) k h
/-- a set of nodes around the one: the links that leave it cut -/
theorem lv_sep {v : NV} {a b S : Nat} (ha : bt S a = 1) (hb : bt S b = 0) : sepN v a b (lvN v S (nvL v)) := by
  have cl : ∀ l, l < nvL v → bt (lvN v S (nvL v)) l = 0 → bt S (nvF v l) = bt S (nvT v l) := fun l hl h => by
    rw [lvN_bt] at h
    by_cases q : bt S (nvF v l) = bt S (nvT v l)
    · exact q
    · rw [if_pos ⟨hl, q⟩] at h; omega
  have hx : ∀ k, bt (2 ^ a) k = 1 → bt S k = 1 := fun k h => by
    rw [bt_pow] at h
    by_cases q : k = a
    · rw [q]; exact ha
    · rw [if_neg q] at h; omega
  unfold sepN
  rcases bt01 (comN v (lvN v S (nvL v)) (2 ^ a) (nvK v)) b with z | z
  · exact z
  · have := comN_sub cl hx _ b z
    omega
theorem comL_up (v : NV) (w x : Nat) : ∀ n l k, bt (comL v w x l) k = 1 → bt (comL v w x (l + n)) k = 1
  | 0, _, _, h => h
  | n + 1, l, k, h => by
    have ih := comL_up v w x n l k h
    show bt (comL v w x ((l + n) + 1)) k = 1
    unfold comL
    by_cases q : bt w (l + n) = 0 ∧ comL v w x (l + n) &&& enS (nvF v) (nvT v) (l + n) ≠ 0
    · rw [if_pos q, bt_orN, if_pos (Or.inl ih)]
    · rw [if_neg q]; exact ih
/-- what is come to is closed, so the links that leave it are among those aside -/
theorem come_lv {v : NV} (hv : NvOK v) {a w : Nat} (ha : a < nvK v) : ∀ l, l < nvL v → bt (lvN v (comN v w (2 ^ a) (nvK v)) (nvL v)) l = 1 → bt w l = 1 := by
  intro l hl h
  have fx : comR v w (comN v w (2 ^ a) (nvK v)) = comN v w (2 ^ a) (nvK v) := com_stable hv (w := w) ha 1
  rw [lvN_bt] at h
  rcases bt01 w l with z | z
  · exfalso
    have inn : ∀ k, (k = nvF v l ∨ k = nvT v l) → bt (comN v w (2 ^ a) (nvK v)) k = 1 → ∀ j, (j = nvF v l ∨ j = nvT v l) → bt (comN v w (2 ^ a) (nvK v)) j = 1 := fun k hk h1 j hj => by
      have b1 := comL_ge v w (comN v w (2 ^ a) (nvK v)) l k h1
      have b2 : bt (enS (nvF v) (nvT v) l) k = 1 := by rw [enS_bt, if_pos hk]
      have e : comL v w (comN v w (2 ^ a) (nvK v)) (l + 1) = if bt w l = 0 ∧ comL v w (comN v w (2 ^ a) (nvK v)) l &&& enS (nvF v) (nvT v) l ≠ 0 then comL v w (comN v w (2 ^ a) (nvK v)) l ||| enS (nvF v) (nvT v) l else comL v w (comN v w (2 ^ a) (nvK v)) l := rfl
      have b3 : bt (comL v w (comN v w (2 ^ a) (nvK v)) (l + 1)) j = 1 := by
        rw [e, if_pos ⟨z, and_of b1 b2⟩, bt_orN, if_pos (Or.inr (by rw [enS_bt, if_pos hj]))]
      have b4 := comL_up v w (comN v w (2 ^ a) (nvK v)) (nvL v - (l + 1)) (l + 1) j b3
      rw [show l + 1 + (nvL v - (l + 1)) = nvL v from by omega] at b4
      have b5 : bt (comR v w (comN v w (2 ^ a) (nvK v))) j = 1 := b4
      rw [fx] at b5
      exact b5
    by_cases q : bt (comN v w (2 ^ a) (nvK v)) (nvF v l) = bt (comN v w (2 ^ a) (nvK v)) (nvT v l)
    · rw [if_neg (fun y => y.2 q)] at h; omega
    · rcases bt01 (comN v w (2 ^ a) (nvK v)) (nvF v l) with y | y
      · rcases bt01 (comN v w (2 ^ a) (nvK v)) (nvT v l) with u | u
        · omega
        · have := inn _ (Or.inr rfl) u _ (Or.inl rfl)
          omega
      · have := inn _ (Or.inl rfl) y _ (Or.inr rfl)
        omega
  · exact z
theorem come_a (v : NV) (w a : Nat) : ∀ n, bt (comN v w (2 ^ a) n) a = 1
  | 0 => by show bt (2 ^ a) a = 1; rw [bt_pow, if_pos rfl]
  | n + 1 => comL_ge v w _ _ a (come_a v w a n)
/-- fewer links, or as many and a smaller number -/
def lexL (x y : Nat) : Prop := bcN x 10 < bcN y 10 ∨ (bcN x 10 = bcN y 10 ∧ x ≤ y)
theorem lex_rfl (x : Nat) : lexL x x := Or.inr ⟨rfl, Nat.le_refl _⟩
theorem lex_trans {x y z : Nat} (a : lexL x y) (b : lexL y z) : lexL x z := by
  unfold lexL at *
  omega
theorem lex_anti {x y : Nat} (a : lexL x y) (b : lexL y x) : x = y := by
  unfold lexL at *
  omega
theorem lex_sub {x y : Nat} (h : ∀ k, bt x k = 1 → bt y k = 1) : lexL x y := by
  have h1 := bcN_sub (a := x) (b := y) 10 (fun k _ => h k)
  have h2 : x &&& y = x := by
    apply Nat.eq_of_testBit_eq
    intro i
    rw [Nat.testBit_and]
    cases q : x.testBit i
    · rfl
    · rw [(bt_tb _ _).mp (h i ((bt_tb _ _).mpr q))]; rfl
  have h3 : x &&& y ≤ y := Nat.and_le_right
  unfold lexL
  omega
/-- the fewest links between two nodes -/
def isCut (v : NV) (a b x : Nat) : Prop := x < 2 ^ nvL v ∧ sepN v a b x ∧ ∀ w, w < 2 ^ nvL v → sepN v a b w → lexL x w
theorem cut_uniq {v : NV} {a b x y : Nat} (p : isCut v a b x) (q : isCut v a b y) : x = y := lex_anti (p.2.2 y q.1 q.2.1) (q.2.2 x p.1 p.2.1)
theorem full_sep {v : NV} {a b : Nat} (hab : a ≠ b) : sepN v a b (2 ^ nvL v - 1) := by
  have cl : ∀ l, l < nvL v → bt (2 ^ nvL v - 1) l = 0 → bt (2 ^ a) (nvF v l) = bt (2 ^ a) (nvT v l) := fun l hl h => by
    have : (2 ^ nvL v - 1).testBit l = true := by rw [Nat.testBit_two_pow_sub_one, decide_eq_true hl]
    have := (bt_tb _ _).mpr this
    omega
  unfold sepN
  rcases bt01 (comN v (2 ^ nvL v - 1) (2 ^ a) (nvK v)) b with z | z
  · exact z
  · have h := comN_sub cl (fun k hk => hk) _ b z
    rw [bt_pow, if_neg (fun y => hab y.symm)] at h
    omega
/-- over the sets of nodes below n -/
def ctI (v : NV) (a b x n : Nat) : Prop := x < 2 ^ nvL v ∧ sepN v a b x ∧ ∀ S, S < n → bt S a = 1 → bt S b = 0 → lexL x (lvN v S (nvL v))
theorem ctI_cut {v : NV} (hv : NvOK v) {a b x : Nat} (ha : a < nvK v) (h : ctI v a b x (2 ^ nvK v)) : isCut v a b x := by
  refine ⟨h.1, h.2.1, fun w hw hs => ?_⟩
  have l1 := comN_lt hv (w := w) (pow_ltK ha) (nvK v)
  refine lex_trans (h.2.2 _ l1 (come_a v w a _) hs) (lex_sub (fun k hk => ?_))
  by_cases q : k < nvL v
  · exact come_lv hv ha k q hk
  · rw [btz_hi (lvN_lt v (comN v w (2 ^ a) (nvK v)) (nvL v)) (by omega)] at hk
    omega
