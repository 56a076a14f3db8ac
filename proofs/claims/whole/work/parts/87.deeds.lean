/-! ===== deeds: what they come to, and the class's doing ===== -/
theorem bt_or (s l k : Nat) : bt (s ||| 2 ^ l) k = if k = l then 1 else bt s k := by
  by_cases q : k = l
  · rw [if_pos q, q]
    refine (bt_tb _ _).mpr ?_
    rw [Nat.testBit_or, Nat.testBit_two_pow_self, Bool.or_true]
  · rw [if_neg q]
    refine bt_eq_of ?_
    rw [Nat.testBit_or, Nat.testBit_two_pow_of_ne (fun e => q e.symm), Bool.or_false]
theorem bt_del (s l k : Nat) : bt (s ^^^ (s &&& 2 ^ l)) k = if k = l then 0 else bt s k := by
  by_cases q : k = l
  · rw [if_pos q, q]
    rcases bt01 (s ^^^ (s &&& 2 ^ l)) l with z | z
    · exact z
    · have z2 := (bt_tb _ _).mp z
      rw [Nat.testBit_xor, Nat.testBit_and, Nat.testBit_two_pow_self, Bool.and_true, Bool.xor_self] at z2
      exact absurd z2 (by decide)
  · rw [if_neg q]
    refine bt_eq_of ?_
    rw [Nat.testBit_xor, Nat.testBit_and, Nat.testBit_two_pow_of_ne (fun e => q e.symm), Bool.and_false, Bool.xor_false]
def fFail (l : Nat) : Option (Nat × Nat × Nat) → Option (Nat × Nat × Nat)
  | none => none
  | some (c, k, p) => if bt p l = 1 then none else some (c, k, p)
def fTake (c k : Nat) : Option (Nat × Nat × Nat) → Option (Nat × Nat × Nat)
  | none => none
  | some (d, j, p) => if d = c ∧ j = k then none else some (d, j, p)
def upW (W : Nat → Option (Nat × Nat × Nat)) (f : Option (Nat × Nat × Nat) → Option (Nat × Nat × Nat)) (i : Nat) : Nat → Option (Nat × Nat × Nat) := fun u => if u < i then f (W u) else W u
def clF (s : AS) (l i : Nat) : AS := (asR s, asF s ||| 2 ^ l, asC s, upW (asW s) (fFail l) i)
def clT (s : AS) (c i : Nat) : AS := (asR s, asF s, (fun x => if x = c then asC s c - 1 else asC s x), upW (asW s) (fTake c (asC s c - 1)) i)
def clM (s : AS) (l i : Nat) : AS := (asR s, asF s ^^^ (asF s &&& 2 ^ l), asC s, fun u => if 2 * l ≤ u ∧ u < 2 * l + i then none else asW s u)
def clL (s : AS) (c : Nat) : AS := (asR s, asF s, (fun x => if x = c then asC s c + 1 else asC s x), asW s)
noncomputable def dFail (v : NV) (s : AS) (l : Nat) : AS := tryS v (clF s l 20)
noncomputable def dTake (v : NV) (s : AS) (c : Nat) : AS := tryS v (clT s c 20)
noncomputable def dMend (v : NV) (s : AS) (l : Nat) : AS := tryS v (clM s l 2)
noncomputable def dLay (v : NV) (s : AS) (c : Nat) : AS := tryS v (clL s c)
def bgA (r : Nat) : AS := (r, 0, (fun _ => 0), fun _ => none)
def dRate (v : NV) (s : AS) (r : Nat) : AS := if nvMy v r = nvMy v (asR s) then (r, asF s, asC s, asW s) else bgA r
theorem upW_lt {W : Nat → Option (Nat × Nat × Nat)} {f : Option (Nat × Nat × Nat) → Option (Nat × Nat × Nat)} {u i : Nat} (h : u < i) : upW W f i u = f (W u) := if_pos h
theorem upW_ge {W : Nat → Option (Nat × Nat × Nat)} {f : Option (Nat × Nat × Nat) → Option (Nat × Nat × Nat)} {u i : Nat} (h : i ≤ u) : upW W f i u = W u := if_neg (by omega)
theorem upW_step (W : Nat → Option (Nat × Nat × Nat)) (f : Option (Nat × Nat × Nat) → Option (Nat × Nat × Nat)) (i : Nat) : (fun x => if x = i then f (W i) else upW W f i x) = upW W f (i + 1) := by
  funext x
  by_cases q : x = i
  · rw [if_pos q, upW_lt (by omega), q]
  · rw [if_neg q]
    by_cases z : x < i
    · rw [upW_lt z, upW_lt (by omega)]
    · rw [upW_ge (by omega), upW_ge (by omega)]
theorem upW_same {W : Nat → Option (Nat × Nat × Nat)} {f : Option (Nat × Nat × Nat) → Option (Nat × Nat × Nat)} {i : Nat} (e : f (W i) = W i) : upW W f (i + 1) = upW W f i := by
  funext x
  by_cases q : x = i
  · rw [q, upW_lt (by omega), upW_ge (by omega), e]
  · by_cases z : x < i
    · rw [upW_lt z, upW_lt (by omega)]
    · rw [upW_ge (by omega), upW_ge (by omega)]
theorem fFail_some {l c k p : Nat} {o : Option (Nat × Nat × Nat)} (e : fFail l o = some (c, k, p)) : o = some (c, k, p) := by
  cases o with
  | none => exact e
  | some t =>
    obtain ⟨d, j, q⟩ := t
    have e2 : (if bt q l = 1 then none else some (d, j, q)) = some (c, k, p) := e
    by_cases z : bt q l = 1
    · rw [if_pos z] at e2; exact absurd e2 (by simp)
    · rw [if_neg z] at e2; exact e2
theorem fTake_some {c0 k0 c k p : Nat} {o : Option (Nat × Nat × Nat)} (e : fTake c0 k0 o = some (c, k, p)) : o = some (c, k, p) ∧ ¬ (c = c0 ∧ k = k0) := by
  cases o with
  | none => exact absurd e (by simp [fTake])
  | some t =>
    obtain ⟨d, j, q⟩ := t
    have e2 : (if d = c0 ∧ j = k0 then none else some (d, j, q)) = some (c, k, p) := e
    by_cases z : d = c0 ∧ j = k0
    · rw [if_pos z] at e2; exact absurd e2 (by simp)
    · rw [if_neg z] at e2
      refine ⟨e2, ?_⟩
      injection e2 with e2
      injection e2 with e3 e4
      injection e4 with e4 e5
      rw [← e3, ← e4]
      exact z
theorem AsOK_clF {v : NV} {s : AS} {l : Nat} (hv : NvOK v) (ok : AsOK v s) (hl : l < nvL v) : AsOK v (clF s l 20) := by
  refine ⟨ok.1, Nat.or_lt_two_pow ok.2.1 (Nat.pow_lt_pow_right (by omega) hl), ok.2.2.1, fun u hu c k p e => ?_⟩
  have e2 : fFail l (asW s u) = some (c, k, p) := by
    have : upW (asW s) (fFail l) 20 u = some (c, k, p) := e
    rw [upW_lt hu] at this
    exact this
  have q := ok.2.2.2 u hu c k p (fFail_some e2)
  refine ⟨q.1, q.2.1, q.2.2.1, q.2.2.2.1, q.2.2.2.2.1, q.2.2.2.2.2.1, q.2.2.2.2.2.2.1, ?_⟩
  show bt (asF s ||| 2 ^ l) (u / 2) = 1
  rw [bt_or]
  by_cases z : u / 2 = l
  · rw [if_pos z]
  · rw [if_neg z]; exact q.2.2.2.2.2.2.2
theorem AsOK_clT {v : NV} {s : AS} {c0 : Nat} (ok : AsOK v s) (hc : 0 < asC s c0) : AsOK v (clT s c0 20) := by
  refine ⟨ok.1, ok.2.1, fun c hc2 => ?_, fun u hu c k p e => ?_⟩
  · have q := ok.2.2.1 c hc2
    show (if c = c0 then asC s c0 - 1 else asC s c) ≤ 9 ∧ (_ → (if c = c0 then asC s c0 - 1 else asC s c) = 0)
    by_cases z : c = c0
    · rw [if_pos z, ← z]
      exact ⟨by omega, fun y => by have := q.2 y; omega⟩
    · rw [if_neg z]; exact q
  · have e2 : fTake c0 (asC s c0 - 1) (asW s u) = some (c, k, p) := by
      have : upW (asW s) (fTake c0 (asC s c0 - 1)) 20 u = some (c, k, p) := e
      rw [upW_lt hu] at this
      exact this
    have e3 := fTake_some e2
    have q := ok.2.2.2 u hu c k p e3.1
    refine ⟨q.1, q.2.1, ?_, q.2.2.2.1, q.2.2.2.2.1, q.2.2.2.2.2.1, q.2.2.2.2.2.2.1, q.2.2.2.2.2.2.2⟩
    show k < (if c = c0 then asC s c0 - 1 else asC s c)
    have q3 := q.2.2.1
    by_cases z : c = c0
    · rw [if_pos z]
      rw [z] at q3
      have : k ≠ asC s c0 - 1 := fun y => e3.2 ⟨z, y⟩
      omega
    · rw [if_neg z]; exact q3
theorem AsOK_clM {v : NV} {s : AS} {l : Nat} (ok : AsOK v s) : AsOK v (clM s l 2) := by
  have le : asF s &&& 2 ^ l ≤ asF s := Nat.and_le_left
  refine ⟨ok.1, Nat.xor_lt_two_pow ok.2.1 (Nat.lt_of_le_of_lt le ok.2.1), ok.2.2.1, fun u hu c k p e => ?_⟩
  have e1 : (if 2 * l ≤ u ∧ u < 2 * l + 2 then none else asW s u) = some (c, k, p) := e
  by_cases z : 2 * l ≤ u ∧ u < 2 * l + 2
  · rw [if_pos z] at e1; exact absurd e1 (by simp)
  · rw [if_neg z] at e1
    have q := ok.2.2.2 u hu c k p e1
    refine ⟨q.1, q.2.1, q.2.2.1, q.2.2.2.1, q.2.2.2.2.1, q.2.2.2.2.2.1, q.2.2.2.2.2.2.1, ?_⟩
    show bt (asF s ^^^ (asF s &&& 2 ^ l)) (u / 2) = 1
    rw [bt_del, if_neg (by omega)]
    exact q.2.2.2.2.2.2.2
theorem AsOK_clL {v : NV} {s : AS} {c0 : Nat} (ok : AsOK v s) (hb : bt (asM v s) c0 = 1) (hc : asC s c0 < 9) : AsOK v (clL s c0) := by
  refine ⟨ok.1, ok.2.1, fun c hc2 => ?_, fun u hu c k p e => ?_⟩
  · have q := ok.2.2.1 c hc2
    show (if c = c0 then asC s c0 + 1 else asC s c) ≤ 9 ∧ (bt (asM v s) c = 0 → (if c = c0 then asC s c0 + 1 else asC s c) = 0)
    by_cases z : c = c0
    · rw [if_pos z, z]
      exact ⟨by omega, fun y => by omega⟩
    · rw [if_neg z]; exact q
  · have q := ok.2.2.2 u hu c k p e
    refine ⟨q.1, q.2.1, ?_, q.2.2.2.1, q.2.2.2.2.1, q.2.2.2.2.2.1, q.2.2.2.2.2.2.1, q.2.2.2.2.2.2.2⟩
    show k < (if c = c0 then asC s c0 + 1 else asC s c)
    have q3 := q.2.2.1
    by_cases z : c = c0
    · rw [if_pos z]
      rw [z] at q3
      omega
    · rw [if_neg z]; exact q3
theorem AsOK_bgA {v : NV} {r : Nat} (hr : r < 10) : AsOK v (bgA r) := ⟨hr, Nat.two_pow_pos _, fun _ _ => ⟨Nat.zero_le _, fun _ => rfl⟩, fun _ _ _ _ _ e => absurd e (by simp [bgA, asW])⟩
theorem AsOK_dRate {v : NV} {s : AS} {r : Nat} (ok : AsOK v s) (hr : r < 10) : AsOK v (dRate v s r) := by
  unfold dRate
  by_cases z : nvMy v r = nvMy v (asR s)
  · rw [if_pos z]
    have em : asM v (r, asF s, asC s, asW s) = asM v s := z
    refine ⟨hr, ok.2.1, fun c hc => ?_, fun u hu c k p e => ?_⟩
    · rw [em]; exact ok.2.2.1 c hc
    · rw [em]; exact ok.2.2.2 u hu c k p e
  · rw [if_neg z]
    exact AsOK_bgA hr
/-- what a deed changes: a state and the busy links -/
def SD (b x : Nat) : Prop := x = b ∨ x = b + 1 ∨ x = b + 2 ∨ x = 198
theorem SD_ST2 {b x : Nat} (h : ST2 b x) : SD b x := by
  unfold ST2 at h
  unfold SD
  omega
theorem NetV_SD {h g : MH} {a b : Nat} {v : NV} (hb : b ∈ stL) (f : Fr (SD b) h g) (p : NetV h a v) : NetV g a v :=
  NetV_keep (NetEq_Fr (fun x q => by have := stL_198 b hb; unfold SD at q; omega) f) p
theorem busy_keep {h g : MH} {S : Nat → Prop} (f : Fr S h g) (hs : ¬ S 198) (hz : ∀ k, k < 360 → hI h 198 k = 0) : ∀ k, k < 360 → hI g 198 k = 0 := fun k hk => (Fr_I f hs k).trans (hz k hk)
theorem fail35 {Q : Int32 → MH → Prop} {h : MH} {v : NV} {s : AS} {a b l : Nat} (hl : LX h) (ok : AsOK v s) (hv : NvOK v) (hb : b ∈ stL) (hl2 : l < nvL v) (hq : ∀ g, Fr (fun x => x = b + 2) h g → StV g b (encS (clF s l 20)) → wX7_tryLost 197 a b g (fun h11 => Q (nI 0) h11)) : ∀ n i g, i + n = 20 → Fr (fun x => x = b + 2) h g → StV g b (encS (clF s l i)) → wX7_failLink_35 Q (n + 1) 197 a b (nI l) (nI i) g := by
  have h4 := hv.1
  intro n
  induction n with
  | zero =>
    intro i g hi f ps
    have hi : i = 20 := by omega
    subst hi
    unfold wX7_failLink_35
    exact ⟨fun _ => ⟨S_197 (LX_Fr f hl), hq g f ps⟩, fun z => absurd (nI_le (by omega) (by omega)) z⟩
  | succ n ih =>
    intro i g hi f ps
    have hlg := LX_Fr f hl
    have st := st_S hlg hb
    have ew : hI g (b + 2) i = encW (asW s i) := (ps.2.2.2 i (by omega)).trans (congrArg encW (upW_ge (Nat.le_refl _)))
    unfold wX7_failLink_35
    simp only [nI_add]
    rw [nI_clamp (by omega)]
    refine ⟨fun z => absurd z (nI_ge (by omega) (by omega)), fun _ => ⟨st.1, b + 2, st.2.2.2.2, 20, st.2.2.1, vp_in_nI (by omega) (by omega), ?_⟩⟩
    rw [ew, encW_lt ok (by omega) (by omega)]
    have same : fFail l (asW s i) = asW s i → wX7_failLink_35 Q (n + 1) 197 a b (nI l) (nI (i + 1)) g := fun e => ih (i + 1) g (by omega) f (by
      have e2 : clF s l (i + 1) = clF s l i := by
        unfold clF
        rw [upW_same e]
      rw [e2]
      exact ps)
    refine ⟨fun z => same (by rw [z]; rfl), fun z => ⟨vp_in_nI (by omega) (by omega), ?_⟩⟩
    cases e : asW s i with
    | none => exact absurd e z
    | some t =>
      obtain ⟨c, k, p⟩ := t
      have aw := ok.2.2.2 i (by omega) c k p e
      have aw2 := (ok.2.2.1 c (by omega)).1
      rw [e] at same
      have es : encW (some (c, k, p)) = nI ((9 * c + k) * 1024 + p) := rfl
      have ef : fFail l (some (c, k, p)) = if bt p l = 1 then none else some (c, k, p) := rfl
      have bl := bt_lt p l
      have epa : nI ((9 * c + k) * 1024 + p) &&& nI 1023 = nI p := by
        rw [pk_andN (by omega) 10 (by decide), show ((9 * c + k) * 1024 + p) % 2 ^ 10 = p from by omega]
      unfold wX6_pathAt
      rw [es, epa]
      show (((nI p >>> (nI l &&& 31)) &&& nI 1) = 0 → _) ∧ (¬ (((nI p >>> (nI l &&& 31)) &&& nI 1) = 0) → _)
      rw [nI_bit (by omega) (by omega), nI_eq0 (by omega)]
      refine ⟨fun y => same (by rw [ef, if_neg (by omega)]), fun y => ⟨st.1, b + 2, st.2.2.2.2, 20, st.2.2.1, vp_in_nI (by omega) (by omega), fun _ e2 => ?_⟩⟩
      subst e2
      refine ih (i + 1) _ (by omega) (Fr_trans f (Fr_sI rfl)) ?_
      have e3 : clF s l (i + 1) = setW (clF s l i) i none := by
        have := upW_step (asW s) (fFail l) i
        rw [e, ef, if_pos (by omega)] at this
        unfold clF
        rw [← this]
        rfl
      rw [e3]
      exact StV_where (o := none) ps
theorem n_failLink {Q : Int32 → MH → Prop} {h : MH} {v : NV} {s : AS} {a b : Nat} {x : Int32} (hl : LX h) (p : NetV h a v) (ok : AsOK v s) (hb : b ∈ stL) (ps : StV h b (encS s)) (hz : ∀ k, k < 360 → hI h 198 k = 0) (k1 : (¬ ∃ l, isLk v x l) → Q (nI 1) h) (k2 : ∀ l, isLk v x l → bt (asF s) l = 1 → Q (nI 2) h) (k3 : ∀ l, isLk v x l → bt (asF s) l = 0 → ∀ g, Fr (SD b) h g → StV g b (encS (dFail v s l)) → (∀ k, k < 360 → hI g 198 k = 0) → Q (nI 0) g) : wX7_failLink 197 a b x h Q := by
  have h4 := p.1.1
  have st := st_S hl hb
  have s198 := stL_198 b hb
  refine ⟨p.2.1, ?_⟩
  rcases Classical.em (∃ l, isLk v x l) with ⟨l, hk⟩ | hk
  · refine n_hasLink1 p hk ⟨fun _ => ⟨st.1, ?_⟩, fun z => absurd z (by decide)⟩
    have j1 := k2 l hk
    have j2 := k3 l hk
    obtain ⟨hk1, rfl⟩ := hk
    have hp := pow_le10 (show l < 10 by omega)
    have lF := asF_lt ok (by omega)
    have bl := bt_lt (asF s) l
    have eF : hI h b 1 = nI (asF s) := ps.2.1
    refine n_failed hl ok (by omega) hb ps (by omega) ?_
    rw [nI_eq0 (by omega)]
    refine ⟨fun z => ⟨st.1, fun _ e => ⟨21, ?_⟩⟩, fun z => j1 (by omega)⟩
    rw [eF, nI_shl l (by omega), nI_or (by omega) (by omega)] at e
    subst e
    refine fail35 (LX_sI hl) ok p.1 hb hk1 (fun g f psg => ?_) 20 0 _ (by omega) (Fr_rfl _ _) ?_
    · have f2 : Fr (SD b) h g := Fr_trans (Fr_sI (Or.inl rfl)) (Fr_mono (fun x q => Or.inr (Or.inr (Or.inl q))) f)
      exact n_tryLost (LX_Fr f2 hl) (NetV_SD hb f2 p) (AsOK_clF p.1 ok hk1) hb psg (busy_keep f (by omega) (busy_keep (Fr_sI (S := fun x => x = b) rfl) (by omega) hz)) (fun g2 f3 ps3 hz3 => j2 z g2 (Fr_trans f2 (Fr_mono (fun x q => SD_ST2 q) f3)) ps3 hz3)
    · refine ⟨?_, ?_, fun k hk => ?_, fun k hk => ?_⟩
      · rw [hI_sI, if_neg (by omega)]; exact ps.1
      · rw [hI_sI, if_pos ⟨rfl, rfl⟩]; rfl
      · rw [hI_sI, if_neg (by omega)]; exact ps.2.2.1 k hk
      · rw [hI_sI, if_neg (by omega)]
        exact (ps.2.2.2 k hk).trans (congrArg encW (upW_ge (f := fFail l) (Nat.zero_le _)).symm)
  · exact n_hasLink0 p hk ⟨fun z => absurd nI_0 z, fun _ => k1 hk⟩
