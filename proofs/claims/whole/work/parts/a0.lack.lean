/-! Part a0: the lack behind a ring, by threes. -/
def mixF (v : NV) (c : Nat) (f : Nat → Nat) (l k : Nat) : Nat := if k < l then fBh v c f k else f k
def minU (v : NV) (c : Nat) (f : Nat → Nat) (l : Nat) : Nat := if usN v c l ≤ f l then usN v c l else f l
theorem lakN_cong {v : NV} {f g : Nat → Nat} : ∀ n, (∀ k, k < n → k < nvL v → f k = g k) → lakN v f n = lakN v g n
  | 0, _ => rfl
  | n + 1, h => by
    have ih := lakN_cong n (fun k hk hk2 => h k (by omega) hk2)
    show lakN v f n + (if n < nvL v then f n else 0) * 3 ^ n = lakN v g n + (if n < nvL v then g n else 0) * 3 ^ n
    rw [ih]
    by_cases q : n < nvL v
    · rw [if_pos q, if_pos q, h n (by omega) q]
    · rw [if_neg q, if_neg q]
theorem mix_step {v : NV} {c l : Nat} {f : Nat → Nat} (hl : l < nvL v) : ∀ n, lakN v (mixF v c f (l + 1)) (l + 1 + n) + minU v c f l * 3 ^ l = lakN v (mixF v c f l) (l + 1 + n)
  | 0 => by
    show lakN v (mixF v c f (l + 1)) l + (if l < nvL v then mixF v c f (l + 1) l else 0) * 3 ^ l + minU v c f l * 3 ^ l = lakN v (mixF v c f l) l + (if l < nvL v then mixF v c f l l else 0) * 3 ^ l
    have e : lakN v (mixF v c f (l + 1)) l = lakN v (mixF v c f l) l := lakN_cong l (fun k hk _ => by
      unfold mixF
      rw [if_pos (by omega), if_pos (by omega)])
    rw [e, if_pos hl, if_pos hl, Nat.add_assoc, ← Nat.add_mul]
    congr 2
    have m1 : mixF v c f (l + 1) l = f l - usN v c l := by unfold mixF fBh; rw [if_pos (by omega)]
    have m2 : mixF v c f l l = f l := by unfold mixF; rw [if_neg (by omega)]
    rw [m1, m2]
    unfold minU
    by_cases q : usN v c l ≤ f l
    · rw [if_pos q]
      omega
    · rw [if_neg q]
      omega
  | n + 1 => by
    have ih := mix_step (c := c) (f := f) hl n
    show lakN v (mixF v c f (l + 1)) (l + 1 + n) + (if l + 1 + n < nvL v then mixF v c f (l + 1) (l + 1 + n) else 0) * 3 ^ (l + 1 + n) + minU v c f l * 3 ^ l = lakN v (mixF v c f l) (l + 1 + n) + (if l + 1 + n < nvL v then mixF v c f l (l + 1 + n) else 0) * 3 ^ (l + 1 + n)
    rw [show mixF v c f (l + 1) (l + 1 + n) = mixF v c f l (l + 1 + n) from by unfold mixF; rw [if_neg (by omega), if_neg (by omega)]]
    omega
theorem m_lackWith {Q : Int32 → MH → Prop} {h : MH} {v : NV} {r c : Nat} {f : Nat → Nat} (hl : LX h) (hv : NvOK v) (pn : MNet (hI h 224) v) (p : RgV h v r) (hc : c < nvC v) (hb : bt (nvMy v r) c = 1) (p3 : ∀ l, l < 10 → hI h 238 l = nI (3 ^ l)) (hf : ∀ l, l < nvL v → f l ≤ 2) (hq : Q (nI (lakN v (fBh v c f) 10)) h) : wX10_lackWith 223 (nI (lakN v f 10)) (nI (bcN (nvMy v r) c)) h Q := by
  have h4 := hv.1
  have lp : ∀ n l, l + n = nvL v → wX10_lackWith_5 Q (n + 1) 223 (nI (lakN v f 10)) (nI (bcN (nvMy v r) c)) (nI (lakN v (mixF v c f l) 10)) (nI l) h := by
    intro n
    induction n with
    | zero =>
      intro l hn
      unfold wX10_lackWith_5
      refine ⟨S_223 hl, 224, R_223_1 hl, 7011, S_224 hl, vp_in_nI (by omega) (by omega), ?_⟩
      rw [nI_clamp (by omega), pn.2.2.1]
      refine ⟨fun _ => ?_, fun z => absurd (nI_le (by omega) (by omega)) z⟩
      rw [lakN_cong (g := fBh v c f) 10 (fun k _ hk => by unfold mixF; rw [if_pos (by omega)])]
      exact hq
    | succ n ih =>
      intro l hn
      have hlL : l < nvL v := by omega
      have g := ih (l + 1) (by omega)
      have us := (us_cases hv hc hlL).1
      have f2 := hf l hlL
      have st := mix_step (v := v) (c := c) (f := f) hlL (9 - l)
      rw [show l + 1 + (9 - l) = 10 from by omega] at st
      unfold wX10_lackWith_5
      refine ⟨S_223 hl, 224, R_223_1 hl, 7011, S_224 hl, vp_in_nI (by omega) (by omega), ?_⟩
      rw [nI_clamp (by omega), pn.2.2.1]
      refine ⟨fun z => absurd z (nI_ge hlL (by omega)), fun _ => m_lackOf hl hv p3 hf hlL ⟨S_223 hl, m_useOf hl hv p hc hb hlL ?_⟩⟩
      have em : (if nI (usN v c l) ≤ nI (f l) then nI (usN v c l) else nI (f l)) = nI (minU v c f l) := by
        unfold minU
        by_cases q : usN v c l ≤ f l
        · rw [if_pos q, if_pos (nI_le q (by omega))]
        · rw [if_neg q, if_neg (nI_ge (by omega) (by omega))]
      rw [em]
      unfold wX10_lackWith_49
      refine ⟨S_223 hl, 238, R_223_29 hl, 10, S_238 hl, vp_in_nI (by omega) (by omega), fun v19 e19 => ?_⟩
      rw [nI_clamp (by omega), p3 l (by omega), nI_mul, nI_subN (by omega), show lakN v (mixF v c f l) 10 - minU v c f l * 3 ^ l = lakN v (mixF v c f (l + 1)) 10 from by omega] at e19
      rw [e19, nI_add]
      exact g
  have k0 := lp (nvL v) 0 (by omega)
  rw [lakN_cong (f := mixF v c f 0) (g := f) 10 (fun k _ hk => by unfold mixF; rw [if_neg (by omega)])] at k0
  exact ⟨_, k0⟩
