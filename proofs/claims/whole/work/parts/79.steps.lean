/-! ===== more steps that only read ===== -/
theorem sw6 {x : Int32} {Ao A0 A1 A2 A3 A4 A5 A6 : Prop} (k : ((x.toInt < 0 ∨ 6 < x.toInt) ∧ Ao) ∨ (x = nI 0 ∧ A0) ∨ (x = nI 1 ∧ A1) ∨ (x = nI 2 ∧ A2) ∨ (x = nI 3 ∧ A3) ∨ (x = nI 4 ∧ A4) ∨ (x = nI 5 ∧ A5) ∨ (x = nI 6 ∧ A6)) : (x.toInt < 0 ∨ 6 < x.toInt → Ao) ∧ (x = nI 0 → A0) ∧ (x = nI 1 → A1) ∧ (x = nI 2 → A2) ∧ (x = nI 3 → A3) ∧ (x = nI 4 → A4) ∧ (x = nI 5 → A5) ∧ (x = nI 6 → A6) := by
  rcases k with ⟨e, k⟩ | ⟨e, k⟩ | ⟨e, k⟩ | ⟨e, k⟩ | ⟨e, k⟩ | ⟨e, k⟩ | ⟨e, k⟩ | ⟨e, k⟩
  · exact ⟨fun _ => k, fun q => absurd q (ne_nI (n := 6) (by omega) e (by omega)), fun q => absurd q (ne_nI (n := 6) (by omega) e (by omega)), fun q => absurd q (ne_nI (n := 6) (by omega) e (by omega)), fun q => absurd q (ne_nI (n := 6) (by omega) e (by omega)), fun q => absurd q (ne_nI (n := 6) (by omega) e (by omega)), fun q => absurd q (ne_nI (n := 6) (by omega) e (by omega)), fun q => absurd q (ne_nI (n := 6) (by omega) e (by omega))⟩
  · subst e
    exact ⟨fun q => sw_out (n := 6) (by omega) (by omega) q, fun _ => k, fun q => sw_no (by omega) (by omega) (by omega) q, fun q => sw_no (by omega) (by omega) (by omega) q, fun q => sw_no (by omega) (by omega) (by omega) q, fun q => sw_no (by omega) (by omega) (by omega) q, fun q => sw_no (by omega) (by omega) (by omega) q, fun q => sw_no (by omega) (by omega) (by omega) q⟩
  · subst e
    exact ⟨fun q => sw_out (n := 6) (by omega) (by omega) q, fun q => sw_no (by omega) (by omega) (by omega) q, fun _ => k, fun q => sw_no (by omega) (by omega) (by omega) q, fun q => sw_no (by omega) (by omega) (by omega) q, fun q => sw_no (by omega) (by omega) (by omega) q, fun q => sw_no (by omega) (by omega) (by omega) q, fun q => sw_no (by omega) (by omega) (by omega) q⟩
  · subst e
    exact ⟨fun q => sw_out (n := 6) (by omega) (by omega) q, fun q => sw_no (by omega) (by omega) (by omega) q, fun q => sw_no (by omega) (by omega) (by omega) q, fun _ => k, fun q => sw_no (by omega) (by omega) (by omega) q, fun q => sw_no (by omega) (by omega) (by omega) q, fun q => sw_no (by omega) (by omega) (by omega) q, fun q => sw_no (by omega) (by omega) (by omega) q⟩
  · subst e
    exact ⟨fun q => sw_out (n := 6) (by omega) (by omega) q, fun q => sw_no (by omega) (by omega) (by omega) q, fun q => sw_no (by omega) (by omega) (by omega) q, fun q => sw_no (by omega) (by omega) (by omega) q, fun _ => k, fun q => sw_no (by omega) (by omega) (by omega) q, fun q => sw_no (by omega) (by omega) (by omega) q, fun q => sw_no (by omega) (by omega) (by omega) q⟩
  · subst e
    exact ⟨fun q => sw_out (n := 6) (by omega) (by omega) q, fun q => sw_no (by omega) (by omega) (by omega) q, fun q => sw_no (by omega) (by omega) (by omega) q, fun q => sw_no (by omega) (by omega) (by omega) q, fun q => sw_no (by omega) (by omega) (by omega) q, fun _ => k, fun q => sw_no (by omega) (by omega) (by omega) q, fun q => sw_no (by omega) (by omega) (by omega) q⟩
  · subst e
    exact ⟨fun q => sw_out (n := 6) (by omega) (by omega) q, fun q => sw_no (by omega) (by omega) (by omega) q, fun q => sw_no (by omega) (by omega) (by omega) q, fun q => sw_no (by omega) (by omega) (by omega) q, fun q => sw_no (by omega) (by omega) (by omega) q, fun q => sw_no (by omega) (by omega) (by omega) q, fun _ => k, fun q => sw_no (by omega) (by omega) (by omega) q⟩
  · subst e
    exact ⟨fun q => sw_out (n := 6) (by omega) (by omega) q, fun q => sw_no (by omega) (by omega) (by omega) q, fun q => sw_no (by omega) (by omega) (by omega) q, fun q => sw_no (by omega) (by omega) (by omega) q, fun q => sw_no (by omega) (by omega) (by omega) q, fun q => sw_no (by omega) (by omega) (by omega) q, fun q => sw_no (by omega) (by omega) (by omega) q, fun _ => k⟩
theorem sw8 {x : Int32} {Ao A0 A1 A2 A3 A4 A5 A6 A7 A8 : Prop} (k : ((x.toInt < 0 ∨ 8 < x.toInt) ∧ Ao) ∨ (x = nI 0 ∧ A0) ∨ (x = nI 1 ∧ A1) ∨ (x = nI 2 ∧ A2) ∨ (x = nI 3 ∧ A3) ∨ (x = nI 4 ∧ A4) ∨ (x = nI 5 ∧ A5) ∨ (x = nI 6 ∧ A6) ∨ (x = nI 7 ∧ A7) ∨ (x = nI 8 ∧ A8)) : (x.toInt < 0 ∨ 8 < x.toInt → Ao) ∧ (x = nI 0 → A0) ∧ (x = nI 1 → A1) ∧ (x = nI 2 → A2) ∧ (x = nI 3 → A3) ∧ (x = nI 4 → A4) ∧ (x = nI 5 → A5) ∧ (x = nI 6 → A6) ∧ (x = nI 7 → A7) ∧ (x = nI 8 → A8) := by
  rcases k with ⟨e, k⟩ | ⟨e, k⟩ | ⟨e, k⟩ | ⟨e, k⟩ | ⟨e, k⟩ | ⟨e, k⟩ | ⟨e, k⟩ | ⟨e, k⟩ | ⟨e, k⟩ | ⟨e, k⟩
  · exact ⟨fun _ => k, fun q => absurd q (ne_nI (n := 8) (by omega) e (by omega)), fun q => absurd q (ne_nI (n := 8) (by omega) e (by omega)), fun q => absurd q (ne_nI (n := 8) (by omega) e (by omega)), fun q => absurd q (ne_nI (n := 8) (by omega) e (by omega)), fun q => absurd q (ne_nI (n := 8) (by omega) e (by omega)), fun q => absurd q (ne_nI (n := 8) (by omega) e (by omega)), fun q => absurd q (ne_nI (n := 8) (by omega) e (by omega)), fun q => absurd q (ne_nI (n := 8) (by omega) e (by omega)), fun q => absurd q (ne_nI (n := 8) (by omega) e (by omega))⟩
  · subst e
    exact ⟨fun q => sw_out (n := 8) (by omega) (by omega) q, fun _ => k, fun q => sw_no (by omega) (by omega) (by omega) q, fun q => sw_no (by omega) (by omega) (by omega) q, fun q => sw_no (by omega) (by omega) (by omega) q, fun q => sw_no (by omega) (by omega) (by omega) q, fun q => sw_no (by omega) (by omega) (by omega) q, fun q => sw_no (by omega) (by omega) (by omega) q, fun q => sw_no (by omega) (by omega) (by omega) q, fun q => sw_no (by omega) (by omega) (by omega) q⟩
  · subst e
    exact ⟨fun q => sw_out (n := 8) (by omega) (by omega) q, fun q => sw_no (by omega) (by omega) (by omega) q, fun _ => k, fun q => sw_no (by omega) (by omega) (by omega) q, fun q => sw_no (by omega) (by omega) (by omega) q, fun q => sw_no (by omega) (by omega) (by omega) q, fun q => sw_no (by omega) (by omega) (by omega) q, fun q => sw_no (by omega) (by omega) (by omega) q, fun q => sw_no (by omega) (by omega) (by omega) q, fun q => sw_no (by omega) (by omega) (by omega) q⟩
  · subst e
    exact ⟨fun q => sw_out (n := 8) (by omega) (by omega) q, fun q => sw_no (by omega) (by omega) (by omega) q, fun q => sw_no (by omega) (by omega) (by omega) q, fun _ => k, fun q => sw_no (by omega) (by omega) (by omega) q, fun q => sw_no (by omega) (by omega) (by omega) q, fun q => sw_no (by omega) (by omega) (by omega) q, fun q => sw_no (by omega) (by omega) (by omega) q, fun q => sw_no (by omega) (by omega) (by omega) q, fun q => sw_no (by omega) (by omega) (by omega) q⟩
  · subst e
    exact ⟨fun q => sw_out (n := 8) (by omega) (by omega) q, fun q => sw_no (by omega) (by omega) (by omega) q, fun q => sw_no (by omega) (by omega) (by omega) q, fun q => sw_no (by omega) (by omega) (by omega) q, fun _ => k, fun q => sw_no (by omega) (by omega) (by omega) q, fun q => sw_no (by omega) (by omega) (by omega) q, fun q => sw_no (by omega) (by omega) (by omega) q, fun q => sw_no (by omega) (by omega) (by omega) q, fun q => sw_no (by omega) (by omega) (by omega) q⟩
  · subst e
    exact ⟨fun q => sw_out (n := 8) (by omega) (by omega) q, fun q => sw_no (by omega) (by omega) (by omega) q, fun q => sw_no (by omega) (by omega) (by omega) q, fun q => sw_no (by omega) (by omega) (by omega) q, fun q => sw_no (by omega) (by omega) (by omega) q, fun _ => k, fun q => sw_no (by omega) (by omega) (by omega) q, fun q => sw_no (by omega) (by omega) (by omega) q, fun q => sw_no (by omega) (by omega) (by omega) q, fun q => sw_no (by omega) (by omega) (by omega) q⟩
  · subst e
    exact ⟨fun q => sw_out (n := 8) (by omega) (by omega) q, fun q => sw_no (by omega) (by omega) (by omega) q, fun q => sw_no (by omega) (by omega) (by omega) q, fun q => sw_no (by omega) (by omega) (by omega) q, fun q => sw_no (by omega) (by omega) (by omega) q, fun q => sw_no (by omega) (by omega) (by omega) q, fun _ => k, fun q => sw_no (by omega) (by omega) (by omega) q, fun q => sw_no (by omega) (by omega) (by omega) q, fun q => sw_no (by omega) (by omega) (by omega) q⟩
  · subst e
    exact ⟨fun q => sw_out (n := 8) (by omega) (by omega) q, fun q => sw_no (by omega) (by omega) (by omega) q, fun q => sw_no (by omega) (by omega) (by omega) q, fun q => sw_no (by omega) (by omega) (by omega) q, fun q => sw_no (by omega) (by omega) (by omega) q, fun q => sw_no (by omega) (by omega) (by omega) q, fun q => sw_no (by omega) (by omega) (by omega) q, fun _ => k, fun q => sw_no (by omega) (by omega) (by omega) q, fun q => sw_no (by omega) (by omega) (by omega) q⟩
  · subst e
    exact ⟨fun q => sw_out (n := 8) (by omega) (by omega) q, fun q => sw_no (by omega) (by omega) (by omega) q, fun q => sw_no (by omega) (by omega) (by omega) q, fun q => sw_no (by omega) (by omega) (by omega) q, fun q => sw_no (by omega) (by omega) (by omega) q, fun q => sw_no (by omega) (by omega) (by omega) q, fun q => sw_no (by omega) (by omega) (by omega) q, fun q => sw_no (by omega) (by omega) (by omega) q, fun _ => k, fun q => sw_no (by omega) (by omega) (by omega) q⟩
  · subst e
    exact ⟨fun q => sw_out (n := 8) (by omega) (by omega) q, fun q => sw_no (by omega) (by omega) (by omega) q, fun q => sw_no (by omega) (by omega) (by omega) q, fun q => sw_no (by omega) (by omega) (by omega) q, fun q => sw_no (by omega) (by omega) (by omega) q, fun q => sw_no (by omega) (by omega) (by omega) q, fun q => sw_no (by omega) (by omega) (by omega) q, fun q => sw_no (by omega) (by omega) (by omega) q, fun q => sw_no (by omega) (by omega) (by omega) q, fun _ => k⟩
theorem ST_link_c {CV : MH → Prop} (ck : ∀ h h1, CvEq h h1 → CV h → CV h1) : ST_link (RLY (RRc CV)) := by
  intro y1 y2 h hr P kP
  obtain ⟨hl, t1, t2, d, ok, c, m⟩ := hr
  have cl := rd_close (x := nI 0) ck hl t1 t2 ok c m
  obtain ⟨⟨a, ca, cn⟩, cs, _⟩ := c
  have m2 := MP_thrown (x := nI 0) m
  have hl2 : LX (sI h 223 0 (nI 0)) := LX_sI hl
  have h4 := cn.1.1
  refine ⟨S_128 hl, a, ca, cn.2.1, ?_⟩
  rcases Classical.em (∃ l, isLk (dN d) y1 l) with ⟨l, hk⟩ | hk
  · obtain ⟨hk1, rfl⟩ := hk
    obtain ⟨w, w1, w2, w3, w4, w5, w6, w7⟩ := id cn.2.2.2.2.2.2.2
    have w3l := w3 l hk1
    have m3l := m2.2.1.2.2.2.1 l hk1
    have cp : nI l = nI l := rfl
    refine n_hasLink1 cn ⟨hk1, rfl⟩ ⟨fun _ => ?_, fun z => absurd z (by decide)⟩
    have emr : ∀ {A : Int32}, (∀ P2 : Int32 → MH → Prop, P2 A (sI h 223 0 (nI 0)) → wX10_link 223 (nI l) y2 h P2) → P A h := fun hm => kP _ _ (S_223 hl) (fun P2 k2 => hm P2 (k2 _ cl))
    have vp : vp_in (nI l) 10 := vp_in_nI (by omega) (by omega)
    rcases i32_split y2 6 (by omega) with ⟨j, hj, e⟩ | e
    · subst e
      have q : j = 0 ∨ j = 1 ∨ j = 2 ∨ j = 3 ∨ j = 4 ∨ j = 5 ∨ j = 6 := by omega
      rcases q with q | q | q | q | q | q | q <;> subst q
      · refine sw6 (Or.inr (Or.inl ⟨rfl, S_128 hl, a, ca, cn.2.1, w 4, (w1 4 (by omega) (by omega) (by omega)).1, 10, w2.1, vp, ?_⟩))
        rw [nI_clamp (by omega), w3l.1]
        refine emr (fun P2 k2 => ⟨S_223 hl, fun _ e => ?_⟩)
        subst e
        refine m_isLink1 hl2 (by omega) m2.2.1 ⟨hk1, rfl⟩ ⟨fun _ => sw6 (Or.inr (Or.inl ⟨rfl, S_223 hl2, u_endOf (k := 0) hl2 (by omega) (by omega) ?_⟩)), fun z => absurd z (by decide)⟩
        rw [Nat.add_zero, m3l.1]
        exact k2
      · refine sw6 (Or.inr (Or.inr (Or.inl ⟨rfl, S_128 hl, a, ca, cn.2.1, w 5, (w1 5 (by omega) (by omega) (by omega)).1, 10, w2.2.1, vp, ?_⟩)))
        rw [nI_clamp (by omega), w3l.2.1]
        refine emr (fun P2 k2 => ⟨S_223 hl, fun _ e => ?_⟩)
        subst e
        refine m_isLink1 hl2 (by omega) m2.2.1 ⟨hk1, rfl⟩ ⟨fun _ => sw6 (Or.inr (Or.inr (Or.inl ⟨rfl, S_223 hl2, u_endOf (k := 1) hl2 (by omega) (by omega) ?_⟩))), fun z => absurd z (by decide)⟩
        rw [m3l.2.1]
        exact k2
      · refine sw6 (Or.inr (Or.inr (Or.inr (Or.inl ⟨rfl, S_128 hl, a, ca, cn.2.1, w 6, (w1 6 (by omega) (by omega) (by omega)).1, 10, w2.2.2.1, vp, ?_⟩))))
        rw [nI_clamp (by omega), w3l.2.2.1]
        refine emr (fun P2 k2 => ⟨S_223 hl, fun _ e => ?_⟩)
        subst e
        refine m_isLink1 hl2 (by omega) m2.2.1 ⟨hk1, rfl⟩ ⟨fun _ => sw6 (Or.inr (Or.inr (Or.inr (Or.inl ⟨rfl, S_223 hl2, 224, R_223_1 hl2, 7011, S_224 hl2, ?_⟩)))), fun z => absurd z (by decide)⟩
        rw [nI_add, nI_clamp (by omega), m3l.2.2.1]
        exact ⟨vp_in_nI (by omega) (by omega), k2⟩
      · refine sw6 (Or.inr (Or.inr (Or.inr (Or.inr (Or.inl ⟨rfl, S_128 hl, a, ca, cn.2.1, w 7, (w1 7 (by omega) (by omega) (by omega)).1, 10, w2.2.2.2.1, vp, ?_⟩)))))
        rw [nI_clamp (by omega), w3l.2.2.2]
        refine emr (fun P2 k2 => ⟨S_223 hl, fun _ e => ?_⟩)
        subst e
        refine m_isLink1 hl2 (by omega) m2.2.1 ⟨hk1, rfl⟩ ⟨fun _ => sw6 (Or.inr (Or.inr (Or.inr (Or.inr (Or.inl ⟨rfl, S_223 hl2, 224, R_223_1 hl2, 7011, S_224 hl2, ?_⟩))))), fun z => absurd z (by decide)⟩
        rw [nI_add, nI_clamp (by omega), m3l.2.2.2]
        exact ⟨vp_in_nI (by omega) (by omega), k2⟩
      · refine sw6 (Or.inr (Or.inr (Or.inr (Or.inr (Or.inr (Or.inl ⟨rfl, S_128 hl, 146, R_128_2 hl, S_146 hl, n_failed hl ok.1 (by omega) (by decide) cs (by omega) ?_⟩))))))
        refine emr (fun P2 k2 => ⟨S_223 hl, fun _ e => ?_⟩)
        subst e
        exact m_isLink1 hl2 (by omega) m2.2.1 ⟨hk1, rfl⟩ ⟨fun _ => sw6 (Or.inr (Or.inr (Or.inr (Or.inr (Or.inr (Or.inl ⟨rfl, S_223 hl2, m_failed hl2 ok.1 (by omega) m2.2.2.2.1 (by omega) k2⟩)))))), fun z => absurd z (by decide)⟩
      · refine sw6 (Or.inr (Or.inr (Or.inr (Or.inr (Or.inr (Or.inr (Or.inl ⟨rfl, S_128 hl, a, ca, 146, R_128_2 hl, cn.2.1, n_usesLaid hl cn (by decide) cs hk1 ?_⟩)))))))
        refine emr (fun P2 k2 => ⟨S_223 hl, fun _ e => ?_⟩)
        subst e
        exact m_isLink1 hl2 (by omega) m2.2.1 ⟨hk1, rfl⟩ ⟨fun _ => sw6 (Or.inr (Or.inr (Or.inr (Or.inr (Or.inr (Or.inr (Or.inl ⟨rfl, S_223 hl2, m_usedFor hl2 cn.1 ok.1 m2.2.2.1 m2.2.2.2.1 hk1 k2⟩))))))), fun z => absurd z (by decide)⟩
      · refine sw6 (Or.inr (Or.inr (Or.inr (Or.inr (Or.inr (Or.inr (Or.inr ⟨rfl, S_128 hl, 197, R_128_6 hl, a, ca, 146, R_128_2 hl, S_197 hl, n_lostOf hl cn ok.1 (by decide) cs hk1 ?_⟩)))))))
        refine emr (fun P2 k2 => ⟨S_223 hl, fun _ e => ?_⟩)
        subst e
        exact m_isLink1 hl2 (by omega) m2.2.1 ⟨hk1, rfl⟩ ⟨fun _ => sw6 (Or.inr (Or.inr (Or.inr (Or.inr (Or.inr (Or.inr (Or.inr ⟨rfl, _, m_link119 hl2 cn.1 m2.2.1 ok.1 m2.2.2.2.1 hk1 k2 (nvW (dN d) l) 0 (by omega)⟩))))))), fun z => absurd z (by decide)⟩
    · refine sw6 (Or.inl ⟨e, emr (fun P2 k2 => ⟨S_223 hl, fun _ e2 => ?_⟩)⟩)
      subst e2
      exact m_isLink1 hl2 (by omega) m2.2.1 ⟨hk1, rfl⟩ ⟨fun _ => sw6 (Or.inl ⟨e, k2⟩), fun z => absurd z (by decide)⟩
  · refine n_hasLink0 cn hk ⟨fun z => absurd nI_0 z, fun _ => kP _ _ (S_223 hl) (fun P2 k2 => ⟨S_223 hl, fun _ e => ?_⟩)⟩
    subst e
    exact m_isLink0 hl2 (by omega) m2.2.1 hk ⟨fun z => absurd nI_0 z, fun _ => k2 _ cl⟩
/-! ringOf: the class's loop and the reference's find the same -/
theorem ringOf_n {Q : Int32 → MH → Prop} {h : MH} {v : NV} {t a : Nat} {x : Int32} {hi : MH} (hl : LX h) (ca : hR h 128 1 = some a) (p : NetV h a v) (ht : t < 10) (e0 : hI h 146 0 = nI t) (k1 : ∀ c, c < nvC v → bt (nvMy v t) c = 1 → x = nI (nvOn v c) → Q (nI (bcN (nvMy v t) c)) h) (k2 : (∀ c, c < nvC v → bt (nvMy v t) c = 1 → x ≠ nI (nvOn v c)) → Q (-1) h) : ∀ n c, c + n = nvC v → (∀ d, d < c → bt (nvMy v t) d = 1 → x ≠ nI (nvOn v d)) → wX9_ringOf_17 Q (bcN (nvMy v t) (nvC v) - bcN (nvMy v t) c + 1) 128 x (nI (bcN (nvMy v t) (nvC v))) (nI (bcN (nvMy v t) c)) h := by
  have h4 := p.1.1
  have hC := bcN_le (nvMy v t) (nvC v)
  obtain ⟨w, w1, w2, w3, w4, w5, w6, w7⟩ := id p.2.2.2.2.2.2.2
  intro n
  induction n with
  | zero =>
    intro c hc hno
    have hc : c = nvC v := by omega
    subst hc
    rw [Nat.sub_self]
    unfold wX9_ringOf_17
    exact ⟨fun _ => k2 hno, fun z => absurd (nI_le (Nat.le_refl _) (by omega)) z⟩
  | succ n ih =>
    intro c hc hno
    have e1 : bcN (nvMy v t) (c + 1) = bcN (nvMy v t) c + bt (nvMy v t) c := rfl
    rcases bt01 (nvMy v t) c with b | b
    · have g := ih (c + 1) (by omega) (fun d hd hb => by
        by_cases q : d = c
        · subst q; omega
        · exact hno d (by omega) hb)
      rw [e1, b] at g
      exact g
    · have hlt := bcN_lt (show c < nvC v by omega) b
      rw [show bcN (nvMy v t) (nvC v) - bcN (nvMy v t) c + 1 = (bcN (nvMy v t) (nvC v) - (bcN (nvMy v t) c + 1) + 1) + 1 from by omega]
      unfold wX9_ringOf_17
      rw [nI_add]
      refine ⟨fun z => absurd z (nI_ge hlt (by omega)), fun _ => ⟨S_128 hl, a, ca, 146, R_128_2 hl, S_146 hl, p.2.1, ?_⟩⟩
      rw [e0]
      refine n_cycleOf1 (c := c) p ht ⟨by omega, b, rfl⟩ ⟨fun z => absurd z (nI_pos (by omega)), fun _ => ⟨S_128 hl, a, ca, p.2.1, w 11, (w1 11 (by omega) (by omega) (by omega)).1, nvC v, w2.2.2.2.2.2.2.1, vp_in_nI (by omega) (by omega), ?_⟩⟩
      rw [nI_clamp (by omega), (w6 c (by omega)).1]
      refine ⟨fun z => ?_, fun z => k1 c (by omega) b z.symm⟩
      have g := ih (c + 1) (by omega) (fun d hd hb => by
        by_cases q : d = c
        · subst q; exact fun y => z y.symm
        · exact hno d (by omega) hb)
      rw [e1, b] at g
      exact g
theorem ringOf_m {Q : Int32 → MH → Prop} {h : MH} {v : NV} {t : Nat} {x : Int32} (hl : LX h) (hv : NvOK v) (p : RgV h v t) (k1 : ∀ c, c < nvC v → bt (nvMy v t) c = 1 → x = nI (nvOn v c) → Q (nI (bcN (nvMy v t) c)) h) (k2 : (∀ c, c < nvC v → bt (nvMy v t) c = 1 → x ≠ nI (nvOn v c)) → Q (-1) h) : ∀ n c, c + n = nvC v → (∀ d, d < c → bt (nvMy v t) d = 1 → x ≠ nI (nvOn v d)) → wX10_ringOf_7 Q (bcN (nvMy v t) (nvC v) - bcN (nvMy v t) c + 1) 223 x (nI (bcN (nvMy v t) c)) h := by
  have h4 := hv.1
  have hC := bcN_le (nvMy v t) (nvC v)
  intro n
  induction n with
  | zero =>
    intro c hc hno
    have hc : c = nvC v := by omega
    subst hc
    rw [Nat.sub_self]
    unfold wX10_ringOf_7
    rw [p.1]
    exact ⟨S_223 hl, fun _ => k2 hno, fun z => absurd (nI_le (Nat.le_refl _) (by omega)) z⟩
  | succ n ih =>
    intro c hc hno
    have e1 : bcN (nvMy v t) (c + 1) = bcN (nvMy v t) c + bt (nvMy v t) c := rfl
    rcases bt01 (nvMy v t) c with b | b
    · have g := ih (c + 1) (by omega) (fun d hd hb => by
        by_cases q : d = c
        · subst q; omega
        · exact hno d (by omega) hb)
      rw [e1, b] at g
      exact g
    · have hlt := bcN_lt (show c < nvC v by omega) b
      rw [show bcN (nvMy v t) (nvC v) - bcN (nvMy v t) c + 1 = (bcN (nvMy v t) (nvC v) - (bcN (nvMy v t) c + 1) + 1) + 1 from by omega]
      unfold wX10_ringOf_7
      rw [nI_add, p.1, nI_clamp (by omega)]
      refine ⟨S_223 hl, fun z => absurd z (nI_ge hlt (by omega)), fun _ => ⟨230, R_223_18 hl, 64, S_230 hl, vp_in_nI (by omega) (by omega), ?_⟩⟩
      rw [(p.2 c (by omega) b).1]
      refine ⟨fun z => ?_, fun z => k1 c (by omega) b z.symm⟩
      have g := ih (c + 1) (by omega) (fun d hd hb => by
        by_cases q : d = c
        · subst q; exact fun y => z y.symm
        · exact hno d (by omega) hb)
      rw [e1, b] at g
      exact g
theorem on_inj {v : NV} (hv : NvOK v) {c d : Nat} (hc : c < nvC v) (hd : d < nvC v) (e : nI (nvOn v c) = nI (nvOn v d)) : c = d := by
  have h4 := hv.1
  have o1 := lt_of_pow (hv.2.2.1 c hc).2.1 (by omega)
  have o2 := lt_of_pow (hv.2.2.1 d hd).2.1 (by omega)
  have e2 := (nI_eq (by omega) (by omega)).mp e
  rcases Nat.lt_trichotomy c d with q | q | q
  · have := hv.2.2.2.1 c d q hd; omega
  · exact q
  · have := hv.2.2.2.1 d c q hc; omega
theorem ST_ringOf_c {CV : MH → Prop} (ck : ∀ h h1, CvEq h h1 → CV h → CV h1) : ST_ringOf (RLY (RRc CV)) := by
  intro y1 h hr P kP
  obtain ⟨hl, t1, t2, d, ok, c, m⟩ := hr
  have cl := rd_close (x := nI 0) ck hl t1 t2 ok c m
  obtain ⟨⟨a, ca, cn⟩, cs, _⟩ := c
  have e0 : hI h 146 0 = nI (asR (dS d)) := cs.1
  have m2 := MP_thrown (x := nI 0) m
  have hl2 : LX (sI h 223 0 (nI 0)) := LX_sI hl
  refine ⟨S_128 hl, a, ca, 146, R_128_2 hl, S_146 hl, cn.2.1, ?_⟩
  rw [e0]
  refine n_ringCount cn ok.1.1 ⟨_, ringOf_n (hi := h) hl ca cn ok.1.1 e0 (fun c hc hb e => kP _ _ (S_223 hl) (fun P2 k2 => ⟨S_223 hl, fun _ e2 => ?_⟩)) (fun hno => kP _ _ (S_223 hl) (fun P2 k2 => ⟨S_223 hl, fun _ e2 => ?_⟩)) (nvC (dN d)) 0 (by omega) (fun _ hd => absurd hd (by omega))⟩
  · subst e2
    refine ⟨_, ringOf_m hl2 cn.1 m2.2.2.1 (fun c2 hc2 hb2 e2 => ?_) (fun hno => absurd e (hno c hc hb)) (nvC (dN d)) 0 (by omega) (fun _ hd => absurd hd (by omega))⟩
    rw [← on_inj cn.1 hc hc2 (e.symm.trans e2)]
    exact k2 _ cl
  · subst e2
    exact ⟨_, ringOf_m hl2 cn.1 m2.2.2.1 (fun c2 hc2 hb2 e2 => absurd e2 (hno c2 hc2 hb2)) (fun _ => k2 _ cl) (nvC (dN d)) 0 (by omega) (fun _ hd => absurd hd (by omega))⟩
