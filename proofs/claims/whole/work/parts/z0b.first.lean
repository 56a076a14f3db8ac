/-! Part z0b: the first heap. -/
def tnS : TN := ((1, 0, 0, 0), (fun _ => 0, fun _ => 0, fun _ => 0, fun _ => 0), (0, 0, 0, 0))
def csS : CD := (0, fun _ => 0)
theorem tnS_ok : TnOK tnS csS := by
  refine ⟨⟨by show 1 ≤ 1; omega, by show 1 ≤ 8; omega, by show 0 ≤ 10; omega, fun l hl => absurd hl (by show ¬ l < 0; omega)⟩, ⟨by show 0 ≤ 10; omega, fun l hl => absurd hl (by show ¬ l < 0; omega)⟩, fun i j _ hj => absurd hj (by show ¬ j < 0; omega), fun l hl => absurd hl (by show ¬ l < 0; omega), fun m hm => Or.inl ?_⟩
  unfold tnB tnE
  by_cases q : m = 0
  · rw [if_pos q, if_pos q]; rfl
  · rw [if_neg q, if_neg q]; rfl
theorem tnS_C : ofC tnS = 0 := nS_7 1 (by omega)
theorem gm1_z {k : Nat} (h : k < 2337) (h1 : k ≠ 1) : hI gm1 224 k = 0 := by
  show hI (sI qb 223 23 (nI 0)) 224 k = 0
  rw [hI_sI, if_neg (by omega)]
  show hI (sI qc 224 1 (nI 1)) 224 k = 0
  rw [hI_sI, if_neg (by omega)]
  show hI (rI q45 224 (filI (hI q45 224) 0 2337 0)) 224 k = 0
  rw [hI_rI, if_pos rfl]
  unfold filI
  rw [if_pos (by omega)]
theorem gm1_net : NetV gm1 135 (nvOf tnS csS) := by
  have eC : nvC (nvOf tnS csS) = 0 := tnS_C
  have e20 : 20 * nvC (nvOf tnS csS) = 0 := by rw [eC]
  refine ⟨nv_ok tnS_ok (by show 0 ≤ 1000; omega), S_135 LX_gm1, Or.inl ⟨by omega, by omega⟩, by show hI gm1 135 0 = nI 1; decide +kernel, by show hI gm1 135 2 = nI 0; decide +kernel, by show hI gm1 135 3 = nI 0; decide +kernel, ?_, fun k => if k ≤ 9 then k + 132 else k + 131, fun k k1 k2 k3 => ?_, ?_, fun l hl => absurd hl (by show ¬ l < 0; omega), fun r l _ hl => absurd hl (by show ¬ l < 0; omega), fun r hr => ?_, fun c hc => absurd hc (by omega), fun c l s hc => absurd hc (by omega)⟩
  · rw [eC]; decide +kernel
  · rcases (show k = 4 ∨ k = 5 ∨ k = 6 ∨ k = 7 ∨ k = 8 ∨ k = 9 ∨ k = 11 ∨ k = 12 ∨ k = 13 ∨ k = 14 by omega) with q | q | q | q | q | q | q | q | q | q <;> subst q
    · exact ⟨by show hR gm1 135 4 = some 136; decide +kernel, Or.inl ⟨by show 135 ≤ 136; omega, by show 136 ≤ 145; omega⟩⟩
    · exact ⟨by show hR gm1 135 5 = some 137; decide +kernel, Or.inl ⟨by show 135 ≤ 137; omega, by show 137 ≤ 145; omega⟩⟩
    · exact ⟨by show hR gm1 135 6 = some 138; decide +kernel, Or.inl ⟨by show 135 ≤ 138; omega, by show 138 ≤ 145; omega⟩⟩
    · exact ⟨by show hR gm1 135 7 = some 139; decide +kernel, Or.inl ⟨by show 135 ≤ 139; omega, by show 139 ≤ 145; omega⟩⟩
    · exact ⟨by show hR gm1 135 8 = some 140; decide +kernel, Or.inl ⟨by show 135 ≤ 140; omega, by show 140 ≤ 145; omega⟩⟩
    · exact ⟨by show hR gm1 135 9 = some 141; decide +kernel, Or.inl ⟨by show 135 ≤ 141; omega, by show 141 ≤ 145; omega⟩⟩
    · exact ⟨by show hR gm1 135 11 = some 142; decide +kernel, Or.inl ⟨by show 135 ≤ 142; omega, by show 142 ≤ 145; omega⟩⟩
    · exact ⟨by show hR gm1 135 12 = some 143; decide +kernel, Or.inl ⟨by show 135 ≤ 143; omega, by show 143 ≤ 145; omega⟩⟩
    · exact ⟨by show hR gm1 135 13 = some 144; decide +kernel, Or.inl ⟨by show 135 ≤ 144; omega, by show 144 ≤ 145; omega⟩⟩
    · exact ⟨by show hR gm1 135 14 = some 145; decide +kernel, Or.inl ⟨by show 135 ≤ 145; omega, by show 145 ≤ 145; omega⟩⟩
  · rw [e20, eC]
    exact ⟨S_136 LX_gm1, S_137 LX_gm1, S_138 LX_gm1, S_139 LX_gm1, S_140 LX_gm1, S_141 LX_gm1, S_142 LX_gm1, S_143 LX_gm1, S_144 LX_gm1, S_145 LX_gm1⟩
  · have e : nvMy (nvOf tnS csS) r = 0 := by
      show myN (fun c => mbC tnS csS r (ofOn tnS c) (ofCh tnS (ofOn tnS c))) (ofC tnS) = 0
      rw [tnS_C]
      rfl
    rw [e]
    have k : ∀ r, r < 10 → hL gm1 141 r = lN 0 := by decide +kernel
    exact k r hr
theorem RRc_gm1 {lp : NV → Nat → Nat → Nat} : RRc (CVA lp 0) gm1 := by
  have eC : nvC (nvOf tnS csS) = 0 := tnS_C
  have e2 : ∀ t, t < 2 → hR gm1 215 t = none ∧ hI gm1 225 t = 0 := by decide +kernel
  have k147 : ∀ k, k < 40 → hI gm1 147 k = nI 0 := by decide +kernel
  have k148 : ∀ k, k < 20 → hI gm1 148 k = -1 := by decide +kernel
  have k198 : ∀ k, k < 360 → hI gm1 198 k = 0 := by decide +kernel
  refine ⟨(nvOf tnS csS, as0 0, [], fun _ => none), ⟨⟨by show 0 < 10; omega, by show 0 < 2 ^ 0; decide, fun k _ => ⟨Nat.zero_le _, fun _ => rfl⟩, fun u _ c k p z => absurd z (by simp [asW, dS, as0])⟩, fun s hs => absurd hs (by simp [dH]), by simp [dH], fun t w s z => absurd z (by simp [dI])⟩, ⟨⟨135, by decide +kernel, gm1_net⟩, ⟨by show hI gm1 146 0 = nI 0; decide +kernel, by show hI gm1 146 1 = nI 0; decide +kernel, k147, k148⟩, ⟨0, by omega, by simp [dH], by show hI gm1 165 1 = nI 0; decide +kernel, by show hI gm1 165 2 = nI 0; decide +kernel, fun i w hw => absurd hw (by simp [dH])⟩, fun t ht => (e2 t ht).1, k198, 0, 203, by omega, by show hL gm1 199 8 = lN 0; decide +kernel, by show hR gm1 199 7 = some 203; decide +kernel, Or.inl rfl, Or.inl ⟨by show hR gm1 199 0 = none; decide +kernel, rfl⟩⟩, by show 0 ≤ 10; omega, ?_, ⟨?_, fun c hc => absurd hc (by rw [show nvC (dN ((nvOf tnS csS, as0 0, [], fun _ => none) : DV)) = 0 from eC]; omega)⟩, ⟨fun c hc => absurd hc (by rw [show nvC (dN ((nvOf tnS csS, as0 0, [], fun _ => none) : DV)) = 0 from eC]; omega), ?_, ?_, fun u j hu hj => ?_⟩, ?_, fun i s hs => absurd hs (by simp [dH]), fun t ht => (e2 t ht).2⟩
  · refine MNet_of (by show 0 ≤ 900; omega) tnS_ok ⟨?_, ?_, ?_⟩ (fun m hm => ?_) (fun l hl => absurd hl (by show ¬ l < 0; omega)) (fun i hi => absurd hi (by show ¬ i < 0; omega))
    · rw [gm1_z (by omega) (by omega)]; exact nI_0.symm
    · show hI gm1 224 1 = nI 1
      decide +kernel
    · rw [gm1_z (by omega) (by omega)]; exact nI_0.symm
    · rw [gm1_z (by omega) (by omega), gm1_z (by omega) (by omega), gm1_z (by omega) (by omega)]
      have eB : tnB tnS m = 0 := by
        unfold tnB
        by_cases q : m = 0
        · rw [if_pos q]; rfl
        · rw [if_neg q]; rfl
      have eE : tnE tnS m = 0 := by
        unfold tnE
        by_cases q : m = 0
        · rw [if_pos q]; rfl
        · rw [if_neg q]; rfl
      rw [eB, eE, if_neg (by omega)]
      exact ⟨rfl, nI_0.symm, nI_0.symm⟩
  · rw [show nvC (dN ((nvOf tnS csS, as0 0, [], fun _ => none) : DV)) = 0 from eC]
    show hI gm1 223 23 = nI 0
    decide +kernel
  · show hI gm1 224 113 = nI 0
    rw [gm1_z (by omega) (by omega)]; exact nI_0.symm
  · show hI gm1 224 114 = nI 0
    rw [gm1_z (by omega) (by omega)]; exact nI_0.symm
  · show hI gm1 224 (49 + (66 + 3 * u + j)) = 0
    exact gm1_z (by omega) (by omega)
  · show hI gm1 224 175 = nI 0
    rw [gm1_z (by omega) (by omega)]; exact nI_0.symm
