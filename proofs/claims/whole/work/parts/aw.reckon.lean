/-! Part aw: both sides work out a law. -/
theorem nI_mm2 {k : Nat} (h : 2 ≤ k) : nI k + (-2 : Int32) = nI (k - 2) := by
  have e : nI (k - 2) + nI 2 = nI k := by rw [nI_add, show k - 2 + 2 = k from by omega]
  rw [← e, Int32.add_assoc, show nI 2 + (-2 : Int32) = 0 from by decide, Int32.add_zero]
theorem m_clamp {Q : Int32 → MH → Prop} {g : MH} {x : Int64} (hq : Q (clI x) g) : wX10_between_116 Q x g := by
  unfold clI at hq
  refine ⟨fun z => ⟨fun z2 => ?_, fun z2 => ?_⟩, fun z => ?_⟩
  · rw [if_neg (fun y => absurd ((lg_cmp_gt _ _).mpr y) (Int32.not_lt.mpr z)), if_neg (fun y => absurd ((lg_cmp_lt _ _).mpr y) (Int32.not_lt.mpr z2))] at hq
    exact hq
  · rw [if_neg (fun y => absurd ((lg_cmp_gt _ _).mpr y) (Int32.not_lt.mpr z)), if_pos ((lg_cmp_lt _ _).mp (Int32.not_le.mp z2))] at hq
    exact hq
  · rw [if_pos ((lg_cmp_gt _ _).mp (Int32.not_le.mp z))] at hq
    exact hq
theorem n_clamp {Q : Int32 → MH → Prop} {g : MH} {x : Int64} (hq : Q (clI x) g) : wX3_within x g Q := by
  unfold clI at hq
  unfold wX3_within
  by_cases a : (1000000 : Int64) < x
  · rw [if_pos a] at hq
    rw [if_neg (show ¬ x < (1000000 : Int64) from Int64.not_lt.mpr (Int64.le_of_lt a)), if_neg (by decide +kernel)]
    exact hq
  · rw [if_neg a] at hq
    have e : (if x < (1000000 : Int64) then x else (1000000 : Int64)) = x := by
      by_cases c : x < (1000000 : Int64)
      · rw [if_pos c]
      · rw [if_neg c]
        exact Int64.le_antisymm (Int64.not_lt.mp c) (Int64.not_lt.mp a)
    rw [e]
    by_cases c : x < (-1000000 : Int64)
    · rw [if_pos c] at hq ⊢
      exact hq
    · rw [if_neg c] at hq ⊢
      exact hq
